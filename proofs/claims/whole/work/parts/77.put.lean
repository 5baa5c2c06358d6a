/-! ===== put, putAt ===== -/
theorem ins_run {l : List Nat} {p : Nat} {J : List Nat} (h : run l [] = some []) (hJ : run J [] = some []) : run (l.take p ++ (J ++ l.drop p)) [] = some [] := by
  have h2 : run (l.take p ++ l.drop p) [] = some [] := by rw [List.take_append_drop]; exact h
  rw [run_app] at h2 ⊢
  cases h1 : run (l.take p) [] with
  | none => rw [h1] at h2; cases h2
  | some st =>
    rw [h1, Option.bind_some] at h2
    rw [Option.bind_some, run_app, run_bal hJ, Option.bind_some]
    exact h2
theorem ins_ins {l : List Nat} {p c d : Nat} (hp : p ≤ l.length) : ins (ins l p c) (p + 1) d = l.take p ++ ([c, d] ++ l.drop p) := by
  unfold ins
  have e : (l.take p).length = p := by rw [List.length_take]; omega
  rw [List.take_append, List.drop_append, e, List.take_of_length_le (by omega), List.drop_of_length_le (l := l.take p) (by omega), show p + 1 - p = 1 from by omega]
  simp
theorem off_same {x x' : XS} {r : Nat} {l : List Nat} (h : sq x' = va_up (sq x) r l) : off x' r = off x r := by
  rw [off_ofS, off_ofS, h]
  exact (ofS_up r).1 (Nat.le_refl _)
section ADM
variable {u : HS} {v : MS} {T n N E r p : Nat}
theorem admit_no {a' : SS} (h3 : N ≤ 8) (h9 : u.2.2.1 3 = nI N) : f_X3_admit_83 0 (hN (bgn u N) a') = some (-5, hX (hN (bgn u N) a') ((N + 1) % 9)) := by
  unfold f_X3_admit_83
  have e := end_no (w := hN (bgn u N) a') h3 h9
  rw [e, Option.bind_some, if_pos rfl]
theorem admit_yes {a' : SS} (h2 : n ≤ 8) (h3 : N ≤ 8) (h9 : u.2.2.1 3 = nI N) (h7 : u.2.2.1 4 = nI n) (h5 : u.2.2.1 5 = nI T) : f_X3_admit_83 1 (hN (bgn u N) a') = some (nI T, hI (hI (hI (hN (bgn u N) a') 3 (nI ((N + 1) % 9))) 4 (nI (if n < 8 then n + 1 else 8))) 5 (nI (T + 1))) := by
  unfold f_X3_admit_83
  have e := end_yes (w := hN (bgn u N) a') h3 h2 h9 h7
  have e5 : (hI (hI (hN (bgn u N) a') 3 (nI ((N + 1) % 9))) 4 (nI (if n < 8 then n + 1 else 8))).2.2.1 5 = nI T := by
    rw [hI_ne (by decide), hI_ne (by decide)]; exact h5
  rw [e, Option.bind_some, if_neg (by decide), e5, nI_1, hI_at, nI_pred]
/-- what save leaves, and what may happen behind it -/
def Sv (v v1 : MS) : Prop := (∀ j, j ≠ 20 → v1.1 j = v.1 j) ∧ CQ (slot v1 8) (core v) ∧ (∀ k, k < 8 → CQ (slot v1 k) (slot v k)) ∧ CQ (core v1) (core v)
theorem save_Sv (v : MS) : ∃ v1, f_X4_save 8 v = some v1 ∧ Sv v v1 := by
  obtain ⟨v1, a1, a2, a3, a4⟩ := save8 v
  exact ⟨v1, a1, a2.1, a3, a4, FR_core a2⟩
theorem load_Sv {v1 v2 : MS} {I A B : List Nat} (h : Sv v v1) (hF : Fm I A B v1 v2) (h16 : 16 ∉ A) (h17 : 17 ∉ B) : ∃ w, f_X4_load 8 v2 = some w ∧ CQ (core w) (core v) ∧ (∀ k, k < 8 → CQ (slot w k) (slot v k)) ∧ ∀ j, j ≠ 20 → j ≠ 15 → j ∉ I → w.1 j = v.1 j := by
  obtain ⟨w, l1, l2, l3, l4, l5⟩ := load_ok v2 8 (Nat.le_refl _)
  have hs : ∀ k, slot w k = slot v1 k := by
    intro k
    rw [← slot_Fm hF h16 h17]
    unfold slot
    rw [l4, l5]
  refine ⟨w, l1, ?_, fun k hk => ?_, fun j j1 j2 j3 => ?_⟩
  · rw [slot_Fm hF h16 h17] at l2
    exact l2.trans h.2.1
  · rw [hs]; exact h.2.2.1 k hk
  · rw [l3 j j1 j2, hF.1 j j3, h.1 j j1]
/-- a change that is kept -/
theorem keep_Sv {v1 v2 : MS} {I A B : List Nat} (h : Sv v v1) (hF : Fm I A B v1 v2) (h16 : 16 ∉ A) (h17 : 17 ∉ B) (i18 : 18 ∉ I) (i19 : 19 ∉ I) (h2 : n ≤ 8) (h4 : E < 8) (h10 : v.1 18 = nI E) (h8 : v.1 19 = nI n) : ∃ w, f_X4_keep v2 = some w ∧ w.1 18 = nI ((E + 1) % 8) ∧ w.1 19 = nI (if n < 8 then n + 1 else 8) ∧ CQ (slot w E) (core v) ∧ (∀ k, k < 8 → k ≠ E → CQ (slot w k) (slot v k)) ∧ CQ (core w) (core v2) ∧ ∀ j, j ≠ 18 → j ≠ 19 → w.1 j = v2.1 j := by
  obtain ⟨w, b1, b2, b3, b4, b5, b6, b7, b8⟩ := keep_ok (v := v2) h4 h2 (by rw [hF.1 18 i18, h.1 18 (by decide)]; exact h10) (by rw [hF.1 19 i19, h.1 19 (by decide)]; exact h8)
  refine ⟨w, b1, b2, b3, ?_, fun k hk hk2 => ?_, ?_, b4⟩
  · rw [slot_Fm hF h16 h17] at b7
    exact b7.trans h.2.1
  · have := b8 k hk hk2
    rw [slot_Fm hF h16 h17] at this
    exact this.trans (h.2.2.1 k hk)
  · unfold core CQ
    dsimp only
    exact ⟨fun i _ => by rw [b5 2 (by decide)], fun i _ => by rw [b5 3 (by decide)], fun i _ => by rw [b5 4 (by decide)], fun i _ => by rw [b5 5 (by decide)], fun i _ => by rw [b5 6 (by decide)], fun i _ => by rw [b5 7 (by decide)], fun i _ => by rw [b5 8 (by decide)], fun i _ => by rw [b5 11 (by decide)], fun i _ => by rw [b5 12 (by decide)], fun i _ => by rw [b5 13 (by decide)], fun i _ => by rw [b5 14 (by decide)], fun i _ => by rw [b6 9 (by decide)], fun i _ => by rw [b6 10 (by decide)], b4 15 (by decide) (by decide)⟩
/-- the beginning of a row, or right behind one of it -/
def Bh (x : XS) (r p : Nat) (b : Int32) : Prop := (b = -1 ∧ p = 0) ∨ ∃ d ∈ sq x r, b = nI d ∧ p = pos (sq x r) d + 1
theorem q_behind {a : SS} {x : XS} (hC : CA a x) (hI : Inv T x) (hr : r < 8) {b : Int32} (h : Bh x r p b) : f_X2_placeBehind (nI r) b a = some (nI (off x r + p)) ∧ p ≤ (sq x r).length := by
  unfold f_X2_placeBehind
  rcases h with ⟨h1, h2⟩ | ⟨d, hd, h1, h2⟩
  · rw [if_pos h1, q_first hC hr, Option.bind_some, h2]
    exact ⟨rfl, Nat.zero_le _⟩
  · have := sq_lt hI hr hd
    have := pos_lt hd
    rw [h1, if_neg (ne_m1 (by omega)), q_placeOf hC hI hr hd, Option.bind_some, nI_1, h2]
    exact ⟨rfl, by omega⟩
theorem admit_both (hr : Rl u v) {T0 : Nat} {x : XS} (hnow : Now u v T0 x) (hr8 : r < 8) (hk : xk x r ≠ -1) {b : Int32} (hb : Bh x r p b) : ∃ z w, f_X3_admit (nI r) b u = some z ∧ f_X4_putNew (nI r) (nI p) v = some w ∧ z.1 = w.1 ∧ Rl z.2 w.2 := by
  obtain ⟨T, n, N, E, h1, h2, h3, h4, h5, h6, h7, h8, h9, h10, h11, h12⟩ := id hr
  obtain ⟨hC, hM, hV0, hNe, h5', h6''⟩ := hnow
  have hT0 := hV0.1
  have hTT : T = T0 := (nI_eq (by omega) (by omega)).mp (h6.symm.trans h6'')
  subst hTT
  obtain ⟨g0, hp⟩ := q_behind hC hV0 hr8 hb
  have ho6 := off_le6 hV0 hr8
  by_cases hT : T = 300
  · subst hT
    refine ⟨(-5, u), (-5, v), ?_, ?_, rfl, hr⟩
    · unfold f_X3_admit
      rw [h5, if_neg (by decide)]
    · unfold f_X4_putNew
      rw [h6, if_pos (by decide)]
  · have hT3 : T < 300 := by omega
    obtain ⟨v1, s1, hSv⟩ := save_Sv v
    have hM1 : MA (core v1) x := MA_CQ hV0 hSv.2.2.2 hM
    have hV1 : Inv (T + 1) x := Inv_mono (by omega) (by omega) hV0
    have v11 : v1.1 1 = nI T := by rw [hSv.1 1 (by decide)]; exact h6
    have hlt : ∀ s, s < 8 → ∀ e ∈ sq x s, e < 2 * T := fun s hs e he => hV0.2.2.2.2.1 s hs e he
    have hO1 : Out x (2 * T) := ⟨by omega, fun s hs z => by have := hlt s hs _ z; omega⟩
    have hbg : (bgn u N).2.2.2.2.1 = u.2.2.2.2.1 := rfl
    have hb5 : (bgn u N).2.2.1 5 = nI T := h5
    have kC : ∀ (a' : SS) (x' : XS), CA a' x' → xk x' = xk x → a'.2.2.1 2 r = xk x r := fun a' x' hC' hx' => by rw [(hC'.1 r hr8).1, hx']
    -- the class's head
    have A0 : f_X3_admit (nI r) b u = (f_X2_bring (nI r) (nI (off x r + p)) (nI (2 * T)) u.2.2.2.2.1).bind (fun z6 => (if z6.1 = 0 then f_X3_admit_83 z6.1 (hN (bgn u N) z6.2) else (if ix (nI r) 8 = true then (if (((hN (bgn u N) z6.2).2.2.2.2.1.2.2.1 2) (Int32.toNatClampNeg (nI r))) = (3 : Int32) then (f_X2_bring (nI r) (nI (off x r + p) + 1) ((2 * ((hN (bgn u N) z6.2).2.2.1 5)) + 1) (hN (bgn u N) z6.2).2.2.2.2.1).bind (fun z11 => f_X3_admit_83 z11.1 (hN (hN (bgn u N) z6.2) z11.2)) else f_X3_admit_83 z6.1 (hN (bgn u N) z6.2)) else none))) := by
      unfold f_X3_admit
      rw [h5, if_pos (show nI T < 300 from nI_lt (b := 300) hT3 (by omega)), begin_eq h3 h9, Option.bind_some, hbg, g0, Option.bind_some, hb5, two_nI]
    have M0 : f_X4_putNew (nI r) (nI p) v = (f_X4_come (nI r) (nI p) (nI (2 * T)) v1).bind (fun z4 => (if z4.1 = 0 then f_X4_putNew_63 z4.1 z4.2 else (if ix (nI r) 8 = true then (if (z4.2.2.1 2 (Int32.toNatClampNeg (nI r))) = (3 : Int32) then (f_X4_come (nI r) (nI p + 1) ((2 * (z4.2.1 1)) + 1) z4.2).bind (fun z9 => f_X4_putNew_63 z9.1 z9.2) else f_X4_putNew_63 z4.1 z4.2) else none))) := by
      unfold f_X4_putNew
      rw [h6, if_neg (show ¬ nI T = 300 from fun z => hT ((nI_eq (a := T) (b := 300) (by omega) (by omega)).mp z)), s1, Option.bind_some, v11, two_nI]
    -- how it ends
    have Efail : ∀ (a' : SS) (v2 : MS), Fm [15, 22] [4, 5, 6, 7, 8, 11, 13] [9, 10, 21] v1 v2 → ∃ z w, f_X3_admit_83 0 (hN (bgn u N) a') = some z ∧ f_X4_putNew_63 0 v2 = some w ∧ z.1 = w.1 ∧ Rl z.2 w.2 := by
      intro a' v2 hF
      obtain ⟨w, l1, l2, l3, l4⟩ := load_Sv hSv hF (by decide) (by decide)
      refine ⟨_, (-5, w), admit_no h3 h9, ?_, rfl, chg_fail h1 h2 h3 h4 h11 h12 h5 h7 h9 rfl ?_ ?_ ?_ l2 l3⟩
      · unfold f_X4_putNew_63
        rw [if_pos rfl, l1, Option.bind_some]
      · rw [l4 1 (by decide) (by decide) (by decide)]; exact h6
      · rw [l4 18 (by decide) (by decide) (by decide)]; exact h10
      · rw [l4 19 (by decide) (by decide) (by decide)]; exact h8
    have Eok : ∀ (a' : SS) (v2 : MS) (x' : XS), Fm [15, 22] [4, 5, 6, 7, 8, 11, 13] [9, 10, 21] v1 v2 → CA a' x' → MA (core v2) x' → Inv (T + 1) x' → Nest x' → ∃ z w, f_X3_admit_83 1 (hN (bgn u N) a') = some z ∧ f_X4_putNew_63 1 v2 = some w ∧ z.1 = w.1 ∧ Rl z.2 w.2 := by
      intro a' v2 x' hF hC' hM' hV' hN'
      obtain ⟨w, k1, k2, k3, k4, k5, k6, k7⟩ := keep_Sv hSv hF (by decide) (by decide) (by decide) (by decide) h2 h4 h10 h8
      have w1 : w.1 1 = nI T := by rw [k7 1 (by decide) (by decide), hF.1 1 (by decide), v11]
      have ec : core (mF w 1 (nI (T + 1))) = core w := core_24 (by decide)
      have es : ∀ k, slot (mF w 1 (nI (T + 1))) k = slot w k := fun k => rfl
      refine ⟨_, (nI T, mF w 1 (nI (T + 1))), admit_yes h2 h3 h9 h7 h5, ?_, rfl, Rl_change (v := v) h2 h3 h4 (Nat.le_succ T) (by omega) h11 h12 hI_at ?_ ?_ rfl mF_at ?_ ?_ ?_ (fun k hk hk2 => ?_) ⟨x', hC', ?_, hV', hN'⟩⟩
      · unfold f_X4_putNew_63
        rw [if_neg (by decide), k1, Option.bind_some, w1, nI_1, mF_at, nI_pred]
      · rw [hI_ne (by decide), hI_at]
      · rw [hI_ne (by decide), hI_ne (by decide), hI_at]
      · rw [mF_ne (by decide)]; exact k2
      · rw [mF_ne (by decide)]; exact k3
      · rw [es]; exact k4
      · rw [es]; exact k5 k hk hk2
      · rw [ec]; exact MA_CQ hV' k6 hM'
    rcases come_main (d := 2 * T) hC hM1 hV1 hr8 hk hp hO1 (by omega) (fun s hs _ e he => by have := hlt s hs e he; omega) (fun _ => by omega) with ⟨a', v2, g1, g2, f2⟩ | ⟨a', v2, x', g1, g2, f2, hC', hM', hV', hsq', hk'⟩
    · rw [g1, Option.bind_some, if_pos rfl] at A0
      rw [g2, Option.bind_some, if_pos rfl] at M0
      obtain ⟨z, w, e1, e2, e3, e4⟩ := Efail a' v2 f2
      exact ⟨z, w, A0.trans e1, M0.trans e2, e3, e4⟩
    · have kA : (hN (bgn u N) a').2.2.2.2.1.2.2.1 2 (Int32.toNatClampNeg (nI r)) = xk x r := by rw [nI_clamp (by omega)]; exact kC a' x' hC' hk'
      have kM : v2.2.1 2 (Int32.toNatClampNeg (nI r)) = xk x r := by
        rw [nI_clamp (by omega), ← hk']; exact (hM'.1 r hr8).1
      have n5 : (hN (bgn u N) a').2.2.1 5 = nI T := h5
      have v21 : v2.1 1 = nI T := by rw [f2.1 1 (by decide), v11]
      rw [g1, Option.bind_some, if_neg (show ¬ (1 : Int32) = 0 by decide), if_pos (ix_nI hr8 (by omega)), kA] at A0
      rw [g2, Option.bind_some, if_neg (show ¬ (1 : Int32) = 0 by decide), if_pos (ix_nI hr8 (by omega)), kM] at M0
      by_cases hk3 : xk x r = 3
      · rw [if_pos hk3, n5, two1, nI_1] at A0
        rw [if_pos hk3, v21, two1, nI_1] at M0
        have hsr : sq x' r = ins (sq x r) p (2 * T) := by rw [hsq', va_up_self]
        have hmem' : ∀ s, s < 8 → ∀ e ∈ sq x' s, e < 2 * T ∨ (s = r ∧ e = 2 * T) := by
          intro s hs e he
          rw [hsq'] at he
          by_cases z : s = r
          · subst z
            rw [va_up_self] at he
            rcases ins_mem.mp he with w | w
            · exact Or.inr ⟨rfl, w⟩
            · exact Or.inl (hlt s hs e w)
          · rw [va_up_ne _ _ z] at he
            exact Or.inl (hlt s hs e he)
        have hO2 : Out x' (2 * T + 1) := ⟨by omega, fun s hs z => by
          rcases hmem' s hs _ z with w | ⟨-, w⟩ <;> omega⟩
        have hoff : off x' r + (p + 1) = off x r + p + 1 := by rw [off_same hsq']; omega
        rcases come_main (p := p + 1) (d := 2 * T + 1) hC' hM' hV' hr8 (by rw [hk']; exact hk) (by rw [hsr, ins_len hp]; omega) hO2 (by omega) (fun s hs hsr' e he => by
          rcases hmem' s hs e he with w | ⟨w, -⟩
          · omega
          · exact absurd w hsr') (fun z => absurd (by rw [hk']; exact hk3) z) with ⟨a2, v3, q1, q2, q3⟩ | ⟨a2, v3, x2, q1, q2, q3, hC2, hM2, hV2, hsq2, hk2⟩
        · rw [hoff] at q1
          have q1' : f_X2_bring (nI r) (nI (off x r + p + 1)) (nI (2 * T + 1)) (hN (bgn u N) (1, a').2).2.2.2.2.1 = some (0, a2) := q1
          rw [q1', Option.bind_some] at A0
          rw [q2, Option.bind_some] at M0
          obtain ⟨z, w, e1, e2, e3, e4⟩ := Efail a2 v3 (f2.tr q3)
          exact ⟨z, w, A0.trans e1, M0.trans e2, e3, e4⟩
        · rw [hoff] at q1
          have q1' : f_X2_bring (nI r) (nI (off x r + p + 1)) (nI (2 * T + 1)) (hN (bgn u N) (1, a').2).2.2.2.2.1 = some (1, a2) := q1
          rw [q1', Option.bind_some] at A0
          rw [q2, Option.bind_some] at M0
          have hN2 : Nest x2 := by
            intro s hs w
            rw [hk2, hk'] at w
            rw [hsq2]
            by_cases z : s = r
            · subst z
              rw [va_up_self, hsr, ins_ins hp]
              refine ins_run (hNe s hs w) ?_
              rw [run_e (by omega), run_o (by omega), if_pos rfl, run_n]
            · rw [va_up_ne _ _ z, hsq', va_up_ne _ _ z]
              exact hNe s hs w
          obtain ⟨z, w, e1, e2, e3, e4⟩ := Eok a2 v3 x2 (f2.tr q3) hC2 hM2 hV2 hN2
          exact ⟨z, w, A0.trans e1, M0.trans e2, e3, e4⟩
      · rw [if_neg hk3] at A0
        rw [if_neg hk3] at M0
        have hN2 : Nest x' := by
          intro s hs w
          rw [hk'] at w
          rw [hsq']
          by_cases z : s = r
          · subst z; exact absurd w hk3
          · rw [va_up_ne _ _ z]
            exact hNe s hs w
        obtain ⟨z, w, e1, e2, e3, e4⟩ := Eok a' v2 x' f2 hC' hM' hV' hN2
        exact ⟨z, w, A0.trans e1, M0.trans e2, e3, e4⟩
end ADM
theorem Pl_Bh {x : XS} {r : Nat} {y b : Int32} {e p : Nat} (h : Pl x r y e p b) : Bh x r p b := by
  rcases h with ⟨h1, h2, h3, h4⟩ | ⟨t, h1, h2, h3, h4, h5, h6⟩
  · exact Or.inl ⟨h4, h3⟩
  · exact Or.inr ⟨_, h3, h6, h5⟩
theorem st_put : Sp_put Rl := by
  intro u v x1 x2 x3 hr hx3
  obtain ⟨e, he, rfl⟩ : ∃ e, e < 2 ∧ x3 = nI e := by
    rcases hx3 with z | z
    · exact ⟨0, by omega, z⟩
    · exact ⟨1, by omega, z⟩
  obtain ⟨T, x, h⟩ := hr.now
  have h' := p_th h
  obtain ⟨hC, hM, hI, hN, h5, h6⟩ := id h
  obtain ⟨-, hM', -, -, -, h6'⟩ := id h'
  rcases rw_dec x x1 with ⟨r, hq⟩ | hno
  · have a2 := p_isRow hM' hq
    obtain ⟨rfl, hr8, hk⟩ := hq
    rcases pl_dec x r x2 e with ⟨p, b, hp⟩ | hno
    · have a1 := (q_isPlace h hr8 hk x2 he).1 ⟨p, b, hp⟩
      have a3 := (p_behind hM' hI hN h6' hr8 x2 he).1 p b hp
      obtain ⟨hp1, -⟩ := pl_lt hI hr8 hp
      have hl6 := len600 hI hr8
      obtain ⟨z, w, g1, g2, g3, g4⟩ := admit_both (Rl_th hr) h' hr8 hk (Pl_Bh hp)
      refine ⟨z, w, ?_, ?_, g3, g4⟩
      · unfold f_X3_put
        rw [a1, Option.bind_some, if_neg (by decide), standOf_pl hI hr8 he hp, Option.bind_some, g1, Option.bind_some]
      · unfold f_X4_put
        rw [a2, Option.bind_some, if_neg (by decide), a3, Option.bind_some, if_neg (fun y => by
          have : ¬ nI p < 0 := nI_pos (by omega)
          rw [y] at this
          exact this (by decide)), g2, Option.bind_some]
    · refine ⟨(-3, u), (-3, mF v 0 0), ?_, ?_, rfl, Rl_th hr⟩
      · unfold f_X3_put
        rw [(q_isPlace h hr8 hk x2 he).2 hno, Option.bind_some, if_pos rfl]
      · unfold f_X4_put
        rw [a2, Option.bind_some, if_neg (by decide), (p_behind hM' hI hN h6' hr8 x2 he).2 hno, Option.bind_some, if_pos rfl]
  · refine ⟨(-3, u), (-3, mF v 0 0), ?_, ?_, rfl, Rl_th hr⟩
    · unfold f_X3_put f_X3_isPlace
      rw [q_isRow_no hC hno, Option.bind_some, if_pos rfl, Option.bind_some, if_pos rfl]
    · unfold f_X4_put
      rw [p_isRow_no hM' hno, Option.bind_some, if_pos rfl]
theorem st_putAt : Sp_putAt Rl := by
  intro u v x1 hr
  obtain ⟨T, x, h⟩ := hr.now
  have h' := p_th h
  obtain ⟨hC, hM, hI, hN, h5, h6⟩ := id h
  obtain ⟨-, hM', -, -, -, h6'⟩ := id h'
  rcases mk_dec x x1 with ⟨m, hq⟩ | hno
  · have a1 := q_isSet hC hq
    have a2 := p_isMark hM' hq
    obtain ⟨rfl, hm, hk⟩ := hq
    obtain ⟨m1, m2, m3⟩ := hM'.2.2.2.2.2.2.1 m hm
    obtain ⟨c1, c2, c3⟩ := hC.2.2.2.2.2.2.2.1 m hm
    have e12 : (mF v 0 0).2.1 12 m = xm x 1 m := m1
    have e13 : (mF v 0 0).2.1 13 m = xm x 2 m := m2
    rcases hI.2.2.2.2.2.2 m hm with q | ⟨⟨r, hr8, q1, q2, q3⟩, -⟩
    · exact absurd q hk
    · have hb : ∃ p, Bh x r p (xm x 2 m) := by
        rcases q3 with q3 | ⟨d, hd, q3⟩
        · exact ⟨0, Or.inl ⟨q3, rfl⟩⟩
        · exact ⟨_, Or.inr ⟨d, hd, q3, rfl⟩⟩
      obtain ⟨p, hb⟩ := hb
      obtain ⟨z, w, g1, g2, g3, g4⟩ := admit_both (Rl_th hr) h' hr8 q2 hb
      refine ⟨z, w, ?_, ?_, g3, g4⟩
      · unfold f_X3_putAt
        rw [a1, Option.bind_some, if_neg (by decide), if_pos (ix_nI hm (by omega)), if_pos (ix_nI hm (by omega)), nI_clamp (by omega), c1, c2, q1, g1, Option.bind_some]
      · unfold f_X4_putAt
        rw [a2, Option.bind_some, if_neg (by decide), if_pos (ix_nI hm (by omega)), if_pos (ix_nI hm (by omega)), if_pos (ix_nI hm (by omega)), nI_clamp (by omega), e12, e13, q1]
        rcases hb with ⟨k1, k2⟩ | ⟨d, hd, k1, k2⟩
        · subst k2
          have g2' : f_X4_putNew (nI r) 0 (mF v 0 0) = some w := g2
          rw [if_pos k1, g2', Option.bind_some]
        · have := sq_lt hI hr8 hd
          rw [k1, if_neg (ne_m1 (by omega)), p_placeOf hM' hI hr8 hd, Option.bind_some, nI_1, ← k2, g2, Option.bind_some]
  · refine ⟨(-3, u), (-3, mF v 0 0), ?_, ?_, rfl, Rl_th hr⟩
    · unfold f_X3_putAt
      rw [q_isSet_no hC hno, Option.bind_some, if_pos rfl]
    · unfold f_X4_putAt
      rw [p_isMark_no hM' hno, Option.bind_some, if_pos rfl]
