/-! ===== move, join, split ===== -/
theorem cut_or_seg {l : List Nat} {f n d : Nat} (hd : d ∈ l) (h : d ∉ seg l f n) : d ∈ cut l f (f + n) := by
  rw [split3 (l := l) (f := f) (n := n)] at hd
  unfold cut
  rcases List.mem_append.mp hd with z | z
  · exact List.mem_append_left _ z
  · rcases List.mem_append.mp z with z | z
    · exact absurd z h
    · exact List.mem_append_right _ z
section LASTS
variable {a : SS} {x : XS} {T r : Nat}
theorem q_lastStand (hC : CA a x) (hI : Inv T x) (hr : r < 8) : ∃ b, f_X1_lastStand (nI r) a.1 = some b ∧ Bh x r (sq x r).length b := by
  have h6 := off_le6 hI hr
  have hl := len600 hI hr
  by_cases z : (sq x r).length = 0
  · refine ⟨-1, ?_, Or.inl ⟨rfl, z⟩⟩
    unfold f_X1_lastStand
    rw [q_length hC hr, Option.bind_some, z, if_pos (by decide)]
  · have hm := getD_mem (l := sq x r) (i := (sq x r).length - 1) (by omega)
    refine ⟨nI ((sq x r).getD ((sq x r).length - 1) 0), ?_, Or.inr ⟨_, hm, rfl, ?_⟩⟩
    · unfold f_X1_lastStand
      have e1 : nI (off x r + (sq x r).length) - 1 = nI (off x r + ((sq x r).length - 1)) := by
        refine Eq.trans (pk_sub (a := off x r + (sq x r).length) (b := 1) (by omega)) ?_
        congr 1
        omega
      rw [q_length hC hr, Option.bind_some, if_neg (nI_nle (by omega) (by omega)), q_end hC hr, Option.bind_some, e1, q_standR hC hI hr (by omega), Option.bind_some]
    · rw [pos_of (hI.2.2.1 r hr) (by omega)]
      omega
end LASTS
theorem st_move : Sp_move Rl := by
  intro u v x1 x2 x3 hr hx3
  obtain ⟨e, he, rfl⟩ : ∃ e, e < 2 ∧ x3 = nI e := by
    rcases hx3 with z | z
    · exact ⟨0, by omega, z⟩
    · exact ⟨1, by omega, z⟩
  have hrt := Rl_th hr
  obtain ⟨T, n, N, E, h1, h2, h3, h4, h5, h6, h7, h8, h9, h10, h11, h12⟩ := id hrt
  obtain ⟨x, hC, hM, hV, hNe⟩ := id h11
  have hnow : Now u (mF v 0 0) T x := ⟨hC, hM, hV, hNe, h5, h6⟩
  rcases thg_dec x x1 with ⟨t, r, hq⟩ | hno
  · have a1 := q_isStanding hnow hq
    have a2 := p_isThing hM hV h6 hq
    obtain ⟨rfl, hr8, hm⟩ := hq
    have hk := row_nz hV hr8 hm
    have hl6 := len600 hV hr8
    have ho6 := off_le6 hV hr8
    have ht6 := sq_lt hV hr8 hm
    have hpt := pos_lt hm
    obtain ⟨l1, l2, l3⟩ := q_lastPlace hC hV hNe hr8 hm
    have hbal := spn_bal hV hNe hr8 hm
    have hnd := hV.2.2.1 r hr8
    rcases pl_dec x r x2 e with ⟨p, b, hp⟩ | hno
    · have a3 := (q_isPlace hnow hr8 hk x2 he).1 ⟨p, b, hp⟩
      have a4 := (p_behind hM hV hNe h6 hr8 x2 he).1 p b hp
      obtain ⟨hp1, -⟩ := pl_lt hV hr8 hp
      have hpn : ¬ nI p = -3 := fun y => by
        have : ¬ nI p < 0 := nI_pos (by omega)
        rw [y] at this
        exact this (by decide)
      -- the heads
      have C0 : f_X3_move (nI t) x2 (nI e) u = (if x2 = nI t then some ((-4), u) else (if x2 = ((-1) : Int32) then f_X3_move_63 (nI t) x2 (nI e) (nI r) u else (f_X2_encloses (nI t) x2 u.2.2.2.2.1).bind (fun z11 => (if z11 = 0 then f_X3_move_63 (nI t) x2 (nI e) (nI r) u else some ((-4), u))))) := by
        unfold f_X3_move
        rw [a1, Option.bind_some, if_neg (by decide), q_rowT hC hV hr8 hm, Option.bind_some, a3, Option.bind_some, if_neg (by decide)]
      have M0 : f_X4_move (nI t) x2 (nI e) v = (if x2 = ((-1) : Int32) then f_X4_move_93 x2 (nI e) (nI r) (nI (pos (sq x r) (2 * t))) (nI (spn x r t)) (mF v 0 0) else (f_X4_placeOf (nI r) (2 * x2) (mF v 0 0)).bind (fun z14 => (f_X4_in z14 (nI (pos (sq x r) (2 * t))) ((nI (pos (sq x r) (2 * t)) + nI (spn x r t)) - 1)).bind (fun z16 => (if z16 = 0 then f_X4_move_93 x2 (nI e) (nI r) (nI (pos (sq x r) (2 * t))) (nI (spn x r t)) (mF v 0 0) else some ((-4), (mF v 0 0)))))) := by
        unfold f_X4_move
        rw [a2, Option.bind_some, if_neg (by decide), p_rowT hM hV hr8 hm, Option.bind_some, a4, Option.bind_some, if_neg hpn, p_placeT hM hV hr8 hm, Option.bind_some, p_span hM hV hNe hr8 hm, Option.bind_some]
      -- the change
      have go : (∀ x1', sq x1' = va_up (sq x) r (cut (sq x r) (pos (sq x r) (2 * t)) (pos (sq x r) (2 * t) + spn x r t)) → xk x1' = xk x → ∃ P, Pl x1' r x2 e P b) → ∃ z w, f_X3_move_63 (nI t) x2 (nI e) (nI r) u = some z ∧ f_X4_move_93 x2 (nI e) (nI r) (nI (pos (sq x r) (2 * t))) (nI (spn x r t)) (mF v 0 0) = some w ∧ z.1 = w.1 ∧ Rl z.2 w.2 := by
        intro hPl
        obtain ⟨v1, s1, hSv⟩ := save_Sv (mF v 0 0)
        -- the place in the row without them
        obtain ⟨P0, hP0⟩ := hPl (xLv x r (xb x r) 0 0 |> fun _ => (xk x, xw x, xg x, va_up (xb x) r [(0, cut (sq x r) (pos (sq x r) (2 * t)) (pos (sq x r) (2 * t) + spn x r t))], xi x, xm x, xr x)) (by
          funext s
          by_cases z : s = r
          · subst z
            rw [va_up_self]
            show idl (va_up (xb x) s _ s) = _
            rw [va_up_self, idl_cons, idl_nil, List.append_nil]
          · rw [va_up_ne _ _ z]
            show idl (va_up (xb x) r _ s) = _
            rw [va_up_ne _ _ z]
            rfl) rfl
        have hall : ∀ x1', sq x1' = va_up (sq x) r (cut (sq x r) (pos (sq x r) (2 * t)) (pos (sq x r) (2 * t) + spn x r t)) → Bh x1' r P0 b := by
          intro x1' hx1
          have hB0 := Pl_Bh hP0
          have e0 : sq (xk x, xw x, xg x, va_up (xb x) r [(0, cut (sq x r) (pos (sq x r) (2 * t)) (pos (sq x r) (2 * t) + spn x r t))], xi x, xm x, xr x) r = cut (sq x r) (pos (sq x r) (2 * t)) (pos (sq x r) (2 * t) + spn x r t) := by
            show idl (va_up (xb x) r _ r) = _
            rw [va_up_self, idl_cons, idl_nil, List.append_nil]
          have e1 : sq x1' r = cut (sq x r) (pos (sq x r) (2 * t)) (pos (sq x r) (2 * t) + spn x r t) := by rw [hx1, va_up_self]
          unfold Bh at hB0 ⊢
          rw [e1]
          have hB1 : b = -1 ∧ P0 = 0 ∨ ∃ d ∈ sq (xk x, xw x, xg x, va_up (xb x) r [(0, cut (sq x r) (pos (sq x r) (2 * t)) (pos (sq x r) (2 * t) + spn x r t))], xi x, xm x, xr x) r, b = nI d ∧ P0 = pos (sq (xk x, xw x, xg x, va_up (xb x) r [(0, cut (sq x r) (pos (sq x r) (2 * t)) (pos (sq x r) (2 * t) + spn x r t))], xi x, xm x, xr x) r) d + 1 := hB0
          rw [e0] at hB1
          exact hB1
        obtain ⟨v2, x1', g2, hM2, hI2, hN2, v21, hsq, hxk, z, w, c1, c2, c3, c4⟩ := carry_both (q := r) (P := P0) (b := b) h1 h2 h3 h4 h5 h6 h7 h8 h9 h10 h11 h12 hC hM hV hNe hr8 hk hr8 rfl l2 hbal hSv hall
        obtain ⟨P1, hP1⟩ := hPl x1' hsq hxk
        have hPe : P1 = P0 := by
          have b1 := Pl_Bh hP1
          have b0 := hall x1' hsq
          have hd6 : ∀ d ∈ sq x1' r, d < 600 := fun d hd => sq_lt hI2 hr8 hd
          rcases b1 with ⟨k1, k2⟩ | ⟨d, hd, k1, k2⟩
          · rcases b0 with ⟨j1, j2⟩ | ⟨d', hd', j1, j2⟩
            · omega
            · rw [j1] at k1
              exact absurd k1 (ne_m1 (by have := hd6 _ hd'; omega))
          · rcases b0 with ⟨j1, j2⟩ | ⟨d', hd', j1, j2⟩
            · rw [k1] at j1
              exact absurd j1 (ne_m1 (by have := hd6 _ hd; omega))
            · have : d = d' := (nI_eq (by have := hd6 _ hd; omega) (by have := hd6 _ hd'; omega)).mp (k1.symm.trans j1)
              subst this
              omega
        subst hPe
        refine ⟨z, w, ?_, ?_, c3, c4⟩
        · unfold f_X3_move_63
          rw [q_first2 hC hV hr8 hm, Option.bind_some, l1, Option.bind_some, standOf_pl hV hr8 he hp, Option.bind_some, nI_1, show off x r + (pos (sq x r) (2 * t) + spn x r t) - 1 + 1 = off x r + (pos (sq x r) (2 * t) + spn x r t) from by omega, c1, Option.bind_some]
        · have a5 := (p_behind hM2 hI2 hN2 v21 hr8 x2 he).1 P1 b hP1
          unfold f_X4_move_93
          rw [s1, Option.bind_some, g2, Option.bind_some]
          show (f_X4_placeBehind (nI r) x2 (nI e) v2).bind _ = _
          rw [a5, Option.bind_some]
          exact c2
      rcases id hp with ⟨k1, k2, k3, k4⟩ | ⟨s, k1, k2, k3, k4, k5, k6⟩
      · rw [if_neg (fun y => by rw [k1] at y; exact absurd y.symm (ne_m1 (by omega))), if_pos k1] at C0
        rw [if_pos k1] at M0
        obtain ⟨z, w, g1, g2, g3, g4⟩ := go (fun x1' _ _ => ⟨0, Or.inl ⟨k1, k2, rfl, k4⟩⟩)
        exact ⟨z, w, C0.trans g1, M0.trans g2, g3, g4⟩
      · have hs6 := sq_lt hV hr8 k2
        have hps := pos_lt k2
        have hne1 : ¬ x2 = -1 := by rw [k1]; exact ne_m1 (by omega)
        rw [if_neg hne1] at C0 M0
        have hin : (pos (sq x r) (2 * t) ≤ pos (sq x r) (2 * s) ∧ pos (sq x r) (2 * s) < pos (sq x r) (2 * t) + spn x r t) ↔ (s = t ∨ Wi x r t s) := by
          unfold Wi enc spn
          by_cases w3 : xk x r = 3
          · obtain ⟨t1, t2, -⟩ := thing_at (hNe r hr8 w3) hnd hm
            have hne : pos (sq x r) (2 * s) ≠ pos (sq x r) (2 * t + 1) := fun y => by have := pos_inj k2 t1 y; omega
            rw [if_pos w3]
            constructor
            · rintro ⟨y1, y2⟩
              by_cases y3 : pos (sq x r) (2 * s) = pos (sq x r) (2 * t)
              · exact Or.inl (by have := pos_inj k2 hm y3; omega)
              · exact Or.inr ⟨w3, by omega, by omega⟩
            · rintro (y | ⟨-, y1, y2⟩)
              · subst y; exact ⟨Nat.le_refl _, by omega⟩
              · exact ⟨by omega, by omega⟩
          · rw [if_neg w3]
            constructor
            · rintro ⟨y1, y2⟩
              exact Or.inl (by have := pos_inj k2 hm (by omega); omega)
            · rintro (y | ⟨y, -⟩)
              · subst y; exact ⟨Nat.le_refl _, by omega⟩
              · exact absurd y w3
        have e9 : nI (pos (sq x r) (2 * t)) + nI (spn x r t) - 1 = nI (pos (sq x r) (2 * t) + spn x r t - 1) := by
          rw [nI_add]
          exact pk_sub (b := 1) (by omega)
        rw [k1, p_placeT hM hV hr8 k2, Option.bind_some, e9] at M0
        rw [k1] at C0 ⊢
        by_cases hc : pos (sq x r) (2 * t) ≤ pos (sq x r) (2 * s) ∧ pos (sq x r) (2 * s) < pos (sq x r) (2 * t) + spn x r t
        · have ei : f_X4_in (nI (pos (sq x r) (2 * s))) (nI (pos (sq x r) (2 * t))) (nI (pos (sq x r) (2 * t) + spn x r t - 1)) = some 1 := by
            unfold f_X4_in
            rw [if_neg (nI_nlt hc.1 (by omega)), if_neg (nI_nlt (by omega) (by omega))]
          rw [ei, Option.bind_some, if_neg (by decide)] at M0
          refine ⟨(-4, u), _, ?_, M0, rfl, hrt⟩
          rw [C0]
          rcases hin.mp hc with y | y
          · rw [if_pos (by rw [y])]
          · by_cases y2 : s = t
            · rw [if_pos (by rw [y2])]
            · rw [if_neg (fun q => y2 ((nI_eq (by omega) (by omega)).mp q)), (q_enc hC hV hNe hr8 hm k2).1 y, Option.bind_some, if_neg (by decide)]
        · have ei : f_X4_in (nI (pos (sq x r) (2 * s))) (nI (pos (sq x r) (2 * t))) (nI (pos (sq x r) (2 * t) + spn x r t - 1)) = some 0 := by
            unfold f_X4_in
            by_cases y : pos (sq x r) (2 * s) < pos (sq x r) (2 * t)
            · rw [if_pos (nI_lt y (by omega))]
            · rw [if_neg (nI_nlt (by omega) (by omega)), if_pos (nI_lt (by omega) (by omega))]
          rw [ei, Option.bind_some, if_pos rfl] at M0
          have hnot : ¬ (s = t ∨ Wi x r t s) := fun y => hc (hin.mpr y)
          have hst : s ≠ t := fun y => hnot (Or.inl y)
          have hnw : ¬ Wi x r t s := fun y => hnot (Or.inr y)
          rw [if_neg (fun q => hst ((nI_eq (by omega) (by omega)).mp q)), (q_enc hC hV hNe hr8 hm k2).2 hnw, Option.bind_some, if_pos rfl] at C0
          -- it stays where it is
          have hns : 2 * s ∉ seg (sq x r) (pos (sq x r) (2 * t)) (spn x r t) := by
            have := seg_mem hnd (p := pos (sq x r) (2 * t)) (n := spn x r t) (i := pos (sq x r) (2 * s)) l2 hps
            rw [pos_at k2] at this
            exact fun y => hc (this.mp y)
          have hne' : 2 * s + e ∉ seg (sq x r) (pos (sq x r) (2 * t)) (spn x r t) := by
            intro y
            rcases k4 with y2 | y2
            · subst y2; exact hns y
            · have hsn : (seg (sq x r) (pos (sq x r) (2 * t)) (spn x r t)).Nodup := (hnd.sublist (List.drop_sublist _ _)).sublist (List.take_sublist _ _)
              have := (bal_mem (hbal y2) hsn y).1
              rw [show 2 * ((2 * s + e) / 2) = 2 * s from by omega] at this
              exact hns this
          obtain ⟨z, w, g1, g2, g3, g4⟩ := go (fun x1' hx1 hxk1 => by
            have e1 : sq x1' r = cut (sq x r) (pos (sq x r) (2 * t)) (pos (sq x r) (2 * t) + spn x r t) := by rw [hx1, va_up_self]
            exact ⟨_, Or.inr ⟨s, k1, by rw [e1]; exact cut_or_seg k2 hns, by rw [e1]; exact cut_or_seg k3 hne', by rw [hxk1]; exact k4, rfl, k6⟩⟩)
          rw [k1] at g1 g2
          exact ⟨z, w, C0.trans g1, M0.trans g2, g3, g4⟩
    · refine ⟨(-3, u), (-3, mF v 0 0), ?_, ?_, rfl, hrt⟩
      · unfold f_X3_move
        rw [a1, Option.bind_some, if_neg (by decide), q_rowT hC hV hr8 hm, Option.bind_some, (q_isPlace hnow hr8 hk x2 he).2 hno, Option.bind_some, if_pos rfl]
      · unfold f_X4_move
        rw [a2, Option.bind_some, if_neg (by decide), p_rowT hM hV hr8 hm, Option.bind_some, (p_behind hM hV hNe h6 hr8 x2 he).2 hno, Option.bind_some, if_pos rfl]
  · refine ⟨(-3, u), (-3, mF v 0 0), ?_, ?_, rfl, hrt⟩
    · unfold f_X3_move
      rw [q_isStanding_no hnow hno, Option.bind_some, if_pos rfl]
    · unfold f_X4_move
      rw [p_isThing_no hM hV h6 hno, Option.bind_some, if_pos rfl]
theorem seg_all {l : List Nat} {f : Nat} : seg l f (l.length - f) = l.drop f := by
  unfold seg
  rw [List.take_of_length_le (by rw [List.length_drop]; omega)]
theorem Bh_other {x x1 : XS} {r q P : Nat} {b : Int32} {l : List Nat} (h : Bh x q P b) (hsq : sq x1 = va_up (sq x) r l) (hqr : q ≠ r) : Bh x1 q P b := by
  have e : sq x1 q = sq x q := by rw [hsq, va_up_ne _ _ hqr]
  unfold Bh at h ⊢
  rw [e]; exact h
theorem st_join : Sp_join Rl := by
  intro u v x1 x2 hr
  have hrt := Rl_th hr
  obtain ⟨T, n, N, E, h1, h2, h3, h4, h5, h6, h7, h8, h9, h10, h11, h12⟩ := id hrt
  obtain ⟨x, hC, hM, hV, hNe⟩ := id h11
  have bad : f_X3_join x1 x2 u = some (-3, u) → f_X4_join x1 x2 v = some (-3, mF v 0 0) → ∃ z w, f_X3_join x1 x2 u = some z ∧ f_X4_join x1 x2 v = some w ∧ z.1 = w.1 ∧ Rl z.2 w.2 := fun a b => ⟨_, _, a, b, rfl, hrt⟩
  rcases rw_dec x x1 with ⟨r, hq⟩ | hno
  · have a1 := q_isRow hC hq
    have a2 := p_isRow hM hq
    obtain ⟨rfl, hr8, hk⟩ := hq
    rcases rw_dec x x2 with ⟨q, hq⟩ | hno
    · have b1 := q_isRow hC hq
      have b2 := p_isRow hM hq
      obtain ⟨rfl, hq8, hkq⟩ := hq
      by_cases hrq : r = q
      · subst hrq
        refine bad ?_ ?_
        · unfold f_X3_join
          rw [a1, Option.bind_some, if_neg (by decide), Option.bind_some, if_neg (by decide), if_pos rfl]
        · unfold f_X4_join
          rw [a2, Option.bind_some, if_neg (by decide), Option.bind_some, if_neg (by decide), if_pos rfl]
      · have hnrq : ¬ nI r = nI q := fun y => hrq ((nI_eq (by omega) (by omega)).mp y)
        have e2r : (mF v 0 0).2.1 2 r = xk x r := (hM.1 r hr8).1
        have e2q : (mF v 0 0).2.1 2 q = xk x q := (hM.1 q hq8).1
        obtain ⟨bb, gl1, hBh⟩ := q_lastStand hC hV hq8
        have hl6 := len600 hV hr8
        have C0 : f_X3_join (nI r) (nI q) u = (if xk x r = xk x q then (f_X3_carry (nI r) (nI (off x r)) (nI (off x r + (sq x r).length)) (nI q) bb u).bind (fun z17 => some (z17.1, z17.2)) else some (-4, u)) := by
          unfold f_X3_join
          rw [a1, Option.bind_some, if_neg (by decide), b1, Option.bind_some, if_neg (by decide), if_neg hnrq, if_pos (ix_nI hr8 (by omega)), if_pos (ix_nI hq8 (by omega)), nI_clamp (by omega), nI_clamp (by omega), (hC.1 r hr8).1, (hC.1 q hq8).1, q_first hC hr8, Option.bind_some, q_end hC hr8, Option.bind_some, gl1, Option.bind_some]
        by_cases hkk : xk x r = xk x q
        · rw [if_pos hkk] at C0
          obtain ⟨v1, s1, hSv⟩ := save_Sv (mF v 0 0)
          have hM1 : MA (core v1) x := MA_CQ hV hSv.2.2.2 hM
          have hs0 : seg (sq x r) 0 (sq x r).length = sq x r := by
            have := seg_all (l := sq x r) (f := 0)
            rw [Nat.sub_zero, List.drop_zero] at this
            exact this
          obtain ⟨v2, x1', g2, hM2, hI2, hN2, v21, hsq, hxk, z, w, c1, c2, c3, c4⟩ := carry_both (r := r) (f := 0) (c := (sq x r).length) (q := q) (P := (sq x q).length) (b := bb) h1 h2 h3 h4 h5 h6 h7 h8 h9 h10 h11 h12 hC hM hV hNe hr8 hk hq8 hkk.symm (by omega) (fun w3 => by rw [hs0]; exact hNe r hr8 w3) hSv (fun x1' hx1 => Bh_other hBh hx1 (fun y => hrq y.symm))
          rw [Nat.add_zero, Nat.zero_add] at c1
          rw [c1, Option.bind_some] at C0
          have e4 : v1.2.1 4 r = nI (sq x r).length := hM1.2.1 r hr8
          have e4q : v2.2.1 4 q = nI (sq x q).length := by
            have h9 : v2.2.1 4 q = nI (sq x1' q).length := hM2.2.1 q hq8
            rw [h9, hsq, va_up_ne _ _ (fun y => hrq y.symm)]
          have g2' : f_X4_takeOut (nI r) 0 (nI (sq x r).length) v1 = some (nI (evn (seg (sq x r) 0 (sq x r).length)), v2) := g2
          refine ⟨_, w, C0, ?_, c3, c4⟩
          unfold f_X4_join
          rw [a2, Option.bind_some, if_neg (by decide), b2, Option.bind_some, if_neg (by decide), if_neg hnrq, if_pos (ix_nI hr8 (by omega)), if_pos (ix_nI hq8 (by omega)), nI_clamp (by omega), nI_clamp (by omega), e2r, e2q, if_pos hkk, s1, Option.bind_some, if_pos (ix_nI hr8 (by omega)), e4, g2', Option.bind_some, if_pos (ix_nI hq8 (by omega))]
          show (f_X4_bring (nI q) (v2.2.1 4 q) v2).bind _ = some w
          rw [e4q]
          exact c2
        · rw [if_neg hkk] at C0
          refine ⟨_, (-4, mF v 0 0), C0, ?_, rfl, hrt⟩
          unfold f_X4_join
          rw [a2, Option.bind_some, if_neg (by decide), b2, Option.bind_some, if_neg (by decide), if_neg hnrq, if_pos (ix_nI hr8 (by omega)), if_pos (ix_nI hq8 (by omega)), nI_clamp (by omega), nI_clamp (by omega), e2r, e2q, if_neg hkk]
    · refine bad ?_ ?_
      · unfold f_X3_join
        rw [a1, Option.bind_some, if_neg (by decide), q_isRow_no hC hno, Option.bind_some, if_pos rfl]
      · unfold f_X4_join
        rw [a2, Option.bind_some, if_neg (by decide), p_isRow_no hM hno, Option.bind_some, if_pos rfl]
  · refine bad ?_ ?_
    · unfold f_X3_join
      rw [q_isRow_no hC hno, Option.bind_some, if_pos rfl]
    · unfold f_X4_join
      rw [p_isRow_no hM hno, Option.bind_some, if_pos rfl]
theorem st_split : Sp_split Rl := by
  intro u v x1 x2 hr
  have hrt := Rl_th hr
  obtain ⟨T, n, N, E, h1, h2, h3, h4, h5, h6, h7, h8, h9, h10, h11, h12⟩ := id hrt
  obtain ⟨x, hC, hM, hV, hNe⟩ := id h11
  have hnow : Now u (mF v 0 0) T x := ⟨hC, hM, hV, hNe, h5, h6⟩
  have bad : f_X3_split x1 x2 u = some (-3, u) → f_X4_split x1 x2 v = some (-3, mF v 0 0) → ∃ z w, f_X3_split x1 x2 u = some z ∧ f_X4_split x1 x2 v = some w ∧ z.1 = w.1 ∧ Rl z.2 w.2 := fun a b => ⟨_, _, a, b, rfl, hrt⟩
  rcases thg_dec x x1 with ⟨t, r, hq⟩ | hno
  · have a1 := q_isStanding hnow hq
    have a2 := p_isThing hM hV h6 hq
    obtain ⟨rfl, hr8, hm⟩ := hq
    have hk := row_nz hV hr8 hm
    rcases rw_dec x x2 with ⟨q, hq⟩ | hno
    · have b1 := q_isRow hC hq
      have b2 := p_isRow hM hq
      obtain ⟨rfl, hq8, hkq⟩ := hq
      by_cases hrq : r = q
      · subst hrq
        refine bad ?_ ?_
        · unfold f_X3_split
          rw [a1, Option.bind_some, if_neg (by decide), b1, Option.bind_some, if_neg (by decide), q_rowT hC hV hr8 hm, Option.bind_some, if_pos rfl]
        · unfold f_X4_split
          rw [a2, Option.bind_some, if_neg (by decide), b2, Option.bind_some, if_neg (by decide), p_rowT hM hV hr8 hm, Option.bind_some, if_pos rfl]
      · have hnrq : ¬ nI r = nI q := fun y => hrq ((nI_eq (by omega) (by omega)).mp y)
        have e2r : (mF v 0 0).2.1 2 r = xk x r := (hM.1 r hr8).1
        have e2q : (mF v 0 0).2.1 2 q = xk x q := (hM.1 q hq8).1
        obtain ⟨bb, gl1, hBh⟩ := q_lastStand hC hV hq8
        obtain ⟨l1, l2, l3⟩ := q_lastPlace hC hV hNe hr8 hm
        have hl6 := len600 hV hr8
        have ho6 := off_le6 hV hr8
        obtain ⟨y, gy, hy⟩ := q_innermost hC hV hNe hr8 hm hm
        have C0 : f_X3_split (nI t) (nI q) u = (if xk x r = xk x q then (if y = ((-1) : Int32) then (f_X3_carry (nI r) (nI (off x r + (pos (sq x r) (2 * t) + spn x r t))) (nI (off x r + (sq x r).length)) (nI q) bb u).bind (fun z22 => some (z22.1, z22.2)) else some (-4, u)) else some (-4, u)) := by
          unfold f_X3_split
          rw [a1, Option.bind_some, if_neg (by decide), b1, Option.bind_some, if_neg (by decide), q_rowT hC hV hr8 hm, Option.bind_some, if_neg hnrq, if_pos (ix_nI hr8 (by omega)), if_pos (ix_nI hq8 (by omega)), nI_clamp (by omega), nI_clamp (by omega), (hC.1 r hr8).1, (hC.1 q hq8).1, gy, Option.bind_some, l1, Option.bind_some, q_end hC hr8, Option.bind_some, gl1, Option.bind_some, nI_1, show off x r + (pos (sq x r) (2 * t) + spn x r t) - 1 + 1 = off x r + (pos (sq x r) (2 * t) + spn x r t) from by omega]
        have M0 : f_X4_split (nI t) (nI q) v = (if xk x r = xk x q then (if nI (ecn x r t) ≤ 0 then (f_X4_save 8 (mF v 0 0)).bind (fun z18 => (f_X4_placeOf (nI r) (2 * nI t) z18).bind (fun z20 => (f_X4_span (nI r) (nI t) z18).bind (fun z22 => (if ix (nI r) 8 = true then (f_X4_takeOut (nI r) (z20 + z22) ((z18.2.1 4 (Int32.toNatClampNeg (nI r))) - (z20 + z22)) z18).bind (fun z25 => (if ix (nI q) 8 = true then (f_X4_bring (nI q) (z25.2.2.1 4 (Int32.toNatClampNeg (nI q))) z25.2).bind (fun z28 => (if z28.1 = 0 then some ((-5), z28.2) else (f_X4_keep z28.2).bind (fun z31 => some (z25.1, z31)))) else none)) else none)))) else some ((-4), (mF v 0 0))) else some (-4, mF v 0 0)) := by
          unfold f_X4_split
          rw [a2, Option.bind_some, if_neg (by decide), b2, Option.bind_some, if_neg (by decide), p_rowT hM hV hr8 hm, Option.bind_some, if_neg hnrq, Option.bind_some, if_pos (ix_nI hr8 (by omega)), if_pos (ix_nI hq8 (by omega)), nI_clamp (show r < 2 ^ 31 by omega), nI_clamp (show q < 2 ^ 31 by omega), e2r, e2q, p_depth hM hV hNe hr8 hm, Option.bind_some]
        by_cases hkk : xk x r = xk x q
        · rw [if_pos hkk] at C0 M0
          have hec : ecn x r t ≤ 600 := by
            unfold ecn
            have := List.countP_le_length (p := wib x r t) (l := sq x r)
            omega
          rcases out_cases hV hNe hr8 hm hy with ⟨o, o1, o2, o3, o4, o5⟩ | ⟨o1, o2, o3⟩
          · have ho := sq_lt hV hr8 o1
            rw [if_neg (by rw [o2]; exact ne_m1 (by omega))] at C0
            rw [if_neg (nI_nle (by omega) (by omega))] at M0
            exact ⟨_, _, C0, M0, rfl, hrt⟩
          · rw [if_pos o2] at C0
            rw [if_pos (by rw [o3]; decide)] at M0
            obtain ⟨v1, s1, hSv⟩ := save_Sv (mF v 0 0)
            have hM1 : MA (core v1) x := MA_CQ hV hSv.2.2.2 hM
            have hbal : xk x r = 3 → run (seg (sq x r) (pos (sq x r) (2 * t) + spn x r t) ((sq x r).length - (pos (sq x r) (2 * t) + spn x r t))) [] = some [] := by
              intro w3
              rw [seg_all]
              obtain ⟨t1, t2, -⟩ := thing_at (hNe r hr8 w3) (hV.2.2.1 r hr8) hm
              have := (run_top (hNe r hr8 w3) (hV.2.2.1 r hr8) hm (fun s hs hen => o1 s hs ⟨w3, hen⟩)).2
              have e : pos (sq x r) (2 * t) + spn x r t = pos (sq x r) (2 * t + 1) + 1 := by
                unfold spn
                rw [if_pos w3]
                omega
              rw [e]; exact this
            obtain ⟨v2, x1', g2, hM2, hI2, hN2, v21, hsq, hxk, z, w, c1, c2, c3, c4⟩ := carry_both (r := r) (f := pos (sq x r) (2 * t) + spn x r t) (c := (sq x r).length - (pos (sq x r) (2 * t) + spn x r t)) (q := q) (P := (sq x q).length) (b := bb) h1 h2 h3 h4 h5 h6 h7 h8 h9 h10 h11 h12 hC hM hV hNe hr8 hk hq8 hkk.symm (by omega) hbal hSv (fun x1' hx1 => Bh_other hBh hx1 (fun y => hrq y.symm))
            rw [show pos (sq x r) (2 * t) + spn x r t + ((sq x r).length - (pos (sq x r) (2 * t) + spn x r t)) = (sq x r).length from by omega] at c1
            rw [c1, Option.bind_some] at C0
            have e4 : v1.2.1 4 r = nI (sq x r).length := hM1.2.1 r hr8
            have e4q : v2.2.1 4 q = nI (sq x q).length := by
              have h9 : v2.2.1 4 q = nI (sq x1' q).length := hM2.2.1 q hq8
              rw [h9, hsq, va_up_ne _ _ (fun y => hrq y.symm)]
            refine ⟨_, w, C0, ?_, c3, c4⟩
            rw [M0, s1, Option.bind_some, p_placeT hM1 hV hr8 hm, Option.bind_some, p_span hM1 hV hNe hr8 hm, Option.bind_some, if_pos (ix_nI hr8 (by omega)), nI_clamp (show r < 2 ^ 31 by omega), e4, nI_add, pk_sub (by omega), g2, Option.bind_some, if_pos (ix_nI hq8 (by omega)), nI_clamp (show q < 2 ^ 31 by omega)]
            show (f_X4_bring (nI q) (v2.2.1 4 q) v2).bind _ = some w
            rw [e4q]
            exact c2
        · rw [if_neg hkk] at C0 M0
          exact ⟨_, _, C0, M0, rfl, hrt⟩
    · refine bad ?_ ?_
      · unfold f_X3_split
        rw [a1, Option.bind_some, if_neg (by decide), q_isRow_no hC hno, Option.bind_some, if_pos rfl]
      · unfold f_X4_split
        rw [a2, Option.bind_some, if_neg (by decide), p_isRow_no hM hno, Option.bind_some, if_pos rfl]
  · refine bad ?_ ?_
    · unfold f_X3_split
      rw [q_isStanding_no hnow hno, Option.bind_some, if_pos rfl]
    · unfold f_X4_split
      rw [p_isThing_no hM hV h6 hno, Option.bind_some, if_pos rfl]
