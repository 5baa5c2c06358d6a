/-! ===== some come one by one, on both sides ===== -/
/-- what may come to row q, one by one -/
def Gd (x : XS) (T q : Nat) (G : List Nat) : Prop := G.Nodup ∧ (∀ d ∈ G, d < 2 * T) ∧ (∀ d ∈ G, Out x d) ∧ (∀ s, s < 8 → s ≠ q → ∀ e ∈ sq x s, ∀ d ∈ G, e / 2 ≠ d / 2) ∧ (xk x q ≠ 3 → ∀ d ∈ G, d % 2 = 0)
/-- the row with those of G that have come -/
def mid3 (l : List Nat) (P : Nat) (G : List Nat) (i : Nat) : List Nat := l.take P ++ (G.take i ++ l.drop P)
theorem mid_len {l G : List Nat} {P i : Nat} (hP : P ≤ l.length) (hi : i ≤ G.length) : (mid3 l P G i).length = l.length + i := by
  unfold mid3
  rw [List.length_append, List.length_append, List.length_take, List.length_take, List.length_drop]
  omega
theorem mid_s {l G : List Nat} {P i : Nat} (hP : P ≤ l.length) (hi : i < G.length) : ins (mid3 l P G i) (P + i) (G.getD i 0) = mid3 l P G (i + 1) := by
  have e : P + i = (l.take P).length + i := by rw [List.length_take]; omega
  unfold mid3
  rw [e, ins_mid (by rw [List.length_take]; omega)]
  unfold ins
  rw [List.take_take, List.drop_take, take_s hi]
  simp
theorem mid_mem {l G : List Nat} {P i d : Nat} (h : d ∈ mid3 l P G i) : d ∈ l ∨ d ∈ G.take i := by
  unfold mid3 at h
  rcases List.mem_append.mp h with z | z
  · exact Or.inl (List.mem_of_mem_take z)
  · rcases List.mem_append.mp z with z | z
    · exact Or.inr z
    · exact Or.inl (List.mem_of_mem_drop z)
theorem bring_loop {x0 : XS} {T q P : Nat} {G : List Nat} (hG : Gd x0 T q G) (hq : q < 8) (hk : xk x0 q ≠ -1) (hP : P ≤ (sq x0 q).length) (h6 : P + G.length ≤ 600) (ho : off x0 q ≤ 600) {w : HS} (hw : ∀ i, i < G.length → w.2.2.2.1 i = nI (G.getD i 0)) : ∀ (g i : Nat) (a : SS) (v : MS) (x : XS), i + g = G.length → CA a x → MA (core v) x → Inv T x → sq x = va_up (sq x0) q (mid3 (sq x0 q) P G i) → xk x = xk x0 → v.1 24 = nI G.length → (∀ j, j < G.length → v.2.1 23 j = nI (G.getD j 0)) → ∀ m, g + 1 < m →
    (∃ a' v', f_X3_carry_39 m (nI q) (nI G.length) (nI (off x0 q + P)) 1 (nI i) (hN w a) = (f_X3_endChange 0 (hN w a')).bind (fun z => some (-5, z)) ∧ f_X4_bring_2 m (nI q) (nI P) (nI i) v = (f_X4_load 8 v').bind (fun z6 => some (0, z6)) ∧ Fm [15, 22] [4, 5, 6, 7, 8, 11, 13] [9, 10, 21] v v') ∨
    (∃ a' v' x', f_X3_carry_39 m (nI q) (nI G.length) (nI (off x0 q + P)) 1 (nI i) (hN w a) = (f_X3_endChange 1 (hN w a')).bind (fun z => (f_X3_thingsInPassage (nI G.length) z).bind (fun z11 => some (z11, z))) ∧ f_X4_bring_2 m (nI q) (nI P) (nI i) v = some (1, v') ∧ Fm [15, 22] [4, 5, 6, 7, 8, 11, 13] [9, 10, 21] v v' ∧ CA a' x' ∧ MA (core v') x' ∧ Inv T x' ∧ sq x' = va_up (sq x0) q (mid3 (sq x0 q) P G G.length) ∧ xk x' = xk x0) := by
  intro g
  induction g with
  | zero =>
    intro i a v x hi hC hM hI hsq hxk h24 h23 m hm
    obtain ⟨m, rfl⟩ : ∃ k, m = k + 1 := ⟨m - 1, by omega⟩
    have hi' : i = G.length := by omega
    subst hi'
    refine Or.inr ⟨a, v, x, ?_, ?_, Fm.rf, hC, hM, hI, hsq, hxk⟩
    · rw [f_X3_carry_39, if_pos (nI_le (Nat.le_refl _) (by omega))]
      congr 1
    · rw [f_X4_bring_2, h24, if_pos (nI_le (Nat.le_refl _) (by omega))]
  | succ g ih =>
    intro i a v x hi hC hM hI hsq hxk h24 h23 m hm
    obtain ⟨m, rfl⟩ : ∃ k, m = k + 1 := ⟨m - 1, by omega⟩
    obtain ⟨G1, G2, G3, G4, G5⟩ := id hG
    have hiG : i < G.length := by omega
    have hd := getD_mem hiG
    have hd6 := (G3 _ hd).1
    have hsr : sq x q = mid3 (sq x0 q) P G i := by rw [hsq, va_up_self]
    have hsn : ∀ s, s ≠ q → sq x s = sq x0 s := fun s hs => by rw [hsq, va_up_ne _ _ hs]
    have hnt : G.getD i 0 ∉ G.take i := by
      intro z
      obtain ⟨j, hj, e⟩ := List.mem_iff_getElem.mp z
      rw [List.length_take] at hj
      rw [List.getElem_take, ← gD (d := 0) (show j < G.length by omega)] at e
      have := nd_inj G1 (i := j) (j := i) (by omega) hiG e
      omega
    have hO : Out x (G.getD i 0) := by
      refine ⟨hd6, fun s hs z => ?_⟩
      by_cases y : s = q
      · subst y
        rw [hsr] at z
        rcases mid_mem z with w1 | w1
        · exact (G3 _ hd).2 s hs w1
        · exact hnt w1
      · rw [hsn s y] at z
        exact (G3 _ hd).2 s hs z
    have hoff : off x q = off x0 q := off_same hsq
    have hplen := mid_len (l := sq x0 q) (G := G) (P := P) (i := i) hP (by omega)
    have hcm := come_main (p := P + i) (d := G.getD i 0) hC hM hI hq (by rw [hxk]; exact hk) (by rw [hsr, hplen]; omega) hO (G2 _ hd) (fun s hs hsq2 e he => by
      rw [hsn s hsq2] at he
      exact G4 s hs hsq2 e he _ hd) (fun z => by
      rw [hxk] at z
      exact G5 z _ hd)
    have A0 : f_X3_carry_39 (m + 1) (nI q) (nI G.length) (nI (off x0 q + P)) 1 (nI i) (hN w a) = (f_X2_bring (nI q) (nI (off x q + (P + i))) (nI (G.getD i 0)) a).bind (fun z20 => f_X3_carry_39 m (nI q) (nI G.length) (nI (off x0 q + P)) z20.1 (nI (i + 1)) (hN w z20.2)) := by
      have hw' : (hN w a).2.2.2.1 i = nI (G.getD i 0) := hw i hiG
      have ha : (hN w a).2.2.2.2.1 = a := rfl
      rw [f_X3_carry_39, if_neg (nI_ge (by omega) (by omega)), if_neg (show ¬ (1 : Int32) = 0 by decide), if_pos (ix_nI (by omega) (by omega)), nI_clamp (by omega), nI_add, nI_1, hw', ha, show off x0 q + P + i = off x q + (P + i) from by omega]
      rfl
    have M0 : f_X4_bring_2 (m + 1) (nI q) (nI P) (nI i) v = (f_X4_come (nI q) (nI (P + i)) (nI (G.getD i 0)) v).bind (fun z3 => (if z3.1 = 0 then (f_X4_load 8 z3.2).bind (fun z6 => some (0, z6)) else f_X4_bring_2 m (nI q) (nI P) (nI (i + 1)) z3.2)) := by
      rw [f_X4_bring_2, h24, if_neg (nI_ge (by omega) (by omega)), if_pos (ix_nI (by omega) (by omega)), nI_clamp (by omega), h23 i hiG, nI_add, nI_1]
    rw [A0, M0]
    rcases hcm with ⟨a', v', g1, g2, f2⟩ | ⟨a', v', x', g1, g2, f2, hC', hM', hI', hsq', hk'⟩
    · left
      refine ⟨a', v', ?_, ?_, f2⟩
      · obtain ⟨m, rfl⟩ : ∃ k, m = k + 1 := ⟨m - 1, by omega⟩
        rw [g1, Option.bind_some]
        show f_X3_carry_39 (m + 1) (nI q) (nI G.length) (nI (off x0 q + P)) 0 (nI (i + 1)) (hN w a') = _
        rw [f_X3_carry_39, if_pos (show (0 : Int32) = 0 from rfl)]
        have e : (f_X3_endChange 0 (hN w a')).bind (fun z8 => if (0 : Int32) = 0 then some (-5, z8) else (f_X3_thingsInPassage (nI G.length) z8).bind (fun z11 => some (z11, z8))) = (f_X3_endChange 0 (hN w a')).bind (fun z => some (-5, z)) := by
          congr 1
        by_cases y : nI G.length ≤ nI (i + 1)
        · rw [if_pos y]; exact e
        · rw [if_neg y]; exact e
      · rw [g2, Option.bind_some, if_pos rfl]
    · have hsq2 : sq x' = va_up (sq x0) q (mid3 (sq x0 q) P G (i + 1)) := by
        rw [hsq', hsr, mid_s hP hiG, hsq]
        funext s
        by_cases y : s = q
        · subst y; rw [va_up_self, va_up_self]
        · rw [va_up_ne _ _ y, va_up_ne _ _ y, va_up_ne _ _ y]
      have hrec := ih (i + 1) a' v' x' (by omega) hC' hM' hI' hsq2 (by rw [hk', hxk]) (by rw [f2.1 24 (by decide)]; exact h24) (fun j hj => by rw [f2.2.1 23 (by decide)]; exact h23 j hj) m (by omega)
      rw [g1, g2, Option.bind_some, Option.bind_some, if_neg (show ¬ (1 : Int32) = 0 by decide)]
      rcases hrec with ⟨a2, v2, e1, e2, e3⟩ | ⟨a2, v2, x2, e1, e2, e3, e4⟩
      · exact Or.inl ⟨a2, v2, e1, e2, f2.tr e3⟩
      · exact Or.inr ⟨a2, v2, x2, e1, e2, f2.tr e3, e4⟩
def hP_ (w : HS) (a : SS) (f : Nat → Int32) : HS := hP (hN w a) f
/-- taken out, brought, kept or taken back: the model's part behind save and takeOut -/
theorem carry_both {u : HS} {v : MS} {x : XS} {T n N E r f c q P : Nat} {b : Int32} (h1 : T ≤ 300) (h2 : n ≤ 8) (h3 : N ≤ 8) (h4 : E < 8) (h5 : u.2.2.1 5 = nI T) (h6 : v.1 1 = nI T) (h7 : u.2.2.1 4 = nI n) (h8 : v.1 19 = nI n) (h9 : u.2.2.1 3 = nI N) (h10 : v.1 18 = nI E) (h11 : ST T u.2.2.2.2.1 (core v)) (h12 : ∀ j, j < n → ST T (u.2.2.2.2.2 ((N + 9 - j) % 9)) (slot v ((E + 7 - j) % 8)))
    (hC : CA u.2.2.2.2.1 x) (hM : MA (core v) x) (hV : Inv T x) (hNe : Nest x) (hr : r < 8) (hk : xk x r ≠ -1) (hq : q < 8) (hkq : xk x q = xk x r) (hfc : f + c ≤ (sq x r).length) (hbal : xk x r = 3 → run (seg (sq x r) f c) [] = some []) {v1 : MS} (hSv : Sv v v1)
    (hb : ∀ x1, sq x1 = va_up (sq x) r (cut (sq x r) f (f + c)) → Bh x1 q P b) :
    ∃ v2 x1, f_X4_takeOut (nI r) (nI f) (nI c) v1 = some (nI (evn (seg (sq x r) f c)), v2) ∧ MA (core v2) x1 ∧ Inv T x1 ∧ Nest x1 ∧ v2.1 1 = nI T ∧ sq x1 = va_up (sq x) r (cut (sq x r) f (f + c)) ∧ xk x1 = xk x ∧ ∃ z w, f_X3_carry (nI r) (nI (off x r + f)) (nI (off x r + (f + c))) (nI q) b u = some z ∧ (f_X4_bring (nI q) (nI P) v2).bind (fun z25 => (if z25.1 = 0 then some (-5, z25.2) else (f_X4_keep z25.2).bind (fun z28 => some (nI (evn (seg (sq x r) f c)), z28)))) = some w ∧ z.1 = w.1 ∧ Rl z.2 w.2 := by
  have hM1 : MA (core v1) x := MA_CQ hV hSv.2.2.2 hM
  have hl6 := len600 hV hr
  obtain ⟨a1, pas, v2, x1, g1, g2, fF, hC1, hM2, hI1, hsq, hxk, h24, h23, hpas⟩ := take_main hC hM1 hV hr hk hfc (sep_of hV hr hfc hbal) u.2.2.2.1
  have hN1 := Nest_cut hNe hr hbal hsq hxk
  have hBh := hb x1 hsq
  obtain ⟨gp, hPl⟩ := q_behind hC1 hI1 hq hBh
  have v21 : v2.1 1 = nI T := by rw [fF.1 1 (by decide), hSv.1 1 (by decide)]; exact h6
  refine ⟨v2, x1, g2, hM2, hI1, hN1, v21, hsq, hxk, ?_⟩
  have hkn : xk x1 q ≠ -1 := by rw [hxk, hkq]; exact hk
  have hGl : (seg (sq x r) f c).length = c := seg_len2 hfc
  have hsegm : ∀ d ∈ seg (sq x r) f c, d ∈ sq x r := fun d hd => List.mem_of_mem_drop (List.mem_of_mem_take hd)
  have hnd := hV.2.2.1 r hr
  have hsepA := sep_of hV hr hfc hbal
  -- they stand nowhere now
  have hpart : ∀ s, s < 8 → ∀ e ∈ sq x1 s, ∀ d ∈ seg (sq x r) f c, e / 2 ≠ d / 2 := by
    intro s hs e he d hd
    rw [hsq] at he
    by_cases z : s = r
    · subst z
      rw [va_up_self] at he
      obtain ⟨j, hj, e2⟩ := List.mem_iff_getElem.mp hd
      rw [hGl] at hj
      rw [← gD (d := 0), seg_gD hfc hj] at e2
      rw [← e2]
      exact hsepA (f + j) (by omega) (by omega) e he
    · rw [va_up_ne _ _ z] at he
      exact hV.2.2.2.1 s r hs hr z e he d (hsegm d hd)
  have hG : Gd x1 T q (seg (sq x r) f c) := by
    refine ⟨(hnd.sublist (List.drop_sublist _ _)).sublist (List.take_sublist _ _), fun d hd => hV.2.2.2.2.1 r hr d (hsegm d hd), fun d hd => ⟨sq_lt hV hr (hsegm d hd), fun s hs z => hpart s hs d z d hd rfl⟩, fun s hs _ e he d hd => hpart s hs e he d hd, fun z d hd => ?_⟩
    rw [hxk, hkq] at z
    exact hV.2.2.2.2.2.1 r hr z d (hsegm d hd)
  have hall : ∀ s, s < 8 → (sq x1 q).length + c ≤ 600 := by
    intro s _
    by_cases z : q = r
    · subst z
      rw [hsq, va_up_self, cut_len (by omega) hfc]
      omega
    · rw [hsq, va_up_ne _ _ z]
      have e1 := alls_nd hV (Nat.le_refl 8)
      have hl : ((sq x q) ++ seg (sq x r) f c).Nodup := by
        refine List.nodup_append.mpr ⟨hV.2.2.1 q hq, hG.1, fun d hd e he hde => ?_⟩
        subst hde
        exact hV.2.2.2.1 q r hq hr z d hd d (hsegm d he) rfl
      have := nd_len (n := 600) hl (fun d hd => by
        rcases List.mem_append.mp hd with y | y
        · exact sq_lt hV hq y
        · exact sq_lt hV hr (hsegm d y))
      rw [List.length_append, hGl] at this
      exact this
  have hoq : off x1 q ≤ 600 := by have := off_le6 hI1 hq; omega
  have hgone : ∀ j, j < (seg (sq x r) f c).length → v2.2.1 23 j = nI ((seg (sq x r) f c).getD j 0) := by
    intro j hj
    rw [hGl] at hj
    rw [seg_gD hfc hj]; exact h23 j hj
  have hps : ∀ j, j < (seg (sq x r) f c).length → (hP_ (bgn u N) a1 pas).2.2.2.1 j = nI ((seg (sq x r) f c).getD j 0) := by
    intro j hj
    rw [hGl] at hj
    rw [seg_gD hfc hj]; exact hpas j hj
  have hloop := bring_loop (w := hP_ (bgn u N) a1 pas) hG hq hkn hPl (by have := hall 0 (by omega); omega) hoq hps c 0 a1 v2 x1 (by omega) hC1 hM2 hI1 (by
    funext s
    by_cases z : s = q
    · subst z
      rw [va_up_self]
      unfold mid3
      rw [List.take_zero, List.nil_append, List.take_append_drop]
    · rw [va_up_ne _ _ z]) rfl (by rw [hGl]; exact h24) hgone NF (NF_lt (by omega))
  rw [hGl] at hloop
  have C0 : f_X3_carry (nI r) (nI (off x r + f)) (nI (off x r + (f + c))) (nI q) b u = f_X3_carry_39 NF (nI q) (nI c) (nI (off x1 q + P)) 1 (nI 0) (hN (hP_ (bgn u N) a1 pas) a1) := by
    unfold f_X3_carry
    have hbg : (bgn u N).2.2.2.2.1 = u.2.2.2.2.1 := rfl
    have hbp : (bgn u N).2.2.2.1 = u.2.2.2.1 := rfl
    rw [begin_eq h3 h9, Option.bind_some, hbg, hbp, g1, Option.bind_some]
    have gp' : f_X2_placeBehind (nI q) b (hP (hN (bgn u N) (nI c, (a1, pas)).2.1) (nI c, (a1, pas)).2.2).2.2.2.2.1 = some (nI (off x1 q + P)) := gp
    rw [gp', Option.bind_some]
    rfl
  have B0 : f_X4_bring (nI q) (nI P) v2 = f_X4_bring_2 NF (nI q) (nI P) (nI 0) v2 := rfl
  rw [C0, B0]
  have f12 : Fm [15, 22, 24] [4, 5, 6, 7, 8, 11, 13, 23] [9, 10, 21] v1 v2 := fF.up (by decide) (by decide) (by decide)
  rcases hloop with ⟨a2, v3, e1, e2, e3⟩ | ⟨a2, v3, x2, e1, e2, e3, hC2, hM3, hI2, hsq2, hk2⟩
  · obtain ⟨w, l1, l2, l3, l4⟩ := load_Sv hSv (f12.tr (e3.up (by decide) (by decide) (by decide))) (by decide) (by decide)
    have en := end_no (w := hN (hP_ (bgn u N) a1 pas) a2) h3 h9
    refine ⟨_, (-5, w), by rw [e1, en, Option.bind_some], ?_, rfl, chg_fail (ub := hN (hP_ (bgn u N) a1 pas) a2) h1 h2 h3 h4 h11 h12 h5 h7 h9 rfl ?_ ?_ ?_ l2 l3⟩
    · rw [e2, l1, Option.bind_some, Option.bind_some, if_pos rfl]
    · rw [l4 1 (by decide) (by decide) (by decide)]; exact h6
    · rw [l4 18 (by decide) (by decide) (by decide)]; exact h10
    · rw [l4 19 (by decide) (by decide) (by decide)]; exact h8
  · obtain ⟨w, k1, k2, k3, k4, k5, k6, k7⟩ := keep_Sv hSv (f12.tr (e3.up (by decide) (by decide) (by decide))) (by decide) (by decide) (by decide) (by decide) h2 h4 h10 h8
    have ey := end_yes (w := hN (hP_ (bgn u N) a1 pas) a2) h3 h2 h9 h7
    have ep := q_passage (w := hI (hI (hN (hP_ (bgn u N) a1 pas) a2) 3 (nI ((N + 1) % 9))) 4 (nI (if n < 8 then n + 1 else 8))) hfc (by omega) (fun d hd => sq_lt hV hr hd) hpas
    have hN2 : Nest x2 := by
      intro s hs w3
      rw [hk2, hxk] at w3
      rw [hsq2]
      by_cases z : s = q
      · subst z
        rw [va_up_self]
        unfold mid3
        rw [List.take_of_length_le (l := seg (sq x r) f c) (by omega)]
        exact ins_run (hN1 s hs (by rw [hxk]; exact w3)) (hbal (by rw [← hkq]; exact w3))
      · rw [va_up_ne _ _ z]
        exact hN1 s hs (by rw [hxk]; exact w3)
    refine ⟨_, (nI (evn (seg (sq x r) f c)), w), by rw [e1, ey, Option.bind_some, ep, Option.bind_some], ?_, rfl, Rl_change (v := v) h2 h3 h4 (Nat.le_refl T) h1 h11 h12 ?_ hI_at ?_ rfl ?_ k2 k3 k4 k5 ⟨x2, hC2, MA_CQ hI2 k6 hM3, hI2, hN2⟩⟩
    · rw [e2, Option.bind_some, if_neg (show ¬ (1 : Int32) = 0 by decide), k1, Option.bind_some]
    · rw [hI_ne (by decide), hI_ne (by decide)]; exact h5
    · rw [hI_ne (by decide), hI_at]
    · rw [k7 1 (by decide) (by decide), e3.1 1 (by decide)]; exact v21
