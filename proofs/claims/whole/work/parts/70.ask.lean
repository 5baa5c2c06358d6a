/-! ===== what is asked: on both sides ===== -/
theorem in_blk {x : XS} {r d : Nat} (hn : (sq x r).Nodup) (hd : d ∈ sq x r) : ∃ i t, i < (xb x r).length ∧ t < ((xb x r).getD i (0, [])).2.length ∧ ((xb x r).getD i (0, [])).2.getD t 0 = d ∧ pos (sq x r) d = psum (lens (xb x r)) i + t := by
  have hp : pos (sq x r) d < (idl (xb x r)).length := pos_lt hd
  obtain ⟨B1, lab, ids, B2, t, hB, hpe, ht⟩ := blk_in (xb x r) (pos (sq x r) d) hp
  have hl : B1.length < (xb x r).length := by rw [hB, List.length_append, List.length_cons]; omega
  have hm : (xb x r).getD B1.length (0, []) = (lab, ids) := by rw [hB, gD_mid]
  have hps : psum (lens (xb x r)) B1.length = (idl B1).length := by rw [hB]; exact psum_app B1 _
  refine ⟨B1.length, t, hl, by rw [hm]; exact ht, ?_, by rw [hps]; exact hpe⟩
  have := (idl_at (BB := xb x r) (i := B1.length) (t := t) hl (by rw [hm]; exact ht)).2
  rw [hm] at this ⊢
  rw [← this, hps, ← hpe]
  exact pos_at hd
section ASK
variable {a : SS} {v : MS} {x : XS} {T r t : Nat}
theorem row_nz (hI : Inv T x) (hr : r < 8) {d : Nat} (hd : d ∈ sq x r) : xk x r ≠ -1 := by
  intro z
  rw [none_nil hI hr z] at hd
  exact absurd hd List.not_mem_nil
theorem q_isAhead (hC : CA a x) (hI : Inv T x) (hr : r < 8) {d e : Nat} (hd : d ∈ sq x r) (he : e ∈ sq x r) : f_X2_isAhead (nI d) (nI e) a = some (if pos (sq x r) d < pos (sq x r) e then 1 else 0) := by
  obtain ⟨c1, hO, c6, c7, c8, c9⟩ := CA_iff.mp hC
  obtain ⟨k, w, k4, ek, w4, w40, ew, hs, hL, hne, h1, h2⟩ := row_ok hI hr (row_nz hI hr hd)
  have hn := hI.2.2.1 r hr
  have hd6 := sq_lt hI hr hd
  have he6 := sq_lt hI hr he
  obtain ⟨i, p, i1, i2, i3, i4⟩ := in_blk hn hd
  obtain ⟨j, q, j1, j2, j3, j4⟩ := in_blk hn he
  have hpw := pw_le w40
  have ld : a.2.2.2.1 d = lN ((labs (xb x r)).getD i 0) := by
    rw [labs_gD i1]
    exact c6 r hr _ (getD_mem2 i1) d (by rw [← i3]; exact getD_mem i2)
  have le' : a.2.2.2.1 e = lN ((labs (xb x r)).getD j 0) := by
    rw [labs_gD j1]
    exact c6 r hr _ (getD_mem2 j1) e (by rw [← j3]; exact getD_mem j2)
  have li := hL _ (getD_mem (i := i) (l := labs (xb x r)) (by rw [labs_len]; exact i1))
  have lj := hL _ (getD_mem (i := j) (l := labs (xb x r)) (by rw [labs_len]; exact j1))
  unfold f_X2_isAhead
  rw [if_pos (ix_nI hd6 (by omega)), if_pos (ix_nI he6 (by omega)), if_pos (ix_nI hd6 (by omega)), if_pos (ix_nI he6 (by omega)), if_pos (ix_nI hd6 (by omega)), if_pos (ix_nI he6 (by omega)), nI_clamp (by omega), nI_clamp (by omega), ld, le']
  have c0 : (lg_cmp (lN ((labs (xb x r)).getD i 0)) (lN ((labs (xb x r)).getD j 0)) = 0) ↔ (labs (xb x r)).getD i 0 = (labs (xb x r)).getD j 0 := by rw [lg_cmp_eq, pk_lEQ (by omega) (by omega)]
  have cg : (0 ≤ lg_cmp (lN ((labs (xb x r)).getD i 0)) (lN ((labs (xb x r)).getD j 0))) ↔ (labs (xb x r)).getD j 0 ≤ (labs (xb x r)).getD i 0 := by rw [lg_cmp_ge, pk_lLE (by omega) (by omega)]
  rcases Nat.lt_trichotomy i j with z | z | z
  · have hl := lt_pair hs z (by rw [labs_len]; exact j1)
    have hm := psum_mono (N := lens (xb x r)) (i := i + 1) (k := j) (by omega) (by rw [lens_len]; omega)
    have hps := psum_s2 i1
    rw [if_neg (fun y => by have := c0.mp y; omega), if_neg (fun y => by have := cg.mp y; omega), if_pos (by omega)]
  · subst z
    rw [if_pos (c0.mpr rfl)]
    by_cases k2 : k < 2
    · have o1 := h1 k2 _ (getD_mem2 i1)
      have : p = q := by omega
      subst this
      have hde : d = e := by rw [← i3, ← j3]
      subst hde
      rw [if_pos (Int32.le_refl _), if_neg (by omega)]
    · have hk' : 2 ≤ xk x r := by rw [ek]; exact nI_le (a := 2) (by omega) (by omega)
      obtain ⟨o1, o2, o3⟩ := h2 (by omega) _ (getD_mem2 i1)
      have b1 := o3 d (by rw [← i3]; exact getD_mem i2)
      have b2 := o3 e (by rw [← j3]; exact getD_mem j2)
      rw [c7 r hr hk' d hd, c7 r hr hk' e he]
      have hcmp : ∀ p q, p < q → q < ((xb x r).getD i (0, [])).2.length → xi x (((xb x r).getD i (0, [])).2.getD p 0) < xi x (((xb x r).getD i (0, [])).2.getD q 0) := by
        intro p q hpq hq
        rw [gD (show p < _ by omega), gD hq]
        exact List.pairwise_iff_getElem.mp o2 p q _ _ hpq
      rcases Nat.lt_trichotomy p q with y | y | y
      · have := hcmp p q y j2
        rw [i3, j3] at this
        rw [if_neg (nI_ge (by omega) (by omega)), if_pos (by omega)]
      · subst y
        have hde : d = e := by rw [← i3, ← j3]
        subst hde
        rw [if_pos (Int32.le_refl _), if_neg (by omega)]
      · have := hcmp q p y i2
        rw [i3, j3] at this
        rw [if_pos (nI_le (by omega) (by omega)), if_neg (by omega)]
  · have hl := lt_pair hs z (by rw [labs_len]; exact i1)
    have hm := psum_mono (N := lens (xb x r)) (i := j + 1) (k := i) (by omega) (by rw [lens_len]; omega)
    have hps := psum_s2 j1
    rw [if_neg (fun y => by have := c0.mp y; omega), if_pos (cg.mpr (by omega)), if_neg (by omega)]
theorem thg_rf (hI : Inv T x) (h : Thg x (nI t) t r) : r < 8 ∧ 2 * t ∈ sq x r ∧ t < 300 := by
  obtain ⟨-, hr, hm⟩ := h
  have := sq_lt hI hr hm
  exact ⟨hr, hm, by omega⟩
theorem q_rowT (hC : CA a x) (hI : Inv T x) (hr : r < 8) (hm : 2 * t ∈ sq x r) : f_X1_rowOfThing (nI t) a.1 = some (nI r) := by
  have := sq_lt hI hr hm
  exact q_rowOf hC (by omega) hr hm (by omega)
theorem q_oneRow (hC : CA a x) (hI : Inv T x) {q s : Nat} (hr : r < 8) (hm : 2 * t ∈ sq x r) (hq : q < 8) (hs : 2 * s ∈ sq x q) : f_X2_inOneRow (nI t) (nI s) a = some (if r = q then 1 else 0) := by
  unfold f_X2_inOneRow
  rw [q_rowT hC hI hr hm, Option.bind_some, q_rowT hC hI hq hs, Option.bind_some]
  by_cases z : r = q
  · rw [if_pos (by rw [z]), if_pos z]
  · rw [if_neg (fun y => z ((nI_eq (by omega) (by omega)).mp y)), if_neg z]
theorem q_nested (hC : CA a x) (hI : Inv T x) (hr : r < 8) (hm : 2 * t ∈ sq x r) : f_X2_isNested (nI t) a = some (if xk x r = 3 then 1 else 0) := by
  unfold f_X2_isNested
  rw [q_rowT hC hI hr hm, Option.bind_some, if_neg (ne_m1 (by omega)), if_pos (ix_nI hr (by omega)), nI_clamp (by omega), (hC.1 r hr).1]
  by_cases z : xk x r = 3
  · rw [if_pos z, if_pos z]
  · rw [if_neg z, if_neg z]
theorem two1 (t : Nat) : (2 : Int32) * nI t + 1 = nI (2 * t + 1) := by rw [two_nI, nI_1]
/-- t has s within it, in a nested row -/
def Wi (x : XS) (r t s : Nat) : Prop := xk x r = 3 ∧ enc (sq x r) t s
theorem q_enc (hC : CA a x) (hI : Inv T x) (hN : Nest x) {s : Nat} (hr : r < 8) (hm : 2 * t ∈ sq x r) (hs : 2 * s ∈ sq x r) : (Wi x r t s → f_X2_encloses (nI t) (nI s) a = some 1) ∧ (¬ Wi x r t s → f_X2_encloses (nI t) (nI s) a = some 0) := by
  have g0 : f_X2_encloses (nI t) (nI s) a = (if xk x r = 3 then (f_X2_isAhead (nI (2 * t)) (nI (2 * s)) a).bind (fun z7 => (if z7 = 0 then some 0 else (f_X2_isAhead (nI (2 * s)) (nI (2 * t + 1)) a).bind (fun z10 => (if z10 = 0 then some 0 else some 1)))) else some 0) := by
    unfold f_X2_encloses
    rw [q_oneRow hC hI hr hm hr hs, Option.bind_some, if_pos rfl, if_neg (show ¬ (1 : Int32) = 0 by decide), q_nested hC hI hr hm, Option.bind_some, two1, two_nI, two_nI]
    by_cases z : xk x r = 3
    · rw [if_pos z, if_pos z, if_neg (show ¬ (1 : Int32) = 0 by decide)]
    · rw [if_neg z, if_neg z, if_pos rfl]
  by_cases z : xk x r = 3
  · have he := (thing_at (hN r hr z) (hI.2.2.1 r hr) hm).1
    rw [if_pos z, q_isAhead hC hI hr hm hs, Option.bind_some, q_isAhead hC hI hr hs he, Option.bind_some] at g0
    rw [g0]
    unfold Wi enc
    by_cases y1 : pos (sq x r) (2 * t) < pos (sq x r) (2 * s)
    · rw [if_pos y1, if_neg (show ¬ (1 : Int32) = 0 by decide)]
      by_cases y2 : pos (sq x r) (2 * s) < pos (sq x r) (2 * t + 1)
      · rw [if_pos y2, if_neg (show ¬ (1 : Int32) = 0 by decide)]
        exact ⟨fun _ => rfl, fun y => absurd ⟨z, y1, y2⟩ y⟩
      · rw [if_neg y2, if_pos rfl]
        exact ⟨fun y => absurd y.2.2 y2, fun _ => rfl⟩
    · rw [if_neg y1, if_pos rfl]
      exact ⟨fun y => absurd y.2.1 y1, fun _ => rfl⟩
  · rw [if_neg z] at g0
    rw [g0]
    exact ⟨fun y => absurd y.1 z, fun _ => rfl⟩
/-! the model -/
theorem p_rowT (hM : MA (core v) x) (hI : Inv T x) (hr : r < 8) (hm : 2 * t ∈ sq x r) : f_X4_rowWith (2 * nI t) v = some (nI r) := by
  rw [two_nI]; exact p_rowWith hM hI hr hm
theorem p_apart (hM : MA (core v) x) (hI : Inv T x) {q s : Nat} (hr : r < 8) (hm : 2 * t ∈ sq x r) (hq : q < 8) (hs : 2 * s ∈ sq x q) : f_X4_areApart (nI t) (nI s) v = some (if r = q then 0 else 1) := by
  unfold f_X4_areApart
  rw [p_rowT hM hI hr hm, Option.bind_some, p_rowT hM hI hq hs, Option.bind_some]
  by_cases z : r = q
  · rw [if_pos (by rw [z]), if_pos z]
  · rw [if_neg (fun y => z ((nI_eq (by omega) (by omega)).mp y)), if_neg z]
theorem p_placeT (hM : MA (core v) x) (hI : Inv T x) (hr : r < 8) (hm : 2 * t ∈ sq x r) : f_X4_placeOf (nI r) (2 * nI t) v = some (nI (pos (sq x r) (2 * t))) := by
  rw [two_nI]; exact p_placeOf hM hI hr hm
def spn (x : XS) (r t : Nat) : Nat := if xk x r = 3 then pos (sq x r) (2 * t + 1) - pos (sq x r) (2 * t) + 1 else 1
theorem p_span (hM : MA (core v) x) (hI : Inv T x) (hN : Nest x) (hr : r < 8) (hm : 2 * t ∈ sq x r) : f_X4_span (nI r) (nI t) v = some (nI (spn x r t)) := by
  have e2 : v.2.1 2 r = xk x r := (hM.1 r hr).1
  unfold f_X4_span spn
  rw [p_placeT hM hI hr hm, Option.bind_some, if_pos (ix_nI hr (by omega)), nI_clamp (by omega), e2]
  by_cases z : xk x r = 3
  · obtain ⟨h1, h2, -⟩ := thing_at (hN r hr z) (hI.2.2.1 r hr) hm
    rw [if_pos z, if_pos z, two1, p_placeOf hM hI hr h1, Option.bind_some, pk_sub (by omega), nI_1]
  · rw [if_neg z, if_neg z]
    rfl
theorem p_within (hM : MA (core v) x) (hI : Inv T x) (hN : Nest x) {s : Nat} (hr : r < 8) (hm : 2 * t ∈ sq x r) (hs : 2 * s ∈ sq x r) : (Wi x r t s → f_X4_isWithin (nI r) (nI t) (nI s) v = some 1) ∧ (¬ Wi x r t s → f_X4_isWithin (nI r) (nI t) (nI s) v = some 0) := by
  have hl := len600 hI hr
  have p1 := pos_lt hm
  have p2 := pos_lt hs
  unfold f_X4_isWithin
  rw [p_placeT hM hI hr hm, Option.bind_some, p_placeT hM hI hr hs, Option.bind_some, p_span hM hI hN hr hm, Option.bind_some, nI_add]
  unfold Wi enc spn
  by_cases z : xk x r = 3
  · obtain ⟨h1, h2, -⟩ := thing_at (hN r hr z) (hI.2.2.1 r hr) hm
    have p3 := pos_lt h1
    have hne : pos (sq x r) (2 * s) ≠ pos (sq x r) (2 * t + 1) := fun y => by
      have := pos_inj hs h1 y
      omega
    rw [if_pos z]
    by_cases y1 : pos (sq x r) (2 * t) < pos (sq x r) (2 * s)
    · rw [if_neg (nI_ge y1 (by omega))]
      by_cases y2 : pos (sq x r) (2 * s) < pos (sq x r) (2 * t + 1)
      · rw [if_neg (nI_ge (by omega) (by omega))]
        exact ⟨fun _ => rfl, fun y => absurd ⟨z, y1, y2⟩ y⟩
      · rw [if_pos (nI_le (by omega) (by omega))]
        exact ⟨fun y => absurd y.2.2 y2, fun _ => rfl⟩
    · rw [if_pos (nI_le (by omega) (by omega))]
      exact ⟨fun y => absurd y.2.1 y1, fun _ => rfl⟩
  · rw [if_neg z]
    by_cases y1 : pos (sq x r) (2 * t) < pos (sq x r) (2 * s)
    · rw [if_neg (nI_ge y1 (by omega)), if_pos (nI_le (by omega) (by omega))]
      exact ⟨fun y => absurd y.1 z, fun _ => rfl⟩
    · rw [if_pos (nI_le (by omega) (by omega))]
      exact ⟨fun y => absurd y.1 z, fun _ => rfl⟩
end ASK
/-- two numbers: of things that stand in one row, in two, or not -/
theorem pair_cases (x : XS) (y1 y2 : Int32) : (∀ t r, ¬ Thg x y1 t r) ∨ ((∃ t r, Thg x y1 t r) ∧ ∀ t r, ¬ Thg x y2 t r) ∨ ∃ t r s q, y1 = nI t ∧ y2 = nI s ∧ r < 8 ∧ 2 * t ∈ sq x r ∧ q < 8 ∧ 2 * s ∈ sq x q := by
  rcases thg_dec x y1 with ⟨t, r, h⟩ | h
  · rcases thg_dec x y2 with ⟨s, q, h2⟩ | h2
    · exact Or.inr (Or.inr ⟨t, r, s, q, h.1, h2.1, h.2.1, h.2.2, h2.2.1, h2.2.2⟩)
    · exact Or.inr (Or.inl ⟨⟨t, r, h⟩, h2⟩)
  · exact Or.inl h
section PAIRQ
variable {u : HS} {v : MS} {x : XS} {T : Nat}
theorem q_fault (h : Now u v T x) (y1 y2 : Int32) : ((∀ t r, ¬ Thg x y1 t r) → f_X3_faultOfPair y1 y2 u = some (-3)) ∧ ((∃ t r, Thg x y1 t r) → (∀ t r, ¬ Thg x y2 t r) → f_X3_faultOfPair y1 y2 u = some (-3)) ∧ (∀ t r s q, y1 = nI t → y2 = nI s → r < 8 → 2 * t ∈ sq x r → q < 8 → 2 * s ∈ sq x q → f_X3_faultOfPair y1 y2 u = some (if r = q then 0 else -4)) := by
  refine ⟨fun hno => ?_, fun ⟨t, r, ht⟩ hno => ?_, fun t r s q e1 e2 hr hm hq hs => ?_⟩
  · unfold f_X3_faultOfPair
    rw [q_isStanding_no h hno, Option.bind_some, if_pos rfl]
  · unfold f_X3_faultOfPair
    rw [q_isStanding h ht, Option.bind_some, if_neg (show ¬ (1 : Int32) = 0 by decide), q_isStanding_no h hno, Option.bind_some, if_pos rfl]
  · unfold f_X3_faultOfPair
    rw [q_isStanding h ⟨e1, hr, hm⟩, Option.bind_some, if_neg (show ¬ (1 : Int32) = 0 by decide), q_isStanding h ⟨e2, hq, hs⟩, Option.bind_some, if_neg (show ¬ (1 : Int32) = 0 by decide), e1, e2, q_oneRow h.1 h.2.2.1 hr hm hq hs, Option.bind_some]
    by_cases z : r = q
    · rw [if_pos z, if_pos z, if_neg (show ¬ (1 : Int32) = 0 by decide)]
    · rw [if_neg z, if_neg z, if_pos rfl]
end PAIRQ
theorem st_less : Sp_less Rl := by
  intro u v x1 x2 hr
  obtain ⟨T, x, h⟩ := hr.now
  obtain ⟨f1, f2, f3⟩ := q_fault h x1 x2
  have h' := p_th h
  obtain ⟨hC, hM, hI, hN, h5, h6⟩ := id h
  obtain ⟨-, hM', -, -, -, h6'⟩ := id h'
  rcases pair_cases x x1 x2 with q | ⟨q1, q2⟩ | ⟨t, r, s, q, rfl, rfl, hr8, hm, hq8, hs⟩
  · refine ⟨-3, (-3, mF v 0 0), ?_, ?_, rfl, Rl_th hr⟩
    · unfold f_X3_less
      rw [f1 q, Option.bind_some, if_neg (by decide)]
    · unfold f_X4_less
      rw [p_isThing_no hM' hI h6' q, Option.bind_some, if_pos rfl]
  · obtain ⟨t, r, ht⟩ := q1
    refine ⟨-3, (-3, mF v 0 0), ?_, ?_, rfl, Rl_th hr⟩
    · unfold f_X3_less
      rw [f2 ⟨t, r, ht⟩ q2, Option.bind_some, if_neg (by decide)]
    · unfold f_X4_less
      rw [p_isThing hM' hI h6' ht, Option.bind_some, if_neg (by decide), p_isThing_no hM' hI h6' q2, Option.bind_some, if_pos rfl]
  · have g := f3 t r s q rfl rfl hr8 hm hq8 hs
    have b2 : f_X4_less (nI t) (nI s) v = (if r = q then (if nI (pos (sq x r) (2 * s)) ≤ nI (pos (sq x r) (2 * t)) then (if nI (pos (sq x r) (2 * t)) ≤ nI (pos (sq x r) (2 * s)) then some (0, mF v 0 0) else some (2, mF v 0 0)) else some (1, mF v 0 0)) else some (-4, mF v 0 0)) := by
      unfold f_X4_less
      rw [p_isThing hM' hI h6' ⟨rfl, hr8, hm⟩, Option.bind_some, if_neg (by decide), p_isThing hM' hI h6' ⟨rfl, hq8, hs⟩, Option.bind_some, if_neg (by decide), p_apart hM' hI hr8 hm hq8 hs, Option.bind_some]
      by_cases z : r = q
      · subst z
        rw [if_pos rfl, if_pos rfl, if_pos rfl, p_rowT hM' hI hr8 hm, Option.bind_some, p_placeT hM' hI hr8 hm, Option.bind_some, p_placeT hM' hI hr8 hs, Option.bind_some]
      · rw [if_neg z, if_neg z, if_neg (by decide)]
    by_cases z : r = q
    · subst z
      rw [if_pos rfl] at g b2
      have hl := len600 hI hr8
      have p1 := pos_lt hm
      have p2 := pos_lt hs
      have ht6 := sq_lt hI hr8 hm
      have hs6 := sq_lt hI hr8 hs
      have b1 : f_X3_less (nI t) (nI s) u = (if t = s then some 0 else (if pos (sq x r) (2 * t) < pos (sq x r) (2 * s) then some 1 else some 2)) := by
        unfold f_X3_less
        rw [g, Option.bind_some, if_pos rfl]
        by_cases y : t = s
        · rw [if_pos (by rw [y]), if_pos y]
        · rw [if_neg (fun w => y ((nI_eq (by omega) (by omega)).mp w)), if_neg y, two_nI, two_nI, q_isAhead hC hI hr8 hm hs, Option.bind_some]
          by_cases w : pos (sq x r) (2 * t) < pos (sq x r) (2 * s)
          · rw [if_pos w, if_pos w, if_neg (by decide)]
          · rw [if_neg w, if_neg w, if_pos rfl]
      by_cases y : t = s
      · subst y
        rw [if_pos rfl] at b1
        rw [if_pos (Int32.le_refl _), if_pos (Int32.le_refl _)] at b2
        exact ⟨_, _, b1, b2, rfl, Rl_th hr⟩
      · rw [if_neg y] at b1
        have hne : pos (sq x r) (2 * t) ≠ pos (sq x r) (2 * s) := fun w => y (by have := pos_inj hm hs w; omega)
        by_cases w : pos (sq x r) (2 * t) < pos (sq x r) (2 * s)
        · rw [if_pos w] at b1
          rw [if_neg (nI_ge w (by omega))] at b2
          exact ⟨_, _, b1, b2, rfl, Rl_th hr⟩
        · rw [if_neg w] at b1
          rw [if_pos (nI_le (by omega) (by omega)), if_neg (nI_ge (by omega) (by omega))] at b2
          exact ⟨_, _, b1, b2, rfl, Rl_th hr⟩
    · rw [if_neg z] at g b2
      refine ⟨-4, _, ?_, b2, rfl, Rl_th hr⟩
      unfold f_X3_less
      rw [g, Option.bind_some, if_neg (by decide)]
theorem st_holds : Sp_holds Rl := by
  intro u v x1 x2 hr
  obtain ⟨T, x, h⟩ := hr.now
  have h' := p_th h
  obtain ⟨hC, hM, hI, hN, h5, h6⟩ := id h
  obtain ⟨-, hM', -, -, -, h6'⟩ := id h'
  rcases pair_cases x x1 x2 with q | ⟨q1, q2⟩ | ⟨t, r, s, q, rfl, rfl, hr8, hm, hq8, hs⟩
  · refine ⟨-3, (-3, mF v 0 0), ?_, ?_, rfl, Rl_th hr⟩
    · unfold f_X3_holds
      rw [q_isStanding_no h q, Option.bind_some, if_pos rfl]
    · unfold f_X4_holds
      rw [p_isThing_no hM' hI h6' q, Option.bind_some, if_pos rfl]
  · obtain ⟨t, r, ht⟩ := q1
    refine ⟨-3, (-3, mF v 0 0), ?_, ?_, rfl, Rl_th hr⟩
    · unfold f_X3_holds
      rw [q_isStanding h ht, Option.bind_some, if_neg (by decide), q_isStanding_no h q2, Option.bind_some, if_pos rfl]
    · unfold f_X4_holds
      rw [p_isThing hM' hI h6' ht, Option.bind_some, if_neg (by decide), p_isThing_no hM' hI h6' q2, Option.bind_some, if_pos rfl]
  · have b1 : f_X3_holds (nI t) (nI s) u = (f_X2_encloses (nI t) (nI s) u.2.2.2.2.1).bind (fun z7 => (if z7 = 0 then some 0 else some 1)) := by
      unfold f_X3_holds
      rw [q_isStanding h ⟨rfl, hr8, hm⟩, Option.bind_some, if_neg (by decide), q_isStanding h ⟨rfl, hq8, hs⟩, Option.bind_some, if_neg (by decide)]
    have b2 : f_X4_holds (nI t) (nI s) v = (if r = q then (f_X4_isWithin (nI r) (nI t) (nI s) (mF v 0 0)).bind (fun z12 => (if z12 = 0 then some (0, (mF v 0 0)) else some (1, (mF v 0 0)))) else some (0, mF v 0 0)) := by
      unfold f_X4_holds
      rw [p_isThing hM' hI h6' ⟨rfl, hr8, hm⟩, Option.bind_some, if_neg (by decide), p_isThing hM' hI h6' ⟨rfl, hq8, hs⟩, Option.bind_some, if_neg (by decide), p_apart hM' hI hr8 hm hq8 hs, Option.bind_some]
      by_cases z : r = q
      · subst z
        rw [if_pos rfl, if_pos rfl, if_pos rfl, p_rowT hM' hI hr8 hm, Option.bind_some]
      · rw [if_neg z, if_neg z, if_neg (by decide)]
    by_cases z : r = q
    · subst z
      rw [if_pos rfl] at b2
      by_cases w : Wi x r t s
      · rw [(q_enc hC hI hN hr8 hm hs).1 w, Option.bind_some, if_neg (by decide)] at b1
        rw [(p_within hM' hI hN hr8 hm hs).1 w, Option.bind_some, if_neg (by decide)] at b2
        exact ⟨_, _, b1, b2, rfl, Rl_th hr⟩
      · rw [(q_enc hC hI hN hr8 hm hs).2 w, Option.bind_some, if_pos rfl] at b1
        rw [(p_within hM' hI hN hr8 hm hs).2 w, Option.bind_some, if_pos rfl] at b2
        exact ⟨_, _, b1, b2, rfl, Rl_th hr⟩
    · rw [if_neg z] at b2
      have e : f_X2_encloses (nI t) (nI s) u.2.2.2.2.1 = some 0 := by
        unfold f_X2_encloses
        rw [q_oneRow hC hI hr8 hm hq8 hs, Option.bind_some, if_neg z, if_pos rfl]
      rw [e, Option.bind_some, if_pos rfl] at b1
      exact ⟨_, _, b1, b2, rfl, Rl_th hr⟩
