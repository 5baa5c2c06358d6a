/-! ===== label, inner; about; count ===== -/
section LBL
variable {a : SS} {u : HS} {v : MS} {x : XS} {T r t : Nat}
theorem q_hasStand (h : Now u v T x) (hr : r < 8) (hm : 2 * t ∈ sq x r) (e : Nat) (he : e < 2) : f_X3_hasStand (nI t) (nI e) u = some (if e = 0 ∨ xk x r = 3 then 1 else 0) := by
  unfold f_X3_hasStand
  rw [q_isStanding h ⟨rfl, hr, hm⟩, Option.bind_some, if_neg (by decide)]
  by_cases z : e = 0
  · subst z
    rw [if_pos nI_0, if_pos (Or.inl rfl)]
  · rw [if_neg (nI_ne0 (by omega) (by omega)), q_nested h.1 h.2.2.1 hr hm, Option.bind_some]
    by_cases w : xk x r = 3
    · rw [if_pos w, if_pos (Or.inr w), if_neg (by decide)]
    · rw [if_neg w, if_pos rfl, if_neg (fun y => y.elim z w)]
theorem standOf_eq (ht : t < 300) (e : Nat) (he : e < 2) : f_X3_standOf (nI t) (nI e) = some (nI (2 * t + e)) := by
  unfold f_X3_standOf
  rw [if_neg (ne_m1 (by omega))]
  by_cases z : e = 0
  · subst z
    rw [if_pos nI_0, two_nI]
    rfl
  · have : e = 1 := by omega
    subst this
    rw [if_neg (by decide), two1]
theorem stand_in (hI : Inv T x) (hN : Nest x) (hr : r < 8) (hm : 2 * t ∈ sq x r) {e : Nat} (he : e < 2) (h : e = 0 ∨ xk x r = 3) : 2 * t + e ∈ sq x r := by
  by_cases z : e = 0
  · subst z; exact hm
  · have : e = 1 := by omega
    subst this
    rcases h with h | h
    · omega
    · exact (thing_at (hN r hr h) (hI.2.2.1 r hr) hm).1
theorem q_labD (hC : CA a x) (hI : Inv T x) (hr : r < 8) {d : Nat} (hd : d ∈ sq x r) : ∃ i t, i < (xb x r).length ∧ t < ((xb x r).getD i (0, [])).2.length ∧ pos (sq x r) d = psum (lens (xb x r)) i + t ∧ a.2.2.2.1 d = lN ((xb x r).getD i (0, [])).1 ∧ d ∈ ((xb x r).getD i (0, [])).2 := by
  obtain ⟨c1, hO, c6, c7, c8, c9⟩ := CA_iff.mp hC
  obtain ⟨i, p, i1, i2, i3, i4⟩ := in_blk (hI.2.2.1 r hr) hd
  have hm : d ∈ ((xb x r).getD i (0, [])).2 := by rw [← i3]; exact getD_mem i2
  exact ⟨i, p, i1, i2, i4, c6 r hr _ (getD_mem2 i1) d hm, hm⟩
theorem p_label55 (hM : MA (core v) x) (hI : Inv T x) (hr : r < 8) {e i p : Nat} (hd : 2 * t + e ∈ sq x r) (i1 : i < (xb x r).length) (i2 : p < ((xb x r).getD i (0, [])).2.length) (i4 : pos (sq x r) (2 * t + e) = psum (lens (xb x r)) i + p) (hm : 2 * t + e ∈ ((xb x r).getD i (0, [])).2) : f_X4_label_55 (nI r) (2 * nI t) (nI e) v = some (lN ((xb x r).getD i (0, [])).1, v) := by
  obtain ⟨k, w, k4, ek, w4, w40, ew, hs, hL, hne, h1, h2⟩ := row_ok hI hr (row_nz hI hr hd)
  have hd6 := sq_lt hI hr hd
  have hl6 := len600 hI hr
  unfold f_X4_label_55
  rw [hasB hM hr ek k4, Option.bind_some, two_nI, nI_add]
  by_cases k2 : k < 2
  · have hk' : ¬ 2 ≤ xk x r := by rw [ek, le_L (by omega) (by decide)]; omega
    have e10 : v.2.2 10 (2 * t + e) = lN ((xb x r).getD i (0, [])).1 := hM.2.2.2.1 r hr hk' _ (getD_mem2 i1) _ hm
    rw [if_pos k2, if_pos rfl, if_pos (ix_nI hd6 (by omega)), nI_clamp (by omega), e10]
  · have hk' : 2 ≤ xk x r := by rw [ek]; exact nI_le (a := 2) (by omega) (by omega)
    have hBK := BK_of hM hr hk'
    have hbl := RwL_of hI r hr
    have hps := psum_s2 i1
    have hpl := psum_le (BB := xb x r) (i := i + 1) (by omega)
    have hpl' : (idl (xb x r)).length = (sq x r).length := rfl
    have gB := p_blockAt (v := v) hr hBK (by rw [lens_len]; omega) (k := i) (t := p) (by rw [lens_len]; exact i1) (by rw [lens_gD i1]; exact i2) (by rw [lens_gD i1]; omega)
    have e9 : v.2.2 9 (600 * r + i) = lN ((xb x r).getD i (0, [])).1 := by
      rw [hBK.2.2.2 i (by rw [lens_len]; exact i1), labs_gD i1]
    rw [if_neg k2, if_neg (by decide), p_placeOf hM hI hr hd, Option.bind_some, i4, gB, Option.bind_some, ma600, if_pos (ix_nI (by omega) (by omega)), nI_clamp (by omega), e9]
end LBL
theorem st_label : Sp_label Rl := by
  intro u v x1 x2 hr hx2
  obtain ⟨T, x, h⟩ := hr.now
  have h' := p_th h
  obtain ⟨hC, hM, hI, hN, h5, h6⟩ := id h
  obtain ⟨-, hM', -, -, -, h6'⟩ := id h'
  obtain ⟨e, he, rfl⟩ : ∃ e, e < 2 ∧ x2 = nI e := by
    rcases hx2 with z | z
    · exact ⟨0, by omega, z⟩
    · exact ⟨1, by omega, z⟩
  rcases thg_dec x x1 with ⟨t, r, hq⟩ | hno
  · have a2 := p_isThing hM' hI h6' hq
    obtain ⟨rfl, hr8, hm⟩ := hq
    have ht6 := sq_lt hI hr8 hm
    have e2 : (mF v 0 0).2.1 2 r = xk x r := (hM'.1 r hr8).1
    have b2 : f_X4_label (nI t) (nI e) v = (if e = 0 ∨ xk x r = 3 then f_X4_label_55 (nI r) (2 * nI t) (nI e) (mF v 0 0) else some (-3, mF v 0 0)) := by
      unfold f_X4_label
      rw [a2, Option.bind_some, if_neg (by decide), p_rowT hM' hI hr8 hm, Option.bind_some]
      by_cases z : e = 0
      · subst z
        rw [if_pos nI_0, if_pos nI_0, if_pos (Or.inl rfl)]
        rfl
      · have : e = 1 := by omega
        subst this
        rw [if_neg (by decide), if_pos (ix_nI hr8 (by omega)), nI_clamp (by omega), e2]
        by_cases w : xk x r = 3
        · rw [if_pos w, if_pos (Or.inr w), if_neg (by decide)]
          rfl
        · rw [if_neg w, if_neg (fun y => y.elim z w)]
    by_cases z : e = 0 ∨ xk x r = 3
    · have hd := stand_in hI hN hr8 hm he z
      have hd6 := sq_lt hI hr8 hd
      obtain ⟨i, p, i1, i2, i4, i5, i6⟩ := q_labD hC hI hr8 hd
      rw [if_pos z, p_label55 hM' hI hr8 hd i1 i2 i4 i6] at b2
      refine ⟨_, _, ?_, b2, rfl, Rl_th hr⟩
      unfold f_X3_label
      rw [q_hasStand h hr8 hm e he, Option.bind_some, if_pos z, if_neg (by decide), standOf_eq (by omega) e he, Option.bind_some, if_pos (ix_nI hd6 (by omega)), nI_clamp (by omega), i5]
    · rw [if_neg z] at b2
      refine ⟨-3, _, ?_, b2, rfl, Rl_th hr⟩
      unfold f_X3_label
      rw [q_hasStand h hr8 hm e he, Option.bind_some, if_neg z, if_pos rfl]
  · refine ⟨-3, (-3, mF v 0 0), ?_, ?_, rfl, Rl_th hr⟩
    · unfold f_X3_label f_X3_hasStand
      rw [q_isStanding_no h hno, Option.bind_some, if_pos rfl, Option.bind_some, if_pos rfl]
    · unfold f_X4_label
      rw [p_isThing_no hM' hI h6' hno, Option.bind_some, if_pos rfl]
theorem st_inner : Sp_inner Rl := by
  intro u v x1 x2 hr hx2
  obtain ⟨T, x, h⟩ := hr.now
  have h' := p_th h
  obtain ⟨hC, hM, hI, hN, h5, h6⟩ := id h
  obtain ⟨-, hM', -, -, -, h6'⟩ := id h'
  obtain ⟨e, he, rfl⟩ : ∃ e, e < 2 ∧ x2 = nI e := by
    rcases hx2 with z | z
    · exact ⟨0, by omega, z⟩
    · exact ⟨1, by omega, z⟩
  rcases thg_dec x x1 with ⟨t, r, hq⟩ | hno
  · have a2 := p_isThing hM' hI h6' hq
    obtain ⟨rfl, hr8, hm⟩ := hq
    have ht6 := sq_lt hI hr8 hm
    obtain ⟨k, w, k4, ek, -⟩ := row_ok hI hr8 (row_nz hI hr8 hm)
    have e2 : (mF v 0 0).2.1 2 r = xk x r := (hM'.1 r hr8).1
    have hkC : u.2.2.2.2.1.2.2.1 2 r = nI k := by rw [← ek]; exact (hC.1 r hr8).1
    by_cases z : e = 0 ∨ xk x r = 3
    · have hd := stand_in hI hN hr8 hm he z
      have hd6 := sq_lt hI hr8 hd
      have b1 : f_X3_inner (nI t) (nI e) u = (if k < 2 then some (-1) else some (u.2.2.2.2.1.2.2.1 6 (2 * t + e))) := by
        unfold f_X3_inner
        rw [q_hasStand h hr8 hm e he, Option.bind_some, if_pos z, if_neg (by decide), q_rowT hC hI hr8 hm, Option.bind_some, c_hasB hr8 hkC k4, Option.bind_some]
        by_cases k2 : k < 2
        · rw [if_pos k2, if_pos rfl, if_pos k2]
        · rw [if_neg k2, if_neg (by decide), if_neg k2, standOf_eq (by omega) e he, Option.bind_some, if_pos (ix_nI hd6 (by omega)), nI_clamp (by omega)]
      have b2 : f_X4_inner (nI t) (nI e) v = (if k < 2 then some (-1, mF v 0 0) else some ((mF v 0 0).2.1 11 (2 * t + e), mF v 0 0)) := by
        unfold f_X4_inner
        rw [a2, Option.bind_some, if_neg (by decide), p_rowT hM' hI hr8 hm, Option.bind_some, hasB hM' hr8 ek k4, Option.bind_some, if_pos (ix_nI hr8 (by omega)), nI_clamp (by omega), e2]
        have hb : ∀ (y : Option (Int32 × MS)), (if (if k < 2 then (0 : Int32) else 1) = 0 then some (-1, mF v 0 0) else y) = (if k < 2 then some (-1, mF v 0 0) else y) := by
          intro y
          by_cases k2 : k < 2
          · rw [if_pos k2, if_pos rfl, if_pos k2]
          · rw [if_neg k2, if_neg (by decide), if_neg k2]
        by_cases y : e = 0
        · subst y
          have e0 : (2 * nI t + 0 : Int32) = nI (2 * t + 0) := by rw [two_nI]; exact nI_add _ 0
          rw [if_pos nI_0, hb, if_pos nI_0, e0, if_pos (ix_nI hd6 (by omega)), nI_clamp (by omega)]
        · have y1 : e = 1 := by omega
          subst y1
          have w3 : xk x r = 3 := by
            rcases z with z | z
            · omega
            · exact z
          rw [if_neg (by decide), if_pos w3, hb, if_neg (show ¬ nI 1 = 0 by decide), two1, if_pos (ix_nI hd6 (by omega)), nI_clamp (by omega)]
      by_cases k2 : k < 2
      · rw [if_pos k2] at b1 b2
        exact ⟨_, _, b1, b2, rfl, Rl_th hr⟩
      · rw [if_neg k2] at b1 b2
        have hk' : 2 ≤ xk x r := by rw [ek]; exact nI_le (a := 2) (by omega) (by omega)
        refine ⟨_, _, b1, b2, ?_, Rl_th hr⟩
        obtain ⟨-, -, -, c7, -⟩ := CA_iff.mp hC
        have g1 := c7 r hr8 hk' _ hd
        have g2 : (mF v 0 0).2.1 11 (2 * t + e) = nI (xi x (2 * t + e)) := hM'.2.2.2.2.2.1 r hr8 hk' _ hd
        rw [g1]
        exact g2.symm
    · have z1 : ¬ e = 0 := fun y => z (Or.inl y)
      have z3 : ¬ xk x r = 3 := fun y => z (Or.inr y)
      refine ⟨-3, (-3, mF v 0 0), ?_, ?_, rfl, Rl_th hr⟩
      · unfold f_X3_inner
        rw [q_hasStand h hr8 hm e he, Option.bind_some, if_neg z, if_pos rfl]
      · unfold f_X4_inner
        rw [a2, Option.bind_some, if_neg (by decide), p_rowT hM' hI hr8 hm, Option.bind_some, if_neg (nI_ne0 (by omega) (by omega)), if_pos (ix_nI hr8 (by omega)), nI_clamp (by omega), e2, if_neg z3]
  · refine ⟨-3, (-3, mF v 0 0), ?_, ?_, rfl, Rl_th hr⟩
    · unfold f_X3_inner f_X3_hasStand
      rw [q_isStanding_no h hno, Option.bind_some, if_pos rfl, Option.bind_some, if_pos rfl]
    · unfold f_X4_inner
      rw [p_isThing_no hM' hI h6' hno, Option.bind_some, if_pos rfl]
/-! about -/
section ABT
variable {a : SS} {v : MS} {x : XS} {T r : Nat}
theorem evn_row (hI : Inv T x) (hN : Nest x) (hr : r < 8) : (xk x r = 3 → 2 * evn (sq x r) = (sq x r).length) ∧ (xk x r ≠ 3 → evn (sq x r) = (sq x r).length) := by
  constructor
  · intro z
    have := run_evn (hN r hr z)
    simpa using this
  · intro z
    unfold evn
    rw [List.countP_eq_length]
    intro d hd
    simp only [decide_eq_true_eq]
    exact hI.2.2.2.2.2.1 r hr z d hd
theorem q_thingsIn (hC : CA a x) (hI : Inv T x) (hN : Nest x) (hr : r < 8) : f_X2_thingsIn (nI r) a = some (nI (evn (sq x r))) := by
  obtain ⟨e1, e2⟩ := evn_row hI hN hr
  have hl := len600 hI hr
  unfold f_X2_thingsIn
  rw [if_pos (ix_nI hr (by omega)), nI_clamp (by omega), (hC.1 r hr).1, q_length hC hr, Option.bind_some]
  by_cases z : xk x r = 3
  · have := e1 z
    rw [if_pos z, div2 (by omega)]
    congr 2
    omega
  · rw [if_neg z, Option.bind_some, e2 z]
theorem p_thingsIn (hM : MA (core v) x) (hI : Inv T x) (hr : r < 8) : f_X4_thingsIn (nI r) v = some (nI (evn (sq x r))) := by
  have h6 := len600 hI hr
  have e4 : v.2.1 4 r = nI (sq x r).length := hM.2.1 r hr
  unfold f_X4_thingsIn
  refine loopE (fun m i => f_X4_thingsIn_4 m (nI r) (nI (evn ((sq x r).take i))) (nI i) v) (a := 0) (b := (sq x r).length) (Nat.zero_le _) (NF_lt (by omega)) (fun m i h1 h2 => ?_) (fun m => ?_)
  · have hd := sq_lt hI hr (getD_mem (l := sq x r) (i := i) (by omega))
    have e7 : v.2.1 7 (600 * r + i) = nI ((sq x r).getD i 0) := hM.2.2.1 r hr i (by omega)
    rw [f_X4_thingsIn_4, if_pos (ix_nI hr (by omega)), nI_clamp (by omega), e4, if_neg (nI_ge (by omega) (by omega)), ma600, if_pos (ix_nI (by omega) (by omega)), nI_clamp (by omega), e7, rem2 (by omega), evn_s h2, nI_1]
    by_cases z : (sq x r).getD i 0 % 2 = 0
    · rw [z, if_pos nI_0, if_pos rfl, nI_1]
    · rw [if_neg (nI_ne0 (by omega) (by omega)), if_neg z, nI_1]
      simp (disch := omega) only [ix_nI, nI_clamp, le_L, le_R, lt_L, lt_R, eq_L, eq_R, ad_L, sb_L, ml_L, nI_leI, nI_ltI, nI_eq, nI_add, pk_mul, nI_m1, if_true, if_false, if_pos, if_neg, Option.bind_some, Nat.add_zero]
  · rw [f_X4_thingsIn_4, if_pos (ix_nI hr (by omega)), nI_clamp (by omega), e4, if_pos (nI_le (Nat.le_refl _) (by omega)), List.take_length]
theorem CB_of (hC : CA a x) (hI : Inv T x) (hr : r < 8) (hk : xk x r ≠ -1) : CB a (sq x) r (xb x r) := by
  obtain ⟨c1, hO, c6, c7, c8, c9⟩ := CA_iff.mp hC
  obtain ⟨k, w, k4, ek, w4, w40, ew, hs, hL, hne, h1, h2⟩ := row_ok hI hr hk
  have hpw := pw_le w40
  refine ⟨hO, by rw [← off_ofS]; exact off600 hI (Nat.le_refl _), hr, rfl, hI.2.2.1 r hr, fun d hd => sq_lt hI hr hd, fun b hb => ⟨hne b hb, Or.inl ?_⟩, c6 r hr⟩
  have := hL b.1 (List.mem_map.mpr ⟨b, hb, rfl⟩)
  omega
theorem q_blocks (hC : CA a x) (hI : Inv T x) (hr : r < 8) (hk : xk x r ≠ -1) (hk2 : 2 ≤ xk x r) : f_X2_blocksIn (nI r) a = some (nI (xb x r).length) := by
  have hB := CB_of hC hI hr hk
  obtain ⟨k, w, k4, ek, w4, w40, ew, hs, hL, hne, h1, h2⟩ := row_ok hI hr hk
  have hkC : a.2.2.1 2 r = nI k := by rw [← ek]; exact (hC.1 r hr).1
  have hkn : ¬ k < 2 := by
    rw [ek, le_L (by omega) (by decide)] at hk2
    omega
  have hpw := pw_le w40
  have hen := o_end hB.1 hr
  have hbd := CB_bd hB (i := (xb x r).length) (Nat.le_refl _)
  have hall : psum (lens (xb x r)) (xb x r).length = (sq x r).length := psum_all
  have hlab : ∀ i, i < (xb x r).length → ((xb x r).getD i (0, [])).1 < 2 ^ 42 := by
    intro i hi
    have := hL _ (getD_mem (i := i) (l := labs (xb x r)) (by rw [labs_len]; exact hi))
    rw [labs_gD hi] at this
    omega
  -- last label before block i
  let las : Nat → Int64 := fun i => if i = 0 then -1 else lN ((xb x r).getD (i - 1) (0, [])).1
  have hlas : ∀ i, i < (xb x r).length → ¬ lN ((xb x r).getD i (0, [])).1 = las i := by
    intro i hi z
    by_cases y : i = 0
    · have e : las i = -1 := if_pos y
      rw [e] at z
      exact lN_m1 (hlab i hi) z
    · have e : las i = lN ((xb x r).getD (i - 1) (0, [])).1 := if_neg y
      have l1 := hlab i hi
      have l2 := hlab (i - 1) (by omega)
      rw [e, pk_lEQ (by omega) (by omega), ← labs_gD hi, ← labs_gD (show i - 1 < _ by omega)] at z
      have := lt_pair hs (i := i - 1) (k := i) (by omega) (by rw [labs_len]; exact hi)
      omega
  have one : ∀ i, i < (xb x r).length → ∀ m, f_X2_blocksIn_26 (m + ((xb x r).getD i (0, [])).2.length) (nI r) (nI i) (las i) (nI (ofS (sq x) r + psum (lens (xb x r)) i)) a = f_X2_blocksIn_26 m (nI r) (nI (i + 1)) (las (i + 1)) (nI (ofS (sq x) r + psum (lens (xb x r)) (i + 1))) a := by
    intro i hi m
    have h0 := CB_len hB hi
    have hps := psum_s2 hi
    have hpl := psum_le (BB := xb x r) (i := i + 1) (by omega)
    have hpl' : (idl (xb x r)).length = (sq x r).length := rfl
    have e1 : las (i + 1) = lN ((xb x r).getD i (0, [])).1 := if_neg (by omega)
    have inner : ∀ g p, p + g = ((xb x r).getD i (0, [])).2.length → f_X2_blocksIn_26 (m + g) (nI r) (nI (i + 1)) (las (i + 1)) (nI (ofS (sq x) r + psum (lens (xb x r)) i + p)) a = f_X2_blocksIn_26 m (nI r) (nI (i + 1)) (las (i + 1)) (nI (ofS (sq x) r + psum (lens (xb x r)) (i + 1))) a := by
      intro g
      induction g with
      | zero =>
        intro p hp
        rw [hps, show p = ((xb x r).getD i (0, [])).2.length from by omega, ← Nat.add_assoc]
        rfl
      | succ g ih =>
        intro p hp
        rw [show m + (g + 1) = (m + g) + 1 from rfl, f_X2_blocksIn_26, hen, Option.bind_some, if_neg (nI_ge (by omega) (by omega)), CB_labelAt hB hi (by omega), Option.bind_some, Option.bind_some, if_pos ((lg_cmp_eq _ _).mpr e1.symm), nI_1, Nat.add_assoc (ofS (sq x) r + psum (lens (xb x r)) i), ← ih (p + 1) (by omega), e1]
    obtain ⟨n', hn'⟩ : ∃ n', ((xb x r).getD i (0, [])).2.length = n' + 1 := ⟨((xb x r).getD i (0, [])).2.length - 1, by omega⟩
    have hla := CB_labelAt hB hi h0
    rw [Nat.add_zero] at hla
    rw [← inner n' 1 (by omega), hn', show m + (n' + 1) = (m + n') + 1 from rfl, f_X2_blocksIn_26, hen, Option.bind_some, if_neg (nI_ge (by omega) (by omega)), hla, Option.bind_some, Option.bind_some, if_neg (fun z => hlas i hi ((lg_cmp_eq _ _).mp z)), Option.bind_some, nI_1, nI_1, e1]
  have many : ∀ g i, i + g = (xb x r).length → ∀ m, f_X2_blocksIn_26 (m + (psum (lens (xb x r)) (xb x r).length - psum (lens (xb x r)) i)) (nI r) (nI i) (las i) (nI (ofS (sq x) r + psum (lens (xb x r)) i)) a = f_X2_blocksIn_26 m (nI r) (nI (xb x r).length) (las (xb x r).length) (nI (ofS (sq x) r + psum (lens (xb x r)) (xb x r).length)) a := by
    intro g
    induction g with
    | zero =>
      intro i hi m
      rw [show i = (xb x r).length from by omega, Nat.sub_self]
      rfl
    | succ g ih =>
      intro i hi m
      have hps := psum_s2 (BB := xb x r) (i := i) (by omega)
      have hmo := psum_mono (N := lens (xb x r)) (i := i + 1) (k := (xb x r).length) (by omega) (by rw [lens_len]; exact Nat.le_refl _)
      rw [show m + (psum (lens (xb x r)) (xb x r).length - psum (lens (xb x r)) i) = (m + (psum (lens (xb x r)) (xb x r).length - psum (lens (xb x r)) (i + 1))) + ((xb x r).getD i (0, [])).2.length from by omega, one i (by omega), ih (i + 1) (by omega)]
  unfold f_X2_blocksIn
  rw [c_hasB hr hkC k4, Option.bind_some, if_neg hkn, if_neg (by decide), o_first hB.1 hr, Option.bind_some]
  obtain ⟨m, hm⟩ : ∃ m, NF = (m + 1) + (psum (lens (xb x r)) (xb x r).length - psum (lens (xb x r)) 0) := by
    refine ⟨19999 - (psum (lens (xb x r)) (xb x r).length - psum (lens (xb x r)) 0), ?_⟩
    rw [NF_eq]
    omega
  have g := many (xb x r).length 0 (by omega) (m + 1)
  rw [← hm] at g
  have g' : f_X2_blocksIn_26 NF (nI r) 0 (-1) (nI (ofS (sq x) r)) a = f_X2_blocksIn_26 (m + 1) (nI r) (nI (xb x r).length) (las (xb x r).length) (nI (ofS (sq x) r + psum (lens (xb x r)) (xb x r).length)) a := g
  rw [g', f_X2_blocksIn_26, hen, Option.bind_some, hall, if_pos (nI_le (Nat.le_refl _) (by omega))]
end ABT
theorem st_about : Sp_about Rl := by
  intro u v x1 x2 hr
  obtain ⟨T, x, h⟩ := hr.now
  have h' := p_th h
  obtain ⟨hC, hM, hI, hN, h5, h6⟩ := id h
  obtain ⟨-, hM', -, -, -, h6'⟩ := id h'
  rcases rw_dec x x1 with ⟨r, hq⟩ | hno
  · have a1 := q_isRow hC hq
    have a2 := p_isRow hM' hq
    obtain ⟨rfl, hr8, hk⟩ := hq
    obtain ⟨k, w, k4, ek, -⟩ := row_ok hI hr8 hk
    obtain ⟨m1, m2, m3⟩ := hM'.1 r hr8
    have m1' : (mF v 0 0).2.1 2 r = xk x r := m1
    have m2' : (mF v 0 0).2.1 3 r = xw x r := m2
    have m3' : (mF v 0 0).2.1 5 r = xg x r := m3
    obtain ⟨c1, c2, c3⟩ := hC.1 r hr8
    have b1 : f_X3_about (nI r) x2 u = (if x2 = 0 then some (xk x r) else (if x2 = 1 then some (xw x r) else (if x2 = 2 then some (nI (evn (sq x r))) else (if x2 = 3 then (f_X2_blocksIn (nI r) u.2.2.2.2.1).bind (fun z12 => some z12) else (if x2 = 4 then some (xg x r) else some (-3)))))) := by
      unfold f_X3_about
      rw [a1, Option.bind_some, if_neg (by decide), if_pos (ix_nI hr8 (by omega)), if_pos (ix_nI hr8 (by omega)), if_pos (ix_nI hr8 (by omega)), nI_clamp (by omega), c1, c2, c3, q_thingsIn hC hI hN hr8, Option.bind_some]
    have b2 : f_X4_about (nI r) x2 v = (if x2 = 0 then some (xk x r, mF v 0 0) else (if x2 = 1 then some (xw x r, mF v 0 0) else (if x2 = 2 then some (nI (evn (sq x r)), mF v 0 0) else (if x2 = 3 then (if (if k < 2 then (0 : Int32) else 1) = 0 then some (0, mF v 0 0) else some ((mF v 0 0).2.1 6 r, mF v 0 0)) else (if x2 = 4 then some (xg x r, mF v 0 0) else some (-3, mF v 0 0)))))) := by
      unfold f_X4_about
      rw [a2, Option.bind_some, if_neg (by decide), if_pos (ix_nI hr8 (by omega)), if_pos (ix_nI hr8 (by omega)), if_pos (ix_nI hr8 (by omega)), if_pos (ix_nI hr8 (by omega)), nI_clamp (by omega), m1', m2', m3', p_thingsIn hM' hI hr8, Option.bind_some, hasB hM' hr8 ek k4, Option.bind_some]
    by_cases z0 : x2 = 0
    · rw [if_pos z0] at b1 b2; exact ⟨_, _, b1, b2, rfl, Rl_th hr⟩
    · rw [if_neg z0] at b1 b2
      by_cases z1 : x2 = 1
      · rw [if_pos z1] at b1 b2; exact ⟨_, _, b1, b2, rfl, Rl_th hr⟩
      · rw [if_neg z1] at b1 b2
        by_cases z2 : x2 = 2
        · rw [if_pos z2] at b1 b2; exact ⟨_, _, b1, b2, rfl, Rl_th hr⟩
        · rw [if_neg z2] at b1 b2
          by_cases z3 : x2 = 3
          · rw [if_pos z3] at b1 b2
            by_cases k2 : k < 2
            · rw [if_pos k2, if_pos rfl] at b2
              have hkC : u.2.2.2.2.1.2.2.1 2 r = nI k := by rw [← ek]; exact c1
              have e : f_X2_blocksIn (nI r) u.2.2.2.2.1 = some 0 := by
                unfold f_X2_blocksIn
                rw [c_hasB hr8 hkC k4, Option.bind_some, if_pos k2, if_pos rfl]
              rw [e, Option.bind_some] at b1
              exact ⟨_, _, b1, b2, rfl, Rl_th hr⟩
            · have hk' : 2 ≤ xk x r := by rw [ek]; exact nI_le (a := 2) (by omega) (by omega)
              rw [if_neg k2, if_neg (by decide)] at b2
              rw [q_blocks hC hI hr8 hk hk', Option.bind_some] at b1
              refine ⟨_, _, b1, b2, ?_, Rl_th hr⟩
              exact (hM'.2.2.2.2.1 r hr8 hk').1.symm
          · rw [if_neg z3] at b1 b2
            by_cases z4 : x2 = 4
            · rw [if_pos z4] at b1 b2; exact ⟨_, _, b1, b2, rfl, Rl_th hr⟩
            · rw [if_neg z4] at b1 b2; exact ⟨_, _, b1, b2, rfl, Rl_th hr⟩
  · refine ⟨-3, (-3, mF v 0 0), ?_, ?_, rfl, Rl_th hr⟩
    · unfold f_X3_about
      rw [q_isRow_no hC hno, Option.bind_some, if_pos rfl]
    · unfold f_X4_about
      rw [p_isRow_no hM' hno, Option.bind_some, if_pos rfl]
/-! count -/
def tot (x : XS) : Nat → Nat
  | 0 => 0
  | r + 1 => tot x r + evn (sq x r)
def cntK (f : Nat → Int32) : Nat → Nat
  | 0 => 0
  | r + 1 => cntK f r + (if f r = -1 then 0 else 1)
section CNT
variable {a : SS} {v : MS} {x : XS} {T : Nat}
theorem q_all (hC : CA a x) (hI : Inv T x) (hN : Nest x) : f_X2_thingsInAll a = some (nI (tot x 8)) := by
  unfold f_X2_thingsInAll
  refine loopE (fun m i => f_X2_thingsInAll_4 m (nI (tot x i)) (nI i) a) (a := 0) (b := 8) (Nat.zero_le _) (NF_lt (by omega)) (fun m i h1 h2 => ?_) (fun m => ?_)
  · rw [f_X2_thingsInAll_4, if_neg (show ¬ (8 : Int32) ≤ nI i from nI_ge (b := 8) h2 (by omega)), q_thingsIn hC hI hN h2, Option.bind_some, nI_add, nI_1]
    rfl
  · rw [f_X2_thingsInAll_4, if_pos (show (8 : Int32) ≤ nI 8 by decide)]
theorem p_all (hM : MA (core v) x) (hI : Inv T x) : f_X4_count_50 NF 0 0 v = some (nI (tot x 8), v) := by
  refine loopE (fun m i => f_X4_count_50 m (nI (tot x i)) (nI i) v) (a := 0) (b := 8) (Nat.zero_le _) (NF_lt (by omega)) (fun m i h1 h2 => ?_) (fun m => ?_)
  · have e2 : v.2.1 2 i = xk x i := (hM.1 i h2).1
    rw [f_X4_count_50, if_neg (show ¬ (8 : Int32) ≤ nI i from nI_ge (b := 8) h2 (by omega)), if_pos (ix_nI h2 (by omega)), nI_clamp (by omega), e2]
    by_cases z : xk x i = -1
    · have e0 : tot x (i + 1) = tot x i := by
        show tot x i + evn (sq x i) = _
        rw [none_nil hI h2 z]
        rfl
      rw [if_pos z, e0, nI_1]
      simp (disch := omega) only [ix_nI, nI_clamp, le_L, le_R, lt_L, lt_R, eq_L, eq_R, ad_L, sb_L, ml_L, nI_leI, nI_ltI, nI_eq, nI_add, pk_mul, nI_m1, if_true, if_false, if_pos, if_neg, Option.bind_some, Nat.add_zero]
    · rw [if_neg z, p_thingsIn hM hI h2, Option.bind_some, nI_add, nI_1]
      rfl
  · rw [f_X4_count_50, if_pos (show (8 : Int32) ≤ nI 8 by decide)]
theorem q_rows (hC : CA a x) : f_X2_rowCount a = some (nI (cntK (xk x) 8)) := by
  unfold f_X2_rowCount
  refine loopE (fun m i => f_X2_rowCount_4 m (nI (cntK (xk x) i)) (nI i) a) (a := 0) (b := 8) (Nat.zero_le _) (NF_lt (by omega)) (fun m i h1 h2 => ?_) (fun m => ?_)
  · rw [f_X2_rowCount_4, if_neg (show ¬ (8 : Int32) ≤ nI i from nI_ge (b := 8) h2 (by omega)), if_pos (ix_nI h2 (by omega)), nI_clamp (by omega), (hC.1 i h2).1, nI_1]
    by_cases z : xk x i = -1
    · have e0 : cntK (xk x) (i + 1) = cntK (xk x) i := by
        show cntK (xk x) i + (if xk x i = -1 then 0 else 1) = _
        rw [if_pos z, Nat.add_zero]
      rw [if_pos z, e0]
    · have e0 : cntK (xk x) (i + 1) = cntK (xk x) i + 1 := by
        show cntK (xk x) i + (if xk x i = -1 then 0 else 1) = _
        rw [if_neg z]
      rw [if_neg z, e0, nI_1]
  · rw [f_X2_rowCount_4, if_pos (show (8 : Int32) ≤ nI 8 by decide)]
theorem p_rows (hM : MA (core v) x) : f_X4_count_137 NF 0 0 v = some (nI (cntK (xk x) 8), v) := by
  refine loopE (fun m i => f_X4_count_137 m (nI (cntK (xk x) i)) (nI i) v) (a := 0) (b := 8) (Nat.zero_le _) (NF_lt (by omega)) (fun m i h1 h2 => ?_) (fun m => ?_)
  · have e2 : v.2.1 2 i = xk x i := (hM.1 i h2).1
    rw [f_X4_count_137, if_neg (show ¬ (8 : Int32) ≤ nI i from nI_ge (b := 8) h2 (by omega)), if_pos (ix_nI h2 (by omega)), nI_clamp (by omega), e2]
    by_cases z : xk x i = -1
    · have e0 : cntK (xk x) (i + 1) = cntK (xk x) i := by
        show cntK (xk x) i + (if xk x i = -1 then 0 else 1) = _
        rw [if_pos z, Nat.add_zero]
      rw [if_pos z, e0, nI_1]
      simp (disch := omega) only [ix_nI, nI_clamp, le_L, le_R, lt_L, lt_R, eq_L, eq_R, ad_L, sb_L, ml_L, nI_leI, nI_ltI, nI_eq, nI_add, pk_mul, nI_m1, if_true, if_false, if_pos, if_neg, Option.bind_some, Nat.add_zero]
    · have e0 : cntK (xk x) (i + 1) = cntK (xk x) i + 1 := by
        show cntK (xk x) i + (if xk x i = -1 then 0 else 1) = _
        rw [if_neg z]
      rw [if_neg z, e0, nI_1, nI_1]
  · rw [f_X4_count_137, if_pos (show (8 : Int32) ≤ nI 8 by decide)]
theorem q_marks (hC : CA a x) : f_X0_setCount a.2.1 = some (nI (cntK (xm x 1) 20)) := by
  have c8 := hC.2.2.2.2.2.2.2.1
  unfold f_X0_setCount
  refine loopE (fun m i => f_X0_setCount_4 m (nI (cntK (xm x 1) i)) (nI i) a.2.1) (a := 0) (b := 20) (Nat.zero_le _) (NF_lt (by omega)) (fun m i h1 h2 => ?_) (fun m => ?_)
  · rw [f_X0_setCount_4, if_neg (show ¬ (20 : Int32) ≤ nI i from nI_ge (b := 20) h2 (by omega)), if_pos (ix_nI h2 (by omega)), nI_clamp (by omega), (c8 i h2).1, nI_1]
    by_cases z : xm x 1 i = -1
    · have e0 : cntK (xm x 1) (i + 1) = cntK (xm x 1) i := by
        show cntK (xm x 1) i + (if xm x 1 i = -1 then 0 else 1) = _
        rw [if_pos z, Nat.add_zero]
      rw [if_pos z, e0]
    · have e0 : cntK (xm x 1) (i + 1) = cntK (xm x 1) i + 1 := by
        show cntK (xm x 1) i + (if xm x 1 i = -1 then 0 else 1) = _
        rw [if_neg z]
      rw [if_neg z, e0, nI_1]
  · rw [f_X0_setCount_4, if_pos (show (20 : Int32) ≤ nI 20 by decide)]
theorem p_cmarks (hM : MA (core v) x) : f_X4_count_103 NF 0 0 v = some (nI (cntK (xm x 1) 20), v) := by
  have m7 := hM.2.2.2.2.2.2.1
  refine loopE (fun m i => f_X4_count_103 m (nI (cntK (xm x 1) i)) (nI i) v) (a := 0) (b := 20) (Nat.zero_le _) (NF_lt (by omega)) (fun m i h1 h2 => ?_) (fun m => ?_)
  · have e2 : v.2.1 12 i = xm x 1 i := (m7 i h2).1
    rw [f_X4_count_103, if_neg (show ¬ (20 : Int32) ≤ nI i from nI_ge (b := 20) h2 (by omega)), if_pos (ix_nI h2 (by omega)), nI_clamp (by omega), e2]
    by_cases z : xm x 1 i = -1
    · have e0 : cntK (xm x 1) (i + 1) = cntK (xm x 1) i := by
        show cntK (xm x 1) i + (if xm x 1 i = -1 then 0 else 1) = _
        rw [if_pos z, Nat.add_zero]
      rw [if_pos z, e0, nI_1]
      simp (disch := omega) only [ix_nI, nI_clamp, le_L, le_R, lt_L, lt_R, eq_L, eq_R, ad_L, sb_L, ml_L, nI_leI, nI_ltI, nI_eq, nI_add, pk_mul, nI_m1, if_true, if_false, if_pos, if_neg, Option.bind_some, Nat.add_zero]
    · have e0 : cntK (xm x 1) (i + 1) = cntK (xm x 1) i + 1 := by
        show cntK (xm x 1) i + (if xm x 1 i = -1 then 0 else 1) = _
        rw [if_neg z]
      rw [if_neg z, e0, nI_1, nI_1]
  · rw [f_X4_count_103, if_pos (show (20 : Int32) ≤ nI 20 by decide)]
end CNT
theorem st_count : Sp_count Rl := by
  intro u v x1 hr
  obtain ⟨T, n, N, E, h1, h2, h3, h4, h5, h6, h7, h8, h9, h10, ⟨x, hC, hM, hI, hN⟩, h12⟩ := id hr
  have hM' : MA (core (mF v 0 0)) x := by rw [core_th]; exact hM
  have c9 : u.2.2.2.2.1.2.2.2.2 = xr x := hC.2.2.2.2.2.2.2.2
  have m8 : (mF v 0 0).1 15 = xr x := hM'.2.2.2.2.2.2.2
  have b1 : f_X3_count x1 u = (if x1 = 0 then some (nI (tot x 8)) else (if x1 = 1 then some (nI T) else (if x1 = 2 then some (xr x) else (if x1 = 3 then some (nI n) else (if x1 = 4 then some (nI (cntK (xm x 1) 20)) else (if x1 = 5 then some (nI (cntK (xk x) 8)) else some (-3))))))) := by
    unfold f_X3_count
    rw [q_all hC hI hN, Option.bind_some, h5, c9, h7, q_marks hC, Option.bind_some, q_rows hC, Option.bind_some]
  have b2 : f_X4_count x1 v = (if x1 = 0 then some (nI (tot x 8), mF v 0 0) else (if x1 = 1 then some (nI T, mF v 0 0) else (if x1 = 2 then some (xr x, mF v 0 0) else (if x1 = 3 then some (nI n, mF v 0 0) else (if x1 = 4 then some (nI (cntK (xm x 1) 20), mF v 0 0) else (if x1 = 5 then some (nI (cntK (xk x) 8), mF v 0 0) else some (-3, mF v 0 0))))))) := by
    unfold f_X4_count
    rw [p_all hM' hI, th_1 (show (1 : Nat) ≠ 0 by decide), h6, m8, th_1 (show (19 : Nat) ≠ 0 by decide), h8, p_cmarks hM', p_rows hM']
  by_cases z0 : x1 = 0
  · rw [if_pos z0] at b1 b2; exact ⟨_, _, b1, b2, rfl, Rl_th hr⟩
  · rw [if_neg z0] at b1 b2
    by_cases z1 : x1 = 1
    · rw [if_pos z1] at b1 b2; exact ⟨_, _, b1, b2, rfl, Rl_th hr⟩
    · rw [if_neg z1] at b1 b2
      by_cases z2 : x1 = 2
      · rw [if_pos z2] at b1 b2; exact ⟨_, _, b1, b2, rfl, Rl_th hr⟩
      · rw [if_neg z2] at b1 b2
        by_cases z3 : x1 = 3
        · rw [if_pos z3] at b1 b2; exact ⟨_, _, b1, b2, rfl, Rl_th hr⟩
        · rw [if_neg z3] at b1 b2
          by_cases z4 : x1 = 4
          · rw [if_pos z4] at b1 b2; exact ⟨_, _, b1, b2, rfl, Rl_th hr⟩
          · rw [if_neg z4] at b1 b2
            by_cases z5 : x1 = 5
            · rw [if_pos z5] at b1 b2; exact ⟨_, _, b1, b2, rfl, Rl_th hr⟩
            · rw [if_neg z5] at b1 b2; exact ⟨_, _, b1, b2, rfl, Rl_th hr⟩
