/-! ===== the class: spreadRuns, labelRun whole ===== -/
theorem sf_app (L M : List Nat) (x : Nat) : sf (L ++ M) x = sf L x + sf M x := by unfold sf; rw [List.countP_append]
theorem sf_mono (L : List Nat) {x y : Nat} (h : x ≤ y) : sf L x ≤ sf L y := by
  unfold sf
  refine List.countP_mono_left (fun z _ hz => ?_)
  simp only [decide_eq_true_eq] at hz ⊢
  omega
theorem sx_step (b j : Nat) : b / 2 ^ (j + 1) * 2 ^ (j + 1) ≤ b / 2 ^ j * 2 ^ j ∧ b / 2 ^ j * 2 ^ j + 2 ^ j ≤ b / 2 ^ (j + 1) * 2 ^ (j + 1) + 2 ^ (j + 1) := by
  have e1 : 2 ^ (j + 1) = 2 * 2 ^ j := by rw [Nat.pow_succ, Nat.mul_comm]
  have e2 : b / 2 ^ (j + 1) = b / 2 ^ j / 2 := by rw [Nat.pow_succ, Nat.div_div_eq_div_mul]
  rw [e2, e1, ← Nat.mul_assoc]
  generalize b / 2 ^ j = e
  generalize 2 ^ j = P
  have h1 : e / 2 * 2 ≤ e := Nat.div_mul_le_self e 2
  have h2 : e + 1 ≤ e / 2 * 2 + 2 := by omega
  constructor
  · exact Nat.mul_le_mul_right P h1
  · have := Nat.mul_le_mul_right P h2
    rw [Nat.add_mul, Nat.add_mul, Nat.one_mul] at this
    exact this
/-- what labelRun leaves -/
def LRes (r : Nat) (S : Nat → List Nat) (BB : BL) (a a' : SS) (R : List Nat × Nat) : Prop := a'.1 = a.1 ∧ a'.2.1 = a.2.1 ∧ (∀ f, f ≠ 4 → a'.2.2.1 f = a.2.2.1 f) ∧ a'.2.2.1 4 = gup (a.2.2.1 4) r R.2 ∧ a'.2.2.2.2 = a.2.2.2.2 + nI (R.2 - 1) ∧ (∀ d, d ∉ S r → a'.2.2.2.1 d = a.2.2.2.1 d) ∧ ∀ i, i < BB.length → ∀ d ∈ (BB.getD i (0, [])).2, a'.2.2.2.1 d = lN (R.1.getD i 0)
theorem nodup_blk {BB : BL} (hn : (idl BB).Nodup) {i k d : Nat} (hi : i < BB.length) (hk : k < BB.length) (h1 : d ∈ (BB.getD i (0, [])).2) (h2 : d ∈ (BB.getD k (0, [])).2) : i = k := by
  obtain ⟨t, ht, e1⟩ := List.mem_iff_getElem.mp h1
  obtain ⟨s, hs, e2⟩ := List.mem_iff_getElem.mp h2
  have a1 := idl_at hi ht
  have a2 := idl_at hk hs
  rw [gD ht, e1] at a1
  rw [gD hs, e2] at a2
  have := nd_inj hn a1.1 a2.1 (by rw [a1.2, a2.2])
  have b1 := psum_s2 hi
  have b2 := psum_s2 hk
  rcases Nat.lt_trichotomy i k with q | q | q
  · have := psum_mono (N := lens BB) (i := i + 1) (k := k) (by omega) (by rw [lens_len]; omega)
    omega
  · exact q
  · have := psum_mono (N := lens BB) (i := k + 1) (k := i) (by omega) (by rw [lens_len]; omega)
    omega
section LRN
variable {a : SS} {S : Nat → List Nat} {r w : Nat} {B1 B2 : BL} {F : List Nat}
/-- blocks i0 .. i1 - 1 are dealt to -/
theorem l_deal (h : LB a S r B1 F B2 w) {i0 i1 X j : Nat} (h1 : i0 ≤ B1.length) (h2 : B1.length < i1) (h3 : i1 ≤ (B1 ++ (FRS, F) :: B2).length) (hX : X < 2 ^ 42) (hj : j ≤ 40) :
    ∃ a', f_X2_dealLabels (nI r) (nI (ofS S r + psum (lens (B1 ++ (FRS, F) :: B2)) i0)) (nI (ofS S r + psum (lens (B1 ++ (FRS, F) :: B2)) i1)) (lN X) (nI j) (nI (i1 - i0)) a = some a' ∧ LRes r S (B1 ++ (FRS, F) :: B2) a a' ((labs (B1 ++ B2)).take i0 ++ ((List.range (i1 - i0)).map (dl X j (i1 - i0)) ++ (labs (B1 ++ B2)).drop (i0 + (i1 - i0) - 1)), i1 - i0) := by
  have hC := h.1
  have hlen := LB_len (B1 := B1) (F := F) (B2 := B2)
  have hll := LB_labs (B1 := B1) (B2 := B2)
  obtain ⟨hat, hml⟩ := CB_at hC (i := i0) (k := i1) (by omega) h3
  have hmo := psum_mono (N := lens (B1 ++ (FRS, F) :: B2)) (i := i0) (k := i1) (by omega) (by rw [lens_len]; omega)
  have hMl : (((B1 ++ (FRS, F) :: B2).drop i0).take (i1 - i0)).length = i1 - i0 := by rw [List.length_take, List.length_drop]; omega
  have hMg : ∀ t, t < i1 - i0 → (((B1 ++ (FRS, F) :: B2).drop i0).take (i1 - i0)).getD t (0, []) = (B1 ++ (FRS, F) :: B2).getD (i0 + t) (0, []) := by
    intro t ht
    rw [List.getD_eq_getElem?_getD, List.getD_eq_getElem?_getD, List.getElem?_take_of_lt ht, List.getElem?_drop]
  have hMm : ∀ b ∈ ((B1 ++ (FRS, F) :: B2).drop i0).take (i1 - i0), b ∈ B1 ++ (FRS, F) :: B2 := fun b hb => List.mem_of_mem_drop (List.mem_of_mem_take hb)
  have hB600 : (B1 ++ (FRS, F) :: B2).length ≤ 600 := by
    have h9 := bl_len2 (B := B1 ++ (FRS, F) :: B2) (fun b hb => (hC.2.2.2.2.2.2.1 b hb).1)
    have := CB_bd hC (i := 0) (Nat.zero_le _)
    rw [hC.2.2.2.1] at this
    omega
  have e := c_dealLabels (r := r) (X := X) (j := j) (c := i1 - i0) (M := ((B1 ++ (FRS, F) :: B2).drop i0).take (i1 - i0)) (P := ofS S r + psum (lens (B1 ++ (FRS, F) :: B2)) i0) (a := a) hC.2.2.1 hX hj hMl (by omega) hat (fun b hb => hC.2.2.2.2.2.2.1 b (hMm b hb)) (fun b hb => hC.2.2.2.2.2.2.2 b (hMm b hb)) (chn_of (fun h0 => by
      rw [hMl] at h0
      rw [hMg 0 h0]
      have hg := (hC.2.2.2.2.2.2.1 _ (getD_mem2 (BB := B1 ++ (FRS, F) :: B2) (i := i0 + 0) (by omega))).2
      intro z
      rcases hg with q | q
      · have : (lN ((B1 ++ (FRS, F) :: B2).getD (i0 + 0) (0, [])).1).toInt = _ := pk_lT (by omega)
        rw [z] at this
        have h9 : (-2 : Int64).toInt = -2 := by decide
        omega
      · rw [q, FRS_l] at z
        exact absurd z (by decide)) (fun t ht => by
      rw [hMl] at ht
      rw [hMg (t + 1) ht, hMg t (by omega)]
      exact LB_adj h (i := i0 + t) (by omega)))
  rw [hml, show ofS S r + psum (lens (B1 ++ (FRS, F) :: B2)) i0 + (psum (lens (B1 ++ (FRS, F) :: B2)) i1 - psum (lens (B1 ++ (FRS, F) :: B2)) i0) = ofS S r + psum (lens (B1 ++ (FRS, F) :: B2)) i1 from by omega] at e
  have hnf : nfr (((B1 ++ (FRS, F) :: B2).drop i0).take (i1 - i0)) = i1 - i0 - 1 := by
    have ex : ((B1 ++ (FRS, F) :: B2).drop i0).take (i1 - i0) = B1.drop i0 ++ (FRS, F) :: B2.take (i1 - B1.length - 1) := by
      rw [List.drop_append_of_le_length h1, List.take_append, List.take_of_length_le (by rw [List.length_drop]; omega), List.length_drop]
      congr 1
      obtain ⟨q, hq⟩ : ∃ q, i1 - i0 - (B1.length - i0) = q + 1 := ⟨i1 - i0 - (B1.length - i0) - 1, by omega⟩
      rw [hq, List.take_succ_cons]
      congr 2
      omega
    have hall : ∀ b ∈ B1 ++ B2, b.1 ≠ FRS := by
      intro b hb z
      have := LB_lim h b.1 (List.mem_map.mpr ⟨b, hb, rfl⟩)
      rw [z] at this
      exact absurd this (by decide)
    unfold nfr
    rw [ex, List.countP_append, List.countP_cons]
    have c1 : List.countP (fun b => decide (b.1 ≠ FRS)) (B1.drop i0) = B1.length - i0 := by
      rw [List.countP_eq_length.mpr (fun b hb => by simp [hall b (List.mem_append_left _ (List.mem_of_mem_drop hb))]), List.length_drop]
    have c2 : List.countP (fun b => decide (b.1 ≠ FRS)) (B2.take (i1 - B1.length - 1)) = i1 - B1.length - 1 := by
      rw [List.countP_eq_length.mpr (fun b hb => by simp [hall b (List.mem_append_right _ (List.mem_of_mem_take hb))]), List.length_take]
      omega
    rw [c1, c2]
    simp
    omega
  refine ⟨_, e, rfl, rfl, fun f hf => sA_k hf, ?_, ?_, fun d hd => ?_, fun i hi d hd => ?_⟩
  · unfold gup
    dsimp only
    rw [if_neg (by omega)]
    funext s
    by_cases q : s = r
    · subst q; rw [sA_at, pk_us]
    · rw [sA_i q, pk_un q]; rfl
  · show a.2.2.2.2 + nI (nfr _) = _
    rw [hnf]
  · show dlab X j (i1 - i0) a.2.2.2.1 _ 0 d = _
    refine dlab_no (f := a.2.2.2.1) (fun z => hd ?_)
    obtain ⟨b, hb, hz⟩ := idl_mem z
    rw [hC.2.2.2.1]
    exact mem_idl (hMm b hb) hz
  · show dlab X j (i1 - i0) a.2.2.2.1 _ 0 d = lN _
    have hnd : (idl (B1 ++ (FRS, F) :: B2)).Nodup := by rw [← hC.2.2.2.1]; exact hC.2.2.2.2.1
    have hout : (i < i0 ∨ i1 ≤ i) → d ∉ idl (((B1 ++ (FRS, F) :: B2).drop i0).take (i1 - i0)) := by
      intro hq z
      obtain ⟨b, hb, hz⟩ := idl_mem z
      obtain ⟨t, ht, e2⟩ := List.mem_iff_getElem.mp hb
      rw [hMl] at ht
      have e3 := hMg t ht
      rw [gD (by rw [hMl]; exact ht), e2] at e3
      rw [e3] at hz
      have := nodup_blk hnd hi (by omega) hd hz
      omega
    have hlabd : a.2.2.2.1 d = lN ((B1 ++ (FRS, F) :: B2).getD i (0, [])).1 := hC.2.2.2.2.2.2.2 _ (getD_mem2 hi) d hd
    have hsl : ((List.range (i1 - i0)).map (dl X j (i1 - i0))).length = i1 - i0 := by rw [List.length_map, List.length_range]
    by_cases q : i < i0
    · rw [dlab_no (f := a.2.2.2.1) (hout (Or.inl q)), seg_lt (by omega) (by omega) q, hlabd, LB_lt (by omega)]
    · by_cases q2 : i < i1
      · rw [seg_in hsl (by omega) (by omega) (by omega) (by omega), map_gD (by omega), dlab_at (i := i - i0) hat.2.1 (by omega) (by rw [hMg _ (by omega), show i0 + (i - i0) = i from by omega]; exact hd), Nat.zero_add]
      · rw [dlab_no (f := a.2.2.2.1) (hout (Or.inr (by omega))), seg_gt hsl (by omega) (by omega) (by omega), hlabd, LB_gt (by omega) hi]
theorem r_ok {c w j : Nat} (hc : c ≤ 601) (hw : w ≤ 40) (hj : j ≤ w) : (0 < lg_cmp (((nI c).toInt64 * 2) * (nI w).toInt64) (((1 : Int64) <<< ((nI j).toInt64 &&& 63)) * ((2 * nI w - nI j).toInt64))) ↔ ¬ c * 2 * w ≤ 2 ^ j * (2 * w - j) := by
  have e : (2 * nI w - nI j).toInt64 = 2 * (nI w).toInt64 - (nI j).toInt64 := by
    rw [two_nI, pk_sub (by omega), nI_l (by omega), nI_l (by omega), nI_l (by omega), show (2 : Int64) = lN 2 from rfl, lN_mul, lN_sub (by omega)]
  rw [e]
  exact p_ok hc hw hj
theorem l_spread (h : LB a S r B1 F B2 w) (h0 : 0 < B1.length + B2.length) : ∀ m n j i0 k0, 1 ≤ j → j + m = w + 1 → m < n → i0 ≤ B1.length → sf (labs B1) (sx (labs (B1 ++ B2)) B1.length j) ≤ i0 → k0 ≤ B2.length → k0 ≤ sf (labs B2) (sx (labs (B1 ++ B2)) B1.length j + 2 ^ j) →
    (spF w (labs (B1 ++ B2)) B1.length m j = none → f_X2_spreadRuns_49 n (nI r) (nI w) (lN ((labs (B1 ++ B2)).getD (B1.length - 1) 0)) (nI (ofS S r + psum (lens (B1 ++ (FRS, F) :: B2)) i0)) (nI (ofS S r + psum (lens (B1 ++ (FRS, F) :: B2)) (B1.length + 1 + k0))) (nI (1 + (B1.length - i0) + k0)) (nI j) a = some (0, a)) ∧
    ∀ R, spF w (labs (B1 ++ B2)) B1.length m j = some R → ∃ a', f_X2_spreadRuns_49 n (nI r) (nI w) (lN ((labs (B1 ++ B2)).getD (B1.length - 1) 0)) (nI (ofS S r + psum (lens (B1 ++ (FRS, F) :: B2)) i0)) (nI (ofS S r + psum (lens (B1 ++ (FRS, F) :: B2)) (B1.length + 1 + k0))) (nI (1 + (B1.length - i0) + k0)) (nI j) a = some (1, a') ∧ LRes r S (B1 ++ (FRS, F) :: B2) a a' R := by
  have hC := h.1
  have hlen := LB_len (B1 := B1) (F := F) (B2 := B2)
  have hll := LB_labs (B1 := B1) (B2 := B2)
  have hlim := LB_lim h
  have hs := h.2.1
  have hw4 := h.2.2.2.2.1
  have hw40 := h.2.2.2.2.2
  have hb := hlim _ (getD_mem (l := labs (B1 ++ B2)) (i := B1.length - 1) (by omega))
  have hlapp : labs (B1 ++ B2) = labs B1 ++ labs B2 := List.map_append
  have hs1 : (labs B1).Pairwise (· < ·) := by rw [hlapp] at hs; exact (List.pairwise_append.mp hs).1
  have hs2 : (labs B2).Pairwise (· < ·) := by rw [hlapp] at hs; exact (List.pairwise_append.mp hs).2.1
  have hg1 : ∀ i, i < B1.length → (labs B1).getD i 0 = (labs (B1 ++ B2)).getD i 0 := by
    intro i hi
    rw [hlapp, List.getD_eq_getElem?_getD, List.getD_eq_getElem?_getD, List.getElem?_append_left (by rw [labs_len]; exact hi)]
  have hg2 : ∀ i, i < B2.length → (labs B2).getD i 0 = (labs (B1 ++ B2)).getD (B1.length + i) 0 := by
    intro i hi
    rw [hlapp, List.getD_eq_getElem?_getD, List.getD_eq_getElem?_getD, List.getElem?_append_right (by rw [labs_len]; omega), labs_len, Nat.add_sub_cancel_left]
  have hB600 : (B1 ++ (FRS, F) :: B2).length ≤ 600 := by
    have h9 := bl_len2 (B := B1 ++ (FRS, F) :: B2) (fun b hb => (hC.2.2.2.2.2.2.1 b hb).1)
    have := CB_bd hC (i := 0) (Nat.zero_le _)
    rw [hC.2.2.2.1] at this
    omega
  intro m
  induction m with
  | zero =>
    intro n j i0 k0 h1 h2 h3 _ _ _ _
    obtain ⟨n, rfl⟩ : ∃ k, n = k + 1 := ⟨n - 1, by omega⟩
    refine ⟨fun _ => ?_, fun R q => (by cases q)⟩
    rw [f_X2_spreadRuns_49, if_pos (nI_lt (by omega) (by omega))]
  | succ m ih =>
    intro n j i0 k0 h1 h2 h3 hi0 hi0s hk0 hk0s
    obtain ⟨n, rfl⟩ : ∃ k, n = k + 1 := ⟨n - 1, by omega⟩
    have hd : (labs (B1 ++ B2)).getD (B1.length - 1) 0 / 2 ^ j * 2 ^ j ≤ (labs (B1 ++ B2)).getD (B1.length - 1) 0 := Nat.div_mul_le_self _ _
    have hpj := pw_le (j := j) (by omega)
    have hsx := sx_in (labs (B1 ++ B2)) B1.length j
    have hxs := sx_sf (labs (B1 ++ B2)) B1.length j
    have hstep := sx_step ((labs (B1 ++ B2)).getD (B1.length - 1) 0) j
    have hsxe : sx (labs (B1 ++ B2)) B1.length j = (labs (B1 ++ B2)).getD (B1.length - 1) 0 / 2 ^ j * 2 ^ j := rfl
    have hsxe1 : sx (labs (B1 ++ B2)) B1.length (j + 1) = (labs (B1 ++ B2)).getD (B1.length - 1) 0 / 2 ^ (j + 1) * 2 ^ (j + 1) := rfl
    generalize hX : sx (labs (B1 ++ B2)) B1.length j = X at *
    have hX42 : X < 2 ^ 42 := by omega
    -- how far it goes
    have hsf1 := sf_le (labs B1) X
    have hsf2 := sf_le (labs B2) (X + 2 ^ j)
    rw [labs_len] at hsf1 hsf2
    have hsL1 : sf (labs (B1 ++ B2)) X = sf (labs B1) X := by
      have hz : sf (labs B2) X = 0 := by
        rcases Nat.eq_zero_or_pos (sf (labs B2) X) with q | q
        · exact q
        · exfalso
          have hB2 : 0 < B2.length := by have := sf_le (labs B2) X; rw [labs_len] at this; omega
          have := (cnt_lt hs2 X 0 (by rw [labs_len]; exact hB2)).mpr q
          rw [hg2 0 hB2, Nat.add_zero] at this
          rcases Nat.eq_zero_or_pos B1.length with z | z
          · rw [z] at this hsx
            simp only [Nat.zero_sub] at hsx
            omega
          · have := lt_pair hs (i := B1.length - 1) (k := B1.length) (by omega) (by omega)
            omega
      rw [hlapp, sf_app, hz, Nat.add_zero]
    have hsL2 : sf (labs (B1 ++ B2)) (X + 2 ^ j) = B1.length + sf (labs B2) (X + 2 ^ j) := by
      have hz : sf (labs B1) (X + 2 ^ j) = B1.length := by
        have h9 := sf_le (labs B1) (X + 2 ^ j)
        rw [labs_len] at h9
        rcases Nat.lt_or_ge (sf (labs B1) (X + 2 ^ j)) B1.length with q | q
        · exfalso
          have h10 := cnt_lt hs1 (X + 2 ^ j) (B1.length - 1) (by rw [labs_len]; omega)
          rw [hg1 _ (by omega)] at h10
          omega
        · omega
      rw [hlapp, sf_app, hz]
    have hc : sc (labs (B1 ++ B2)) X j = 1 + (B1.length - sf (labs B1) X) + sf (labs B2) (X + 2 ^ j) := by omega
    have hcl := sc_le (L := labs (B1 ++ B2)) (X := X) (j := j)
    -- left
    have hmoL := psum_mono (N := lens (B1 ++ (FRS, F) :: B2)) (i := sf (labs B1) X) (k := i0) hi0s (by rw [lens_len]; omega)
    have hp600 : ∀ i, i ≤ (B1 ++ (FRS, F) :: B2).length → psum (lens (B1 ++ (FRS, F) :: B2)) i ≤ 600 := by
      intro i hi
      have := CB_bd hC (i := i) hi
      omega
    have hp1 := hp600 i0 (by omega)
    have hp2 := hp600 (B1.length + 1 + sf (labs B2) (X + 2 ^ j)) (by omega)
    obtain ⟨mL, hmL⟩ : ∃ mL, NF = (mL + 1) + (psum (lens (B1 ++ (FRS, F) :: B2)) i0 - psum (lens (B1 ++ (FRS, F) :: B2)) (sf (labs B1) X)) := ⟨19999 - (psum (lens (B1 ++ (FRS, F) :: B2)) i0 - psum (lens (B1 ++ (FRS, F) :: B2)) (sf (labs B1) X)), by rw [NF_eq]; omega⟩
    obtain ⟨m', eL, rfl⟩ := r_left (X := X) h (nI w) (lN ((labs (B1 ++ B2)).getD (B1.length - 1) 0)) (nI (ofS S r + psum (lens (B1 ++ (FRS, F) :: B2)) (B1.length + 1 + k0))) (nI j) (lN (X + 2 ^ j)) (f_X2_spreadRuns_49 n) (mL + 1) (i0 - sf (labs B1) X) (sf (labs B1) X) (1 + (B1.length - i0) + k0) (by omega) (fun z z1 z2 => by
      have := cnt_lt hs1 X z (by rw [labs_len]; omega)
      rw [hg1 _ (by omega)] at this
      omega)
    rw [show sf (labs B1) X + (i0 - sf (labs B1) X) = i0 from by omega, ← hmL] at eL
    have hfi := o_first hC.1 hC.2.2.1
    have hen := o_end hC.1 hC.2.2.1
    have xL : f_X2_spreadRuns_75 (f_X2_spreadRuns_49 n) (mL + 1) (nI r) (nI w) (lN ((labs (B1 ++ B2)).getD (B1.length - 1) 0)) (nI (ofS S r + psum (lens (B1 ++ (FRS, F) :: B2)) (sf (labs B1) X))) (nI (ofS S r + psum (lens (B1 ++ (FRS, F) :: B2)) (B1.length + 1 + k0))) (nI (1 + (B1.length - i0) + k0 + (i0 - sf (labs B1) X))) (nI j) (lN X) (lN (X + 2 ^ j)) a = f_X2_spreadRuns_136 (f_X2_spreadRuns_49 n) NF (nI r) (nI w) (lN ((labs (B1 ++ B2)).getD (B1.length - 1) 0)) (nI (ofS S r + psum (lens (B1 ++ (FRS, F) :: B2)) (sf (labs B1) X))) (nI (ofS S r + psum (lens (B1 ++ (FRS, F) :: B2)) (B1.length + 1 + k0))) (nI (1 + (B1.length - i0) + k0 + (i0 - sf (labs B1) X))) (nI j) (lN X) (lN (X + 2 ^ j)) a := by
      have hbd := CB_bd hC (i := sf (labs B1) X) (by omega)
      rw [f_X2_spreadRuns_75, hfi, Option.bind_some]
      rcases Nat.eq_zero_or_pos (sf (labs B1) X) with q | q
      · have e0 : psum (lens (B1 ++ (FRS, F) :: B2)) (sf (labs B1) X) = 0 := by rw [q]; rfl
        rw [e0, Nat.add_zero, if_pos (nI_le (Nat.le_refl _) (by omega))]
      · have hps := psum_s2 (BB := B1 ++ (FRS, F) :: B2) (i := sf (labs B1) X - 1) (by omega)
        rw [Nat.sub_add_cancel (by omega)] at hps
        have hl0 := CB_len hC (i := sf (labs B1) X - 1) (by omega)
        have hla := CB_labelAt hC (i := sf (labs B1) X - 1) (t := ((B1 ++ (FRS, F) :: B2).getD (sf (labs B1) X - 1) (0, [])).2.length - 1) (by omega) (by omega)
        rw [LB_lt (by omega)] at hla
        have h9 := cnt_lt hs1 X (sf (labs B1) X - 1) (by rw [labs_len]; omega)
        rw [hg1 _ (by omega)] at h9
        have e1 : nI (ofS S r + psum (lens (B1 ++ (FRS, F) :: B2)) (sf (labs B1) X)) - 1 = nI (ofS S r + psum (lens (B1 ++ (FRS, F) :: B2)) (sf (labs B1) X - 1) + (((B1 ++ (FRS, F) :: B2).getD (sf (labs B1) X - 1) (0, [])).2.length - 1)) := by
          have := pk_sub (a := ofS S r + psum (lens (B1 ++ (FRS, F) :: B2)) (sf (labs B1) X)) (b := 1) (by omega)
          refine Eq.trans this ?_
          congr 1
          omega
        rw [if_neg (nI_ge (by omega) (by omega)), e1, hla, Option.bind_some, if_pos]
        rw [lg_cmp_lt, pk_lLT (by omega) (by omega)]
        omega
    -- right
    have hmoR := psum_mono (N := lens (B1 ++ (FRS, F) :: B2)) (i := B1.length + 1 + k0) (k := B1.length + 1 + sf (labs B2) (X + 2 ^ j)) (by omega) (by rw [lens_len]; omega)
    obtain ⟨mR, hmR⟩ : ∃ mR, NF = (mR + 1) + (psum (lens (B1 ++ (FRS, F) :: B2)) (B1.length + 1 + sf (labs B2) (X + 2 ^ j)) - psum (lens (B1 ++ (FRS, F) :: B2)) (B1.length + 1 + k0)) := ⟨19999 - (psum (lens (B1 ++ (FRS, F) :: B2)) (B1.length + 1 + sf (labs B2) (X + 2 ^ j)) - psum (lens (B1 ++ (FRS, F) :: B2)) (B1.length + 1 + k0)), by rw [NF_eq]; omega⟩
    have eR := r_right (Y := X + 2 ^ j) h (by omega) (nI w) (lN ((labs (B1 ++ B2)).getD (B1.length - 1) 0)) (nI (ofS S r + psum (lens (B1 ++ (FRS, F) :: B2)) (sf (labs B1) X))) (nI j) (lN X) (f_X2_spreadRuns_49 n) (mR + 1) (sf (labs B2) (X + 2 ^ j) - k0) (B1.length + 1 + k0) (1 + (B1.length - i0) + k0 + (i0 - sf (labs B1) X)) (by omega) (by omega) (fun z z1 z2 => by
      have := cnt_lt hs2 (X + 2 ^ j) (z - 1 - B1.length) (by rw [labs_len]; omega)
      rw [hg2 _ (by omega), show B1.length + (z - 1 - B1.length) = z - 1 from by omega] at this
      omega)
    rw [show B1.length + 1 + k0 + (sf (labs B2) (X + 2 ^ j) - k0) = B1.length + 1 + sf (labs B2) (X + 2 ^ j) from by omega, ← hmR, show 1 + (B1.length - i0) + k0 + (i0 - sf (labs B1) X) + (sf (labs B2) (X + 2 ^ j) - k0) = sc (labs (B1 ++ B2)) X j from by omega] at eR
    have xR : f_X2_spreadRuns_136 (f_X2_spreadRuns_49 n) (mR + 1) (nI r) (nI w) (lN ((labs (B1 ++ B2)).getD (B1.length - 1) 0)) (nI (ofS S r + psum (lens (B1 ++ (FRS, F) :: B2)) (sf (labs B1) X))) (nI (ofS S r + psum (lens (B1 ++ (FRS, F) :: B2)) (B1.length + 1 + sf (labs B2) (X + 2 ^ j)))) (nI (sc (labs (B1 ++ B2)) X j)) (nI j) (lN X) (lN (X + 2 ^ j)) a = f_X2_spreadRuns_195 (f_X2_spreadRuns_49 n) (nI r) (nI w) (lN ((labs (B1 ++ B2)).getD (B1.length - 1) 0)) (nI (ofS S r + psum (lens (B1 ++ (FRS, F) :: B2)) (sf (labs B1) X))) (nI (ofS S r + psum (lens (B1 ++ (FRS, F) :: B2)) (B1.length + 1 + sf (labs B2) (X + 2 ^ j)))) (nI (sc (labs (B1 ++ B2)) X j)) (nI j) (lN X) a := by
      have hbd := CB_bd hC (i := B1.length + 1 + sf (labs B2) (X + 2 ^ j)) (by omega)
      rw [f_X2_spreadRuns_136, hen, Option.bind_some]
      rcases Nat.lt_or_ge (sf (labs B2) (X + 2 ^ j)) B2.length with q | q
      · have hps := psum_s2 (BB := B1 ++ (FRS, F) :: B2) (i := B1.length + 1 + sf (labs B2) (X + 2 ^ j)) (by omega)
        have hpl := psum_le (BB := B1 ++ (FRS, F) :: B2) (i := B1.length + 1 + sf (labs B2) (X + 2 ^ j) + 1) (by omega)
        have hl0 := CB_len hC (i := B1.length + 1 + sf (labs B2) (X + 2 ^ j)) (by omega)
        have hla := CB_labelAt hC (i := B1.length + 1 + sf (labs B2) (X + 2 ^ j)) (t := 0) (by omega) hl0
        rw [LB_gt (by omega) (by omega), Nat.add_zero] at hla
        have h9 := cnt_lt hs2 (X + 2 ^ j) (sf (labs B2) (X + 2 ^ j)) (by rw [labs_len]; omega)
        rw [hg2 _ (by omega)] at h9
        have hSl : (S r).length = (idl (B1 ++ (FRS, F) :: B2)).length := by rw [hC.2.2.2.1]
        have hm := hlim _ (getD_mem (l := labs (B1 ++ B2)) (i := B1.length + sf (labs B2) (X + 2 ^ j)) (by omega))
        rw [show B1.length + 1 + sf (labs B2) (X + 2 ^ j) - 1 = B1.length + sf (labs B2) (X + 2 ^ j) from by omega] at hla
        rw [if_neg (nI_ge (by omega) (by omega)), hla, Option.bind_some, if_pos]
        rw [lg_cmp_ge, pk_lLE (by omega) (by omega)]
        omega
      · have e0 : psum (lens (B1 ++ (FRS, F) :: B2)) (B1.length + 1 + sf (labs B2) (X + 2 ^ j)) = (S r).length := by
          rw [hC.2.2.2.1, ← psum_all, hlen]
          congr 1
          omega
        rw [e0, if_pos (nI_le (Nat.le_refl _) (by omega))]
    have start : f_X2_spreadRuns_49 (n + 1) (nI r) (nI w) (lN ((labs (B1 ++ B2)).getD (B1.length - 1) 0)) (nI (ofS S r + psum (lens (B1 ++ (FRS, F) :: B2)) i0)) (nI (ofS S r + psum (lens (B1 ++ (FRS, F) :: B2)) (B1.length + 1 + k0))) (nI (1 + (B1.length - i0) + k0)) (nI j) a = f_X2_spreadRuns_195 (f_X2_spreadRuns_49 n) (nI r) (nI w) (lN ((labs (B1 ++ B2)).getD (B1.length - 1) 0)) (nI (ofS S r + psum (lens (B1 ++ (FRS, F) :: B2)) (sf (labs B1) X))) (nI (ofS S r + psum (lens (B1 ++ (FRS, F) :: B2)) (B1.length + 1 + sf (labs B2) (X + 2 ^ j)))) (nI (sc (labs (B1 ++ B2)) X j)) (nI j) (lN X) a := by
      rw [f_X2_spreadRuns_49, if_neg (nI_nlt (by omega) (by omega)), l_flr (by omega) (by omega), l_shl1 (by omega), lN_add, ← hsxe, eL, xL, eR, xR]
    rw [start]
    unfold spF f_X2_spreadRuns_195
    rw [hX]
    have ho := r_ok (c := sc (labs (B1 ++ B2)) X j) (w := w) (j := j) (by omega) hw40 (by omega)
    by_cases hcd : sc (labs (B1 ++ B2)) X j * 2 * w ≤ 2 ^ j * (2 * w - j)
    · rw [if_pos hcd, if_neg (fun q => ho.mp q hcd)]
      refine ⟨fun q => (by cases q), fun R q => ?_⟩
      cases q
      obtain ⟨a', e, he⟩ := l_deal h (i0 := sf (labs B1) X) (i1 := B1.length + 1 + sf (labs B2) (X + 2 ^ j)) (X := X) (j := j) (by omega) (by omega) (by omega) hX42 (by omega)
      have hcc : B1.length + 1 + sf (labs B2) (X + 2 ^ j) - sf (labs B1) X = sc (labs (B1 ++ B2)) X j := by omega
      rw [hcc] at e he
      refine ⟨a', by rw [e, Option.bind_some], ?_⟩
      unfold sdl
      rw [hX, hsL1]
      exact he
    · rw [if_neg hcd, if_pos (ho.mpr hcd), nI_1]
      have hmono1 := sf_mono (labs B1) (x := sx (labs (B1 ++ B2)) B1.length (j + 1)) (y := X) (by omega)
      have hmono2 := sf_mono (labs B2) (x := X + 2 ^ j) (y := sx (labs (B1 ++ B2)) B1.length (j + 1) + 2 ^ (j + 1)) (by omega)
      have := ih n (j + 1) (sf (labs B1) X) (sf (labs B2) (X + 2 ^ j)) (by omega) (by omega) (by omega) (by omega) hmono1 (by omega) hmono2
      rw [← hc] at this
      exact this
end LRN
