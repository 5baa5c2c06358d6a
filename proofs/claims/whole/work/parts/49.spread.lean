/-! ===== the model: tight, spread ===== -/
def gup (g : Nat → Int32) (r c : Nat) : Nat → Int32 := if c = 0 then g else upd g r (mxI (g r) (nI c))
/-- the labels R.1 in the hand, R.2 of them dealt -/
def PO (r : Nat) (v v' : MS) (R : List Nat × Nat) : Prop := Fm [15, 22] [5] [21] v v' ∧ HD v' R.1 ∧ v'.1 15 = v.1 15 + nI (R.2 - 1) ∧ v'.2.1 5 = gup (v.2.1 5) r R.2
section SEG
variable {L M : List Nat} {F c i : Nat}
theorem seg_len (hM : M.length = c) (h : F + c ≤ L.length + 1) (hc : 0 < c) : (L.take F ++ (M ++ L.drop (F + c - 1))).length = L.length + 1 := by
  rw [List.length_append, List.length_append, List.length_take, List.length_drop, hM]
  omega
theorem seg_lt (h : F + c ≤ L.length + 1) (hc : 0 < c) (hi : i < F) : (L.take F ++ (M ++ L.drop (F + c - 1))).getD i 0 = L.getD i 0 := by
  rw [List.getD_eq_getElem?_getD, List.getD_eq_getElem?_getD, List.getElem?_append_left (by rw [List.length_take]; omega), List.getElem?_take_of_lt hi]
theorem seg_in (hM : M.length = c) (h : F + c ≤ L.length + 1) (hc : 0 < c) (h1 : F ≤ i) (h2 : i < F + c) : (L.take F ++ (M ++ L.drop (F + c - 1))).getD i 0 = M.getD (i - F) 0 := by
  rw [List.getD_eq_getElem?_getD, List.getD_eq_getElem?_getD, List.getElem?_append_right (by rw [List.length_take]; omega), List.length_take, Nat.min_eq_left (by omega), List.getElem?_append_left (by omega)]
theorem seg_gt (hM : M.length = c) (h : F + c ≤ L.length + 1) (hc : 0 < c) (h1 : F + c ≤ i) : (L.take F ++ (M ++ L.drop (F + c - 1))).getD i 0 = L.getD (i - 1) 0 := by
  rw [List.getD_eq_getElem?_getD, List.getD_eq_getElem?_getD, List.getElem?_append_right (by rw [List.length_take]; omega), List.length_take, Nat.min_eq_left (by omega), List.getElem?_append_right (by omega), List.getElem?_drop, hM]
  congr 2
  omega
end SEG
theorem map_gD {f : Nat → Nat} {c i : Nat} (h : i < c) : ((List.range c).map f).getD i 0 = f i := by
  rw [gD (by rw [List.length_map, List.length_range]; exact h), List.getElem_map, List.getElem_range]
theorem p_od {v : MS} {L : List Nat} {r p F c X j : Nat} (hv : HD v L) (hr : r < 8) (h6 : L.length ≤ 600) (hp : p ≤ L.length) (h1 : F ≤ p) (h2 : p < F + c) (h3 : F + c ≤ L.length + 1) (hX : X < 2 ^ 42) (hj : j ≤ 40) :
    ∃ v' z, f_X4_open (nI p) v = some z ∧ z.1 22 = nI (L.length + 1) ∧ f_X4_dealt (nI r) (nI F) (nI c) (lN X) (nI j) (nI (c - 1)) z = some v' ∧ PO r v v' (L.take F ++ ((List.range c).map (dl X j c) ++ L.drop (F + c - 1)), c) := by
  have hc : 0 < c := by omega
  have hl : ((List.range c).map (dl X j c)).length = c := by rw [List.length_map, List.length_range]
  refine ⟨_, _, p_open hv.1 hp h6, mF_at, p_dealt hr (by omega) hX hj, (((((Fm.rf.wB (by decide)).pF (by decide)).wB (by decide)).pF (by decide)).pA (by decide)), HD_of ?_ fun i hi => ?_, ?_, ?_⟩
  · rw [mA_1, mF_ne (by decide), wB_1, mF_at, seg_len hl h3 hc]
  · have hi' : i < L.length + 1 := by rw [seg_len hl h3 hc] at hi; exact hi
    rw [mA_22, mF_2, wB_at, mF_2, wB_at]
    by_cases q : i < F
    · have e2 := shO_lt (f := v.2.2 21) (o := 0) (p := p) (n := L.length) (i := i) (by omega)
      rw [Nat.zero_add] at e2
      rw [seg_lt h3 hc q, pt_out (by omega), e2, hv.2 i (by omega)]
    · by_cases q2 : i < F + c
      · rw [seg_in hl h3 hc (by omega) q2, pt_in (by omega) q2, map_gD (by omega)]
      · have e2 := shO_gt (f := v.2.2 21) (o := 0) (p := p) (n := L.length) (i := i) (by omega) (by omega)
        rw [Nat.zero_add, Nat.zero_add] at e2
        rw [seg_gt hl h3 hc (by omega), pt_out (by omega), e2, hv.2 (i - 1) (by omega)]
  · rw [mA_1, mF_at, mF_ne (by decide), wB_1]
  · unfold gup
    rw [if_neg (by omega)]
    funext k
    by_cases q : k = r
    · subst q; rw [mA_at, pk_us]; rfl
    · rw [mA_i q, pk_un q]; rfl
section TS
variable {v : MS} {L : List Nat} {r p w : Nat}
theorem len_pw (hw : w ≤ 40) (hM : ∀ d ∈ L, d < 2 ^ w) : ∀ d ∈ L, d < 2 ^ 42 := by
  intro d hd
  have := hM d hd
  have := pw_le hw
  omega
theorem p_tight (hv : HD v L) (hr : r < 8) (hw : v.2.1 3 r = nI w) (hw4 : w ≤ 40) (hp : p ≤ L.length) (h6 : L.length ≤ 600) (hs : L.Pairwise (· < ·)) (hM : ∀ d ∈ L, d < 2 ^ w) :
    (plc true w L p = none → f_X4_tight (nI r) (nI p) v = some (0, v)) ∧ ∀ R, plc true w L p = some R → ∃ v', f_X4_tight (nI r) (nI p) v = some (1, v') ∧ PO r v v' R := by
  have hpw := pw_le hw4
  have hM' := len_pw hw4 hM
  unfold f_X4_tight plc
  rw [if_pos (ix_nI hr (by omega)), nI_clamp (by omega), hw, l_shl1 (by omega)]
  by_cases h : lo L p < hi L (2 ^ w) p
  · rw [if_pos h]
    obtain ⟨v', e1, e2, e3⟩ := p_between_yes hv hp h6 hM' (by omega) h
    refine ⟨fun q => (by cases q), fun R q => ?_⟩
    cases q
    refine ⟨v', ?_, e2.up (by decide) (by decide) (by decide), e3, ?_, ?_⟩
    · rw [e1, Option.bind_some, if_neg (show ¬ (1 : Int32) = 0 by decide)]
    · rw [e2.1 15 (by decide)]; exact (Int32.add_zero _).symm
    · rw [e2.2.1 5 (by decide)]; rfl
  · rw [if_neg h, p_between_no hv hp h6 hM' (by omega) h, Option.bind_some, if_pos rfl, hv.1, if_pos rfl]
    have ec : (lg_cmp (nI L.length).toInt64 (lN (2 ^ w)) = 0) ↔ L.length = 2 ^ w := by
      rw [lg_cmp_eq, nI_l (by omega), pk_lEQ (by omega) (by omega)]
    by_cases h2 : L.length = 2 ^ w
    · rw [if_pos h2, if_pos (ec.mpr h2)]
      exact ⟨fun _ => rfl, fun R q => by cases q⟩
    · rw [if_neg h2, if_neg (fun q => h2 (ec.mp q))]
      refine ⟨fun q => (by cases q), fun R q => ?_⟩
      cases q
      obtain ⟨v', z, e1, e2, e3, e4⟩ := p_od (F := 0) (c := L.length + 1) (X := 0) (j := w) hv hr h6 hp (Nat.zero_le _) (by omega) (by omega) (by omega) hw4
      rw [List.take_zero, List.nil_append, Nat.zero_add, Nat.add_sub_cancel, List.drop_length, List.append_nil] at e4
      rw [Nat.add_sub_cancel] at e3
      refine ⟨v', ?_, e4⟩
      have e5 : nI (L.length + 1) - 1 = nI L.length := nI_pred _
      rw [e1, Option.bind_some, e2, e5]
      have e6 : f_X4_dealt (nI r) 0 (nI (L.length + 1)) 0 (nI w) (nI L.length) z = some v' := e3
      rw [e6, Option.bind_some]
theorem take_s {i : Nat} (h : i < L.length) : L.take (i + 1) = L.take i ++ [L.getD i 0] := by
  rw [gD h, List.take_succ, List.getElem?_eq_getElem h]
  rfl
theorem sf_s {i X : Nat} (h : i < L.length) : sf (L.take (i + 1)) X = sf (L.take i) X + (if L.getD i 0 < X then 1 else 0) := by
  unfold sf
  rw [take_s h, List.countP_append, List.countP_cons, List.countP_nil, Nat.zero_add]
  simp only [decide_eq_true_eq]
theorem sc_s {i X j : Nat} (h : i < L.length) : sc (L.take (i + 1)) X j = sc (L.take i) X j + (if L.getD i 0 / 2 ^ j * 2 ^ j = X then 1 else 0) := by
  unfold sc
  rw [take_s h, List.countP_append, List.countP_cons, List.countP_nil, Nat.zero_add]
  simp only [decide_eq_true_eq]
  omega
theorem sc_le {X j : Nat} : sc L X j ≤ L.length + 1 := by
  unfold sc
  have := List.countP_le_length (p := fun h => decide (h / 2 ^ j * 2 ^ j = X)) (l := L)
  omega
theorem p_spread_66 (hv : HD v L) (h6 : L.length ≤ 600) (hM : ∀ d ∈ L, d < 2 ^ 42) {w j X : Nat} (hj : j ≤ 40) (hX : X < 2 ^ 42) (b : Int64) (k : Int32 → Int32 → Int32 → Int64 → Int32 → MS → Option (Int32 × MS)) : ∃ n,
    f_X4_spread_66 k NF (nI r) (nI p) (nI w) b (nI j) (lN X) 0 1 0 v = f_X4_spread_66 k (n + 1) (nI r) (nI p) (nI w) b (nI j) (lN X) (nI (sf L X)) (nI (sc L X j)) (nI L.length) v := by
  obtain ⟨n, hn⟩ : ∃ n, NF = n + 1 + L.length := ⟨19999 - L.length, by rw [NF_eq]; omega⟩
  refine ⟨n, ?_⟩
  rw [hn]
  have key : ∀ i, i ≤ L.length → f_X4_spread_66 k (n + 1 + L.length) (nI r) (nI p) (nI w) b (nI j) (lN X) 0 1 0 v = f_X4_spread_66 k (n + 1 + (L.length - i)) (nI r) (nI p) (nI w) b (nI j) (lN X) (nI (sf (L.take i) X)) (nI (sc (L.take i) X j)) (nI i) v := by
    intro i
    induction i with
    | zero => intro _; rfl
    | succ i ih =>
      intro hi
      rw [ih (by omega), show n + 1 + (L.length - i) = (n + 1 + (L.length - (i + 1))) + 1 from by omega, f_X4_spread_66, hv.1, if_neg (by rw [nI_leI (by omega) (by omega)]; omega), if_pos (ix_nI (by omega) (by omega)), nI_clamp (by omega), hv.2 i (by omega)]
      have hm := hM _ (getD_mem (l := L) (i := i) (by omega))
      have hd : L.getD i 0 / 2 ^ j * 2 ^ j ≤ L.getD i 0 := Nat.div_mul_le_self _ _
      rw [l_flr (by omega) (by omega)]
      have c1 : (lg_cmp (lN (L.getD i 0 / 2 ^ j * 2 ^ j)) (lN X) = 0) ↔ L.getD i 0 / 2 ^ j * 2 ^ j = X := by rw [lg_cmp_eq, pk_lEQ (by omega) (by omega)]
      have c2 : (0 ≤ lg_cmp (lN (L.getD i 0)) (lN X)) ↔ X ≤ L.getD i 0 := by rw [lg_cmp_ge, pk_lLE (by omega) (by omega)]
      rw [sf_s (by omega), sc_s (by omega)]
      have ex : ∀ (t0 : Int32) (kk : Int32 → Int32 → Int32 → Int64 → Int32 → Int64 → Int32 → Int32 → Int32 → MS → Option (Int32 × MS)) (a9 a10 : Int32), f_X4_spread_99 k kk (nI r) (nI p) (nI w) b (nI j) (lN X) a9 a10 (nI i) t0 v = (if X ≤ L.getD i 0 then (if t0 = 0 then kk (nI r) (nI p) (nI w) b (nI j) (lN X) (a9 + 0) (a10 + 0) (nI i + 1) v else kk (nI r) (nI p) (nI w) b (nI j) (lN X) (a9 + 0) (a10 + 1) (nI i + 1) v) else (if t0 = 0 then kk (nI r) (nI p) (nI w) b (nI j) (lN X) (a9 + 1) (a10 + 0) (nI i + 1) v else kk (nI r) (nI p) (nI w) b (nI j) (lN X) (a9 + 1) (a10 + 1) (nI i + 1) v)) := by
        intro t0 kk a9 a10
        unfold f_X4_spread_99
        rw [if_pos (ix_nI (show i < 601 by omega) (by omega)), nI_clamp (show i < 2 ^ 31 by omega), hv.2 i (by omega)]
        by_cases q2 : X ≤ L.getD i 0
        · rw [if_pos (c2.mpr q2), if_pos q2]
        · rw [if_neg (fun q => q2 (c2.mp q)), if_neg q2]
      rw [ex, ex]
      by_cases q1 : L.getD i 0 / 2 ^ j * 2 ^ j = X
      · rw [if_pos (c1.mpr q1), if_pos q1]
        by_cases q2 : X ≤ L.getD i 0
        · rw [if_pos q2, if_neg (by decide), if_neg (by omega)]
          simp (disch := omega) only [ix_nI, nI_clamp, le_L, le_R, lt_L, lt_R, eq_L, eq_R, ad_L, sb_L, ml_L, nI_leI, nI_ltI, nI_eq, nI_add, pk_mul, nI_m1, if_true, if_false, if_pos, if_neg, Option.bind_some, Nat.add_zero]
        · rw [if_neg q2, if_neg (by decide), if_pos (by omega)]
          simp (disch := omega) only [ix_nI, nI_clamp, le_L, le_R, lt_L, lt_R, eq_L, eq_R, ad_L, sb_L, ml_L, nI_leI, nI_ltI, nI_eq, nI_add, pk_mul, nI_m1, if_true, if_false, if_pos, if_neg, Option.bind_some, Nat.add_zero]
      · rw [if_neg (fun q => q1 (c1.mp q)), if_neg q1]
        by_cases q2 : X ≤ L.getD i 0
        · rw [if_pos q2, if_pos rfl, if_neg (by omega)]
          simp (disch := omega) only [ix_nI, nI_clamp, le_L, le_R, lt_L, lt_R, eq_L, eq_R, ad_L, sb_L, ml_L, nI_leI, nI_ltI, nI_eq, nI_add, pk_mul, nI_m1, if_true, if_false, if_pos, if_neg, Option.bind_some, Nat.add_zero]
        · rw [if_neg q2, if_pos rfl, if_pos (by omega)]
          simp (disch := omega) only [ix_nI, nI_clamp, le_L, le_R, lt_L, lt_R, eq_L, eq_R, ad_L, sb_L, ml_L, nI_leI, nI_ltI, nI_eq, nI_add, pk_mul, nI_m1, if_true, if_false, if_pos, if_neg, Option.bind_some, Nat.add_zero]
  have := key L.length (Nat.le_refl _)
  rw [this, Nat.sub_self, Nat.add_zero, List.take_length]
theorem p_ok {c w j : Nat} (hc : c ≤ 601) (hw : w ≤ 40) (hj : j ≤ w) : (0 < lg_cmp (((nI c).toInt64 * 2) * (nI w).toInt64) (((1 : Int64) <<< ((nI j).toInt64 &&& 63)) * ((2 * (nI w).toInt64) - (nI j).toInt64))) ↔ ¬ c * 2 * w ≤ 2 ^ j * (2 * w - j) := by
  have h1 := pw_le (j := j) (by omega)
  have h2 : 2 ^ j * (2 * w - j) ≤ 2 ^ 40 * 80 := Nat.mul_le_mul h1 (by omega)
  have h3 : c * 2 * w ≤ 601 * 2 * 40 := Nat.mul_le_mul (by omega) hw
  rw [lg_cmp_gt, l_shl1 (by omega), nI_l (by omega), nI_l (by omega), nI_l (by omega), show (2 : Int64) = lN 2 from rfl, lN_mul, lN_mul, lN_mul, lN_sub (by omega), lN_mul, pk_lLT (by omega) (by omega)]
  omega
theorem p_spread_41 (hv : HD v L) (hr : r < 8) (h6 : L.length ≤ 600) (hw4 : w ≤ 40) (hp : p ≤ L.length) (h0 : 0 < L.length) (hs : L.Pairwise (· < ·)) (hM : ∀ d ∈ L, d < 2 ^ w) : ∀ m n j, 1 ≤ j → j + m = w + 1 → m < n →
    (spF w L p m j = none → f_X4_spread_41 n (nI r) (nI p) (nI w) (lN (L.getD (p - 1) 0)) (nI j) v = some (0, v)) ∧ ∀ R, spF w L p m j = some R → ∃ v', f_X4_spread_41 n (nI r) (nI p) (nI w) (lN (L.getD (p - 1) 0)) (nI j) v = some (1, v') ∧ PO r v v' R := by
  have hM' := len_pw hw4 hM
  have hb := hM' _ (getD_mem (l := L) (i := p - 1) (by omega))
  intro m
  induction m with
  | zero =>
    intro n j h1 h2 h3
    obtain ⟨n, rfl⟩ : ∃ k, n = k + 1 := ⟨n - 1, by omega⟩
    refine ⟨fun _ => ?_, fun R q => by cases q⟩
    rw [f_X4_spread_41, if_pos (nI_lt (by omega) (by omega))]
  | succ m ih =>
    intro n j h1 h2 h3
    obtain ⟨n, rfl⟩ : ∃ k, n = k + 1 := ⟨n - 1, by omega⟩
    have hd : L.getD (p - 1) 0 / 2 ^ j * 2 ^ j ≤ L.getD (p - 1) 0 := Nat.div_mul_le_self _ _
    have hsc := sc_le (L := L) (X := sx L p j) (j := j)
    rw [f_X4_spread_41, if_neg (nI_nlt (by omega) (by omega)), l_flr (by omega) (by omega)]
    obtain ⟨k, e⟩ := p_spread_66 (r := r) (p := p) (w := w) (j := j) (X := sx L p j) hv h6 hM' (by omega) (Nat.lt_of_le_of_lt hd hb) (lN (L.getD (p - 1) 0)) (f_X4_spread_41 n)
    have e' : f_X4_spread_66 (f_X4_spread_41 n) NF (nI r) (nI p) (nI w) (lN (L.getD (p - 1) 0)) (nI j) (lN (L.getD (p - 1) 0 / 2 ^ j * 2 ^ j)) 0 1 0 v = f_X4_spread_66 (f_X4_spread_41 n) (k + 1) (nI r) (nI p) (nI w) (lN (L.getD (p - 1) 0)) (nI j) (lN (sx L p j)) (nI (sf L (sx L p j))) (nI (sc L (sx L p j) j)) (nI L.length) v := e
    rw [e', f_X4_spread_66, hv.1, if_pos (nI_le (Nat.le_refl _) (by omega))]
    unfold spF
    have ho := p_ok (c := sc L (sx L p j) j) (w := w) (j := j) (by omega) hw4 (by omega)
    by_cases hc : sc L (sx L p j) j * 2 * w ≤ 2 ^ j * (2 * w - j)
    · rw [if_pos hc, if_neg (fun q => ho.mp q hc)]
      refine ⟨fun q => (by cases q), fun R q => ?_⟩
      cases q
      have hpl := sx_pl hs hp h0 j
      have hsf := sx_sf L p j
      have hsl := sf_le L (sx L p j + 2 ^ j)
      obtain ⟨v', z, e1, e2, e3, e4⟩ := p_od (r := r) (p := p) (F := sf L (sx L p j)) (c := sc L (sx L p j) j) (X := sx L p j) (j := j) hv hr h6 hp hpl.1 hpl.2 (by omega) (Nat.lt_of_le_of_lt hd hb) (by omega)
      refine ⟨v', ?_, e4⟩
      have e5 : nI (sc L (sx L p j) j) - 1 = nI (sc L (sx L p j) j - 1) := pk_sub (b := 1) (by unfold sc; omega)
      rw [e1, Option.bind_some, e5, e3, Option.bind_some]
    · rw [if_neg hc, if_pos (ho.mpr hc), nI_1]
      exact ih n (j + 1) (by omega) (by omega) (by omega)
theorem p_spread (hv : HD v L) (hr : r < 8) (hw : v.2.1 3 r = nI w) (hw0 : 0 < w) (hw4 : w ≤ 40) (hp : p ≤ L.length) (h6 : L.length ≤ 600) (hs : L.Pairwise (· < ·)) (hM : ∀ d ∈ L, d < 2 ^ w) :
    (plc false w L p = none → f_X4_spread (nI r) (nI p) v = some (0, v)) ∧ ∀ R, plc false w L p = some R → ∃ v', f_X4_spread (nI r) (nI p) v = some (1, v') ∧ PO r v v' R := by
  have hpw := pw_le hw4
  have hM' := len_pw hw4 hM
  unfold f_X4_spread plc
  rw [if_pos (ix_nI hr (by omega)), nI_clamp (by omega), hw, l_shl1 (by omega)]
  by_cases h : lo L p < hi L (2 ^ w) p
  · rw [if_pos h]
    obtain ⟨v', e1, e2, e3⟩ := p_between_yes hv hp h6 hM' (by omega) h
    refine ⟨fun q => (by cases q), fun R q => ?_⟩
    cases q
    refine ⟨v', ?_, e2.up (by decide) (by decide) (by decide), e3, ?_, ?_⟩
    · rw [e1, Option.bind_some, if_neg (show ¬ (1 : Int32) = 0 by decide)]
    · rw [e2.1 15 (by decide)]; exact (Int32.add_zero _).symm
    · rw [e2.2.1 5 (by decide)]; rfl
  · have h0 : 0 < L.length := by
      rcases Nat.eq_zero_or_pos L.length with e | e
      · exfalso
        apply h
        have : lo L p = 0 := if_pos (by omega)
        have h2 : hi L (2 ^ w) p = 2 ^ w := if_pos (by omega)
        rw [this, h2]
        exact pw_pos w
      · exact e
    rw [if_neg h, if_neg (by decide), p_between_no hv hp h6 hM' (by omega) h, Option.bind_some, if_pos rfl]
    have e : (if nI p ≤ 0 then (if ix 0 601 = true then f_X4_spread_41 NF (nI r) (nI p) (nI w) (v.2.2 21 (Int32.toNatClampNeg 0)) 1 v else none) else (if ix (nI p - 1) 601 = true then f_X4_spread_41 NF (nI r) (nI p) (nI w) (v.2.2 21 (Int32.toNatClampNeg (nI p - 1))) 1 v else none)) = f_X4_spread_41 NF (nI r) (nI p) (nI w) (lN (L.getD (p - 1) 0)) 1 v := by
      by_cases hp0 : p = 0
      · subst hp0
        rw [if_pos (by decide), if_pos (by decide)]
        have := hv.2 0 h0
        rw [show Int32.toNatClampNeg 0 = 0 from rfl, this]
      · simp (disch := omega) only [ix_nI, nI_clamp, le_L, le_R, lt_L, lt_R, eq_L, eq_R, ad_L, sb_L, ml_L, nI_leI, nI_ltI, nI_eq, nI_add, pk_mul, nI_m1, if_true, if_false, if_pos, if_neg, Option.bind_some, hv.2]
    dsimp only
    rw [e]
    exact p_spread_41 hv hr h6 hw4 hp h0 hs hM w NF 1 (Nat.le_refl _) (by omega) (NF_lt (by omega))
end TS
