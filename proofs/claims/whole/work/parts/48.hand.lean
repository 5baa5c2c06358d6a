/-! ===== the model: its hand ===== -/
def HD (v : MS) (L : List Nat) : Prop := v.1 22 = nI L.length ∧ ∀ i, i < L.length → v.2.2 21 i = lN (L.getD i 0)
/-- from place p on one place up, to place n -/
def shO {α : Type} (f : Nat → α) (o p n : Nat) : Nat → α := fun j => if o + p < j ∧ j ≤ o + n then f (j - 1) else f j
section SHO
variable {α : Type} {f : Nat → α} {o p n i : Nat}
theorem shO_0 : shO f o n n = f := by
  funext j
  unfold shO
  rw [if_neg (by omega)]
theorem shO_lt (h : i ≤ p) : shO f o p n (o + i) = f (o + i) := if_neg (by omega)
theorem shO_gt (h : p < i) (h2 : i ≤ n) : shO f o p n (o + i) = f (o + (i - 1)) := by
  unfold shO
  rw [if_pos (by omega)]
  congr 1
  omega
theorem shO_out (h : i < o ∨ o + n < i) (hp : p ≤ n) : shO f o p n i = f i := if_neg (by omega)
end SHO
theorem shO_s (f : Nat → Int32) {o i n : Nat} (h : i < n) : upd (shO f o (i + 1) n) (o + (i + 1)) (shO f o (i + 1) n (o + i)) = shO f o i n := by
  funext j
  by_cases e : j = o + (i + 1)
  · subst e
    rw [pk_us, shO_lt (by omega), shO_gt (by omega) (by omega)]
    rfl
  · rw [pk_un e]
    unfold shO
    by_cases q : o + (i + 1) < j ∧ j ≤ o + n
    · rw [if_pos q, if_pos (by omega)]
    · rw [if_neg q, if_neg (by omega)]
theorem shO_sL (f : Nat → Int64) {o i n : Nat} (h : i < n) : vp_updL (shO f o (i + 1) n) (o + (i + 1)) (shO f o (i + 1) n (o + i)) = shO f o i n := by
  funext j
  by_cases e : j = o + (i + 1)
  · subst e
    rw [pk_uLs, shO_lt (by omega), shO_gt (by omega) (by omega)]
    rfl
  · rw [pk_uLn e]
    unfold shO
    by_cases q : o + (i + 1) < j ∧ j ≤ o + n
    · rw [if_pos q, if_pos (by omega)]
    · rw [if_neg q, if_neg (by omega)]
theorem p_open {v : MS} {n p : Nat} (hn : v.1 22 = nI n) (hp : p ≤ n) (h6 : n ≤ 600) : f_X4_open (nI p) v = some (mF (wB v 21 (shO (v.2.2 21) 0 p n)) 22 (nI (n + 1))) := by
  unfold f_X4_open
  rw [hn]
  have e0 : v = wB v 21 (shO (v.2.2 21) 0 n n) := by rw [shO_0, wB_id]
  refine Eq.trans (congrArg (f_X4_open_5 NF (nI p) (nI n)) e0) ?_
  refine loopD (fun m i => f_X4_open_5 m (nI p) (nI i) (wB v 21 (shO (v.2.2 21) 0 i n))) hp (NF_lt (by omega)) (fun m i h1 h2 => ?_) (fun m => ?_)
  · have h := shO_sL (v.2.2 21) (o := 0) h2
    simp only [Nat.zero_add] at h
    rw [f_X4_open_5]
    simp (disch := omega) only [ix_nI, nI_clamp, le_L, le_R, lt_L, lt_R, eq_L, eq_R, ad_L, sb_L, ml_L, nI_leI, nI_ltI, nI_eq, nI_add, pk_mul, nI_m1, if_true, if_false, if_pos, if_neg, Option.bind_some, mA_at, mA_i, mA_k, mA_1, mA_22, mF_at, mF_ne, mF_2, mB_at, mB_i, mB_k, mB_1, mB_21, wB_at, mB_wB, Nat.add_sub_cancel, h]
  · rw [f_X4_open_5]
    simp (disch := omega) only [ix_nI, nI_clamp, le_L, le_R, lt_L, lt_R, eq_L, eq_R, ad_L, sb_L, ml_L, nI_leI, nI_ltI, nI_eq, nI_add, pk_mul, nI_m1, if_true, if_false, if_pos, if_neg, Option.bind_some, mA_at, mA_i, mA_k, mA_1, mA_22, mF_at, mF_ne, mF_2, mB_at, mB_i, mB_k, mB_1, mB_21, wB_1, hn]
def mxI (g c : Int32) : Int32 := if c ≤ g then g else c
theorem l_ne0 {c : Nat} (h : 0 < c) (h2 : c ≤ 1000) : ¬ (2 * (nI c).toInt64) = 0 := by
  rw [nI_l (by omega), show (2 : Int64) = lN 2 from rfl, show (0 : Int64) = lN 0 from rfl, lN_mul, pk_lEQ (by omega) (by omega)]
  omega
theorem p_dealt {v : MS} {r F c X j : Nat} {y : Int32} (hr : r < 8) (hF : F + c ≤ 601) (hX : X < 2 ^ 42) (hj : j ≤ 40) : f_X4_dealt (nI r) (nI F) (nI c) (lN X) (nI j) y v = some (mA (mF (wB v 21 (pt (v.2.2 21) (fun i => lN (dl X j c i)) F c)) 15 (v.1 15 + y)) 5 r (mxI (v.2.1 5 r) (nI c))) := by
  unfold f_X4_dealt
  have e0 : v = wB v 21 (pt (v.2.2 21) (fun i => lN (dl X j c i)) F 0) := by rw [pt_0, wB_id]
  refine Eq.trans (congrArg (f_X4_dealt_3 NF (nI r) (nI F) (nI c) (lN X) (nI j) y 0) e0) ?_
  refine loopE (fun m i => f_X4_dealt_3 m (nI r) (nI F) (nI c) (lN X) (nI j) y (nI i) (wB v 21 (pt (v.2.2 21) (fun i => lN (dl X j c i)) F i))) (a := 0) (b := c) (Nat.zero_le _) (NF_lt (by omega)) (fun m i h1 h2 => ?_) (fun m => ?_)
  · have h := pt_sL (v.2.2 21) (fun i => lN (dl X j c i)) F i
    rw [f_X4_dealt_3, if_neg (by rw [nI_leI (by omega) (by omega)]; omega), if_pos (l_ne0 (by omega) (by omega)), l_dl hX hj (by omega) (by omega) (by omega)]
    simp (disch := omega) only [ix_nI, nI_clamp, le_L, le_R, lt_L, lt_R, eq_L, eq_R, ad_L, sb_L, ml_L, nI_leI, nI_ltI, nI_eq, nI_add, pk_mul, nI_m1, if_true, if_false, if_pos, if_neg, Option.bind_some, mA_at, mA_i, mA_k, mA_1, mA_22, mF_at, mF_ne, mF_2, mB_at, mB_i, mB_k, mB_1, mB_21, mB_wB, h]
  · rw [f_X4_dealt_3, if_pos (nI_le (Nat.le_refl _) (by omega))]
    simp (disch := omega) only [ix_nI, nI_clamp, le_L, le_R, lt_L, lt_R, eq_L, eq_R, ad_L, sb_L, ml_L, nI_leI, nI_ltI, nI_eq, nI_add, pk_mul, nI_m1, if_true, if_false, if_pos, if_neg, Option.bind_some, mA_at, mA_i, mA_k, mA_1, mA_22, mF_at, mF_ne, mF_2, mB_at, mB_i, mB_k, mB_1, mB_21, wB_1, wB_21]
    unfold mxI
    by_cases h : nI c ≤ v.2.1 5 r
    · rw [if_pos h, if_pos h]
    · rw [if_neg h, if_neg h]
theorem lm1 (a : Nat) : lN (a + 1) - 1 = lN a := by
  have := lN_sub (a := a + 1) (b := 1) (by omega)
  rw [Nat.add_sub_cancel] at this
  exact this
section BTW
variable {v : MS} {L : List Nat} {p M : Nat}
theorem lo_l (hv : HD v L) (hp : p ≤ L.length) (h6 : L.length ≤ 600) (k : Int64 → Option (Int32 × MS)) : (if nI p = 0 then k (-1) else (if ix (nI p - 1) 601 = true then k (v.2.2 21 (Int32.toNatClampNeg (nI p - 1))) else none)) = k (lN (lo L p) - 1) := by
  by_cases h : p = 0
  · subst h
    rw [if_pos (by decide)]
    rfl
  · have e : lo L p = L.getD (p - 1) 0 + 1 := if_neg h
    simp (disch := omega) only [ix_nI, nI_clamp, le_L, le_R, lt_L, lt_R, eq_L, eq_R, ad_L, sb_L, ml_L, nI_leI, nI_ltI, nI_eq, nI_add, pk_mul, nI_m1, if_true, if_false, if_pos, if_neg, Option.bind_some, e, lm1, hv.2]
theorem hi_l (hv : HD v L) (hp : p ≤ L.length) (h6 : L.length ≤ 600) (k : Int64 → Option (Int32 × MS)) : (if nI p = v.1 22 then k (lN M) else (if ix (nI p) 601 = true then k (v.2.2 21 (Int32.toNatClampNeg (nI p))) else none)) = k (lN (hi L M p)) := by
  rw [hv.1]
  by_cases h : p = L.length
  · have e : hi L M p = M := if_pos h
    rw [e, if_pos (by rw [h])]
  · have e : hi L M p = L.getD p 0 := if_neg h
    simp (disch := omega) only [ix_nI, nI_clamp, le_L, le_R, lt_L, lt_R, eq_L, eq_R, ad_L, sb_L, ml_L, nI_leI, nI_ltI, nI_eq, nI_add, pk_mul, nI_m1, if_true, if_false, if_pos, if_neg, Option.bind_some, e, hv.2]
theorem lt2 {a b : Nat} (ha : a < 2 ^ 61) (hb : b < 2 ^ 61) : (0 ≤ lg_cmp (lN b - (lN a - 1)) 2) ↔ a < b := by
  rw [lg_cmp_ge, show (2 : Int64) = lN 2 from rfl]
  have e : lN b - (lN a - 1) = lN (b + 1) - lN a := by
    apply Int64.toBitVec_inj.mp
    simp only [Int64.toBitVec_sub]
    rw [← lN_1]
    simp only [Int64.toBitVec_add]
    generalize (lN b).toBitVec = x
    generalize (lN a).toBitVec = y
    generalize Int64.toBitVec 1 = z
    apply BitVec.eq_of_toInt_eq
    simp [BitVec.toInt_sub, BitVec.toInt_add]
    congr 1
    omega
  rw [e, Int64.le_iff_toInt_le]
  have h2 : (lN (b + 1) - lN a).toInt = (b : Int) + 1 - a := by
    rw [Int64.toInt_sub, pk_lT (by omega), pk_lT (by omega)]
    rw [Int.bmod_eq_of_le]
    · omega
    · omega
    · omega
  rw [h2, pk_lT (by omega)]
  omega
theorem mid_l {a b : Nat} (ha : a < 2 ^ 61) (hb : b < 2 ^ 61) (h : a < b) : (lN a - 1 + lN b) / 2 = lN ((a + b - 1) / 2) := by
  obtain ⟨c, rfl⟩ : ∃ c, b = c + 1 := ⟨b - 1, by omega⟩
  have e : lN a - 1 + lN (c + 1) = lN (a + c) := by
    rw [← lN_1, ← lN_add]
    apply Int64.toBitVec_inj.mp
    simp only [Int64.toBitVec_sub, Int64.toBitVec_add]
    generalize (lN c).toBitVec = x
    generalize (lN a).toBitVec = y
    generalize Int64.toBitVec 1 = z
    apply BitVec.eq_of_toInt_eq
    simp [BitVec.toInt_sub, BitVec.toInt_add]
    congr 1
    omega
  rw [e, show (2 : Int64) = lN 2 from rfl, pk_lDiv (by omega) (by omega) (by omega)]
  congr 2
theorem HD_of {v' : MS} {R : List Nat} (h1 : v'.1 22 = nI R.length) (h2 : ∀ i, i < R.length → v'.2.2 21 i = lN (R.getD i 0)) : HD v' R := ⟨h1, h2⟩
theorem lo_lt (hM : ∀ d ∈ L, d < 2 ^ 42) (hp : p ≤ L.length) : lo L p < 2 ^ 61 := by
  unfold lo
  split
  · decide
  · have := hM _ (getD_mem (i := p - 1) (l := L) (by omega))
    omega
theorem hi_lt (hM : ∀ d ∈ L, d < 2 ^ 42) (hM2 : M < 2 ^ 42) (hp : p ≤ L.length) : hi L M p < 2 ^ 61 := by
  unfold hi
  split
  · omega
  · have := hM _ (getD_mem (i := p) (l := L) (by omega))
    omega
theorem p_between_no (hv : HD v L) (hp : p ≤ L.length) (h6 : L.length ≤ 600) (hM : ∀ d ∈ L, d < 2 ^ 42) (hM2 : M < 2 ^ 42) (h : ¬ lo L p < hi L M p) : f_X4_between (nI p) (lN M) v = some (0, v) := by
  unfold f_X4_between
  rw [lo_l hv hp h6 (fun t => f_X4_between_18 (nI p) (lN M) t v)]
  unfold f_X4_between_18
  have e := hi_l (M := M) hv hp h6 (fun t => if 0 ≤ lg_cmp (t - (lN (lo L p) - 1)) 2 then (f_X4_open (nI p) v).bind (fun z => if ix (nI p) 601 = true then some (1, mB z 21 (Int32.toNatClampNeg (nI p)) ((lN (lo L p) - 1 + t) / 2)) else none) else some (0, v))
  rw [e, if_neg (by rw [lt2 (lo_lt hM hp) (hi_lt hM hM2 hp)]; exact h)]
theorem p_between_yes (hv : HD v L) (hp : p ≤ L.length) (h6 : L.length ≤ 600) (hM : ∀ d ∈ L, d < 2 ^ 42) (hM2 : M < 2 ^ 42) (h : lo L p < hi L M p) : ∃ v', f_X4_between (nI p) (lN M) v = some (1, v') ∧ Fm [22] [] [21] v v' ∧ HD v' (ins L p (md L M p)) := by
  unfold f_X4_between
  rw [lo_l hv hp h6 (fun t => f_X4_between_18 (nI p) (lN M) t v)]
  unfold f_X4_between_18
  have e := hi_l (M := M) hv hp h6 (fun t => if 0 ≤ lg_cmp (t - (lN (lo L p) - 1)) 2 then (f_X4_open (nI p) v).bind (fun z => if ix (nI p) 601 = true then some (1, mB z 21 (Int32.toNatClampNeg (nI p)) ((lN (lo L p) - 1 + t) / 2)) else none) else some (0, v))
  rw [e, if_pos (by rw [lt2 (lo_lt hM hp) (hi_lt hM hM2 hp)]; exact h), p_open hv.1 hp h6, Option.bind_some, if_pos (ix_nI (by omega) (by omega)), nI_clamp (by omega), mid_l (lo_lt hM hp) (hi_lt hM hM2 hp) h]
  refine ⟨_, rfl, ((Fm.rf.wB (by decide)).pF (by decide)).pB (by decide), HD_of ?_ fun i hi => ?_⟩
  · rw [mB_1, mF_at, ins_len hp]
  · rw [ins_len hp] at hi
    rcases Nat.lt_trichotomy i p with q | q | q
    · have e2 := shO_lt (f := v.2.2 21) (o := 0) (p := p) (n := L.length) (i := i) (by omega)
      rw [Nat.zero_add] at e2
      rw [ins_lt hp q, mB_i (by omega), mF_2, wB_at, e2, hv.2 i (by omega)]
    · subst q
      rw [ins_at hp, mB_at]
      rfl
    · have e2 := shO_gt (f := v.2.2 21) (o := 0) (p := p) (n := L.length) (i := i) (by omega) (by omega)
      rw [Nat.zero_add, Nat.zero_add] at e2
      rw [ins_gt hp q, mB_i (by omega), mF_2, wB_at, e2, hv.2 (i - 1) (by omega)]
end BTW
