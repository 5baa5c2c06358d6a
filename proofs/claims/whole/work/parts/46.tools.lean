/-! ===== tools: loops, numbers, frames ===== -/
theorem loopE {R : Type} (F : Nat → Nat → Option R) {a b n : Nat} {z : Option R} (hab : a ≤ b) (hn : b - a < n) (st : ∀ n i, a ≤ i → i < b → F (n + 1) i = F n (i + 1)) (fin : ∀ n, F (n + 1) b = z) : F n a = z := by
  induction n generalizing a with
  | zero => omega
  | succ n ih =>
    by_cases h : a = b
    · rw [h]; exact fin n
    · rw [st n a (Nat.le_refl _) (by omega)]
      exact ih (by omega) (by omega) (fun m i h1 h2 => st m i (by omega) h2)
theorem loopD {R : Type} (F : Nat → Nat → Option R) {a b n : Nat} {z : Option R} (hab : b ≤ a) (hn : a - b < n) (st : ∀ n i, b ≤ i → i < a → F (n + 1) (i + 1) = F n i) (fin : ∀ n, F (n + 1) b = z) : F n a = z := by
  induction n generalizing a with
  | zero => omega
  | succ n ih =>
    by_cases h : a = b
    · rw [h]; exact fin n
    · obtain ⟨c, rfl⟩ : ∃ c, a = c + 1 := ⟨a - 1, by omega⟩
      rw [st n c (by omega) (by omega)]
      exact ih (by omega) (by omega) (fun m i h1 h2 => st m i h1 (by omega))
theorem NF_lt {k : Nat} (h : k < 20000) : k < NF := by rw [NF_eq]; exact h
theorem NF_s : ∃ n, NF = n + 1 := ⟨19999, NF_eq⟩
/-! literals beside nI -/
theorem lit_I (n : Nat) : (OfNat.ofNat n : Int32) = nI n := rfl
theorem le_L {r n : Nat} (h : r < 2 ^ 31) (hn : (OfNat.ofNat n : Nat) < 2 ^ 31) : ((no_index (OfNat.ofNat n) : Int32) ≤ nI r) ↔ OfNat.ofNat n ≤ r := nI_leI hn h
theorem le_R {r n : Nat} (h : r < 2 ^ 31) (hn : (OfNat.ofNat n : Nat) < 2 ^ 31) : (nI r ≤ (no_index (OfNat.ofNat n) : Int32)) ↔ r ≤ OfNat.ofNat n := nI_leI h hn
theorem lt_L {r n : Nat} (h : r < 2 ^ 31) (hn : (OfNat.ofNat n : Nat) < 2 ^ 31) : ((no_index (OfNat.ofNat n) : Int32) < nI r) ↔ OfNat.ofNat n < r := nI_ltI hn h
theorem lt_R {r n : Nat} (h : r < 2 ^ 31) (hn : (OfNat.ofNat n : Nat) < 2 ^ 31) : (nI r < (no_index (OfNat.ofNat n) : Int32)) ↔ r < OfNat.ofNat n := nI_ltI h hn
theorem eq_L {r n : Nat} (h : r < 2 ^ 31) (hn : (OfNat.ofNat n : Nat) < 2 ^ 31) : ((no_index (OfNat.ofNat n) : Int32) = nI r) ↔ OfNat.ofNat n = r := nI_eq hn h
theorem eq_R {r n : Nat} (h : r < 2 ^ 31) (hn : (OfNat.ofNat n : Nat) < 2 ^ 31) : (nI r = (no_index (OfNat.ofNat n) : Int32)) ↔ r = OfNat.ofNat n := nI_eq h hn
theorem ad_L {a n : Nat} : nI a + (no_index (OfNat.ofNat n) : Int32) = nI (a + OfNat.ofNat n) := nI_add a n
theorem sb_L {a n : Nat} (h : OfNat.ofNat n ≤ a) : nI a - (no_index (OfNat.ofNat n) : Int32) = nI (a - OfNat.ofNat n) := pk_sub h
theorem ml_L {a n : Nat} : (no_index (OfNat.ofNat n) : Int32) * nI a = nI (OfNat.ofNat n * a) := pk_mul n a
theorem nI_m1 {a : Nat} (h : 0 < a) : nI a + (-1) = nI (a - 1) := by
  obtain ⟨b, rfl⟩ : ∃ b, a = b + 1 := ⟨a - 1, by omega⟩
  rw [pk_m1, Nat.add_sub_cancel]
/-! the model's state, read behind a write -/
theorem mA_1 {u : MS} {k i : Nat} {y : Int32} : (mA u k i y).1 = u.1 := rfl
theorem mA_22 {u : MS} {k i : Nat} {y : Int32} : (mA u k i y).2.2 = u.2.2 := rfl
theorem mF_2 {u : MS} {k : Nat} {y : Int32} : (mF u k y).2 = u.2 := rfl
theorem mB_1 {u : MS} {k i : Nat} {y : Int64} : (mB u k i y).1 = u.1 := rfl
theorem mB_21 {u : MS} {k i : Nat} {y : Int64} : (mB u k i y).2.1 = u.2.1 := rfl
theorem mB_at {u : MS} {k i : Nat} {y : Int64} : (mB u k i y).2.2 k i = y := by unfold mB; dsimp only; rw [va_up_self, pk_uLs]
theorem mB_i {u : MS} {k i j : Nat} {y : Int64} (h : j ≠ i) : (mB u k i y).2.2 k j = u.2.2 k j := by unfold mB; dsimp only; rw [va_up_self, pk_uLn h]
theorem mB_k {u : MS} {k i f : Nat} {y : Int64} (h : f ≠ k) : (mB u k i y).2.2 f = u.2.2 f := by unfold mB; dsimp only; rw [va_up_ne _ _ h]
/-- an array put whole -/
def wA (v : MS) (k : Nat) (f : Nat → Int32) : MS := (v.1, va_up v.2.1 k f, v.2.2)
def wB (v : MS) (k : Nat) (f : Nat → Int64) : MS := (v.1, v.2.1, va_up v.2.2 k f)
theorem wA_id {v : MS} {k : Nat} : wA v k (v.2.1 k) = v := by unfold wA; rw [up_id rfl]
theorem wB_id {v : MS} {k : Nat} : wB v k (v.2.2 k) = v := by unfold wB; rw [up_id rfl]
theorem wA_1 {v : MS} {k : Nat} {f : Nat → Int32} : (wA v k f).1 = v.1 := rfl
theorem wA_22 {v : MS} {k : Nat} {f : Nat → Int32} : (wA v k f).2.2 = v.2.2 := rfl
theorem wA_at {v : MS} {k : Nat} {f : Nat → Int32} : (wA v k f).2.1 k = f := va_up_self _ _ _
theorem wA_k {v : MS} {k j : Nat} {f : Nat → Int32} (h : j ≠ k) : (wA v k f).2.1 j = v.2.1 j := va_up_ne _ _ h
theorem wB_1 {v : MS} {k : Nat} {f : Nat → Int64} : (wB v k f).1 = v.1 := rfl
theorem wB_21 {v : MS} {k : Nat} {f : Nat → Int64} : (wB v k f).2.1 = v.2.1 := rfl
theorem wB_at {v : MS} {k : Nat} {f : Nat → Int64} : (wB v k f).2.2 k = f := va_up_self _ _ _
theorem wB_k {v : MS} {k j : Nat} {f : Nat → Int64} (h : j ≠ k) : (wB v k f).2.2 j = v.2.2 j := va_up_ne _ _ h
theorem mA_wA {v : MS} {k i : Nat} {f : Nat → Int32} {y : Int32} : mA (wA v k f) k i y = wA v k (upd f i y) := by
  unfold mA wA; dsimp only; rw [up_up, va_up_self]
theorem mB_wB {v : MS} {k i : Nat} {f : Nat → Int64} {y : Int64} : mB (wB v k f) k i y = wB v k (vp_updL f i y) := by
  unfold mB wB; dsimp only; rw [up_up, va_up_self]
/-- what has changed at most: these ints, int arrays, long arrays -/
def Fm (I A B : List Nat) (u v : MS) : Prop := (∀ j, j ∉ I → v.1 j = u.1 j) ∧ (∀ f, f ∉ A → v.2.1 f = u.2.1 f) ∧ (∀ f, f ∉ B → v.2.2 f = u.2.2 f)
theorem ne_nm {k j : Nat} {I : List Nat} (hk : k ∈ I) (hj : j ∉ I) : j ≠ k := fun q => hj (q.symm ▸ hk)
section FM
variable {I A B I' A' B' : List Nat} {u v w : MS}
theorem Fm.rf : Fm I A B u u := ⟨fun _ _ => rfl, fun _ _ => rfl, fun _ _ => rfl⟩
theorem Fm.tr (h : Fm I A B u v) (h2 : Fm I A B v w) : Fm I A B u w := ⟨fun j hj => (h2.1 j hj).trans (h.1 j hj), fun j hj => (h2.2.1 j hj).trans (h.2.1 j hj), fun j hj => (h2.2.2 j hj).trans (h.2.2 j hj)⟩
theorem Fm.up (h : Fm I A B u v) (h1 : ∀ j ∈ I, j ∈ I') (h2 : ∀ j ∈ A, j ∈ A') (h3 : ∀ j ∈ B, j ∈ B') : Fm I' A' B' u v := ⟨fun j hj => h.1 j (fun q => hj (h1 j q)), fun j hj => h.2.1 j (fun q => hj (h2 j q)), fun j hj => h.2.2 j (fun q => hj (h3 j q))⟩
theorem Fm.pF {k : Nat} {x : Int32} (h : Fm I A B u v) (hk : k ∈ I) : Fm I A B u (mF v k x) := ⟨fun j hj => by rw [mF_ne (ne_nm hk hj)]; exact h.1 j hj, h.2.1, h.2.2⟩
theorem Fm.pA {k i : Nat} {x : Int32} (h : Fm I A B u v) (hk : k ∈ A) : Fm I A B u (mA v k i x) := ⟨h.1, fun j hj => by rw [mA_k (ne_nm hk hj)]; exact h.2.1 j hj, h.2.2⟩
theorem Fm.pB {k i : Nat} {x : Int64} (h : Fm I A B u v) (hk : k ∈ B) : Fm I A B u (mB v k i x) := ⟨h.1, h.2.1, fun j hj => by rw [mB_k (ne_nm hk hj)]; exact h.2.2 j hj⟩
theorem Fm.wA {k : Nat} {f : Nat → Int32} (h : Fm I A B u v) (hk : k ∈ A) : Fm I A B u (wA v k f) := ⟨h.1, fun j hj => by rw [wA_k (ne_nm hk hj)]; exact h.2.1 j hj, h.2.2⟩
theorem Fm.wB {k : Nat} {f : Nat → Int64} (h : Fm I A B u v) (hk : k ∈ B) : Fm I A B u (wB v k f) := ⟨h.1, h.2.1, fun j hj => by rw [wB_k (ne_nm hk hj)]; exact h.2.2 j hj⟩
end FM
/-! longs -/
theorem wb_tb (n : Nat) : (lN n).toBitVec = BitVec.ofNat 64 n := rfl
theorem wb_inj {a b : Int64} (h : a.toBitVec = b.toBitVec) : a = b := Int64.toBitVec_inj.mp h
theorem wb_c : ∀ k, k < 64 → ((nI k).toInt64 &&& 63) = lN k := by decide +kernel
theorem wb_sm : ∀ k, k < 64 → (BitVec.ofNat 64 k).smod 64 = BitVec.ofNat 64 k := by decide +kernel
theorem wb_shl (n : Nat) {k : Nat} (hk : k < 64) : lN n <<< ((nI k).toInt64 &&& 63) = lN (n * 2 ^ k) := by
  rw [wb_c k hk]
  apply wb_inj
  rw [Int64.toBitVec_shiftLeft, wb_tb, wb_tb, wb_tb, wb_sm k hk]
  apply BitVec.eq_of_toNat_eq
  rw [BitVec.shiftLeft_eq', BitVec.toNat_shiftLeft, BitVec.toNat_ofNat, BitVec.toNat_ofNat, BitVec.toNat_ofNat, Nat.mod_eq_of_lt (show k < 2 ^ 64 by omega), Nat.shiftLeft_eq, Nat.mul_mod, Nat.mod_mod, ← Nat.mul_mod]
theorem pf_shr {a d : Nat} {D : Int64} (hD : (D.toBitVec.smod 64).toNat = d) (h : a < 2 ^ 62) : lN a >>> D = lN (a / 2 ^ d) := by
  have hd : a / 2 ^ d ≤ a := Nat.div_le_self _ _
  apply Int64.toInt_inj.mp
  have e : (lN a >>> D).toInt = (lN a).toInt >>> d := by
    rw [← hD]
    exact BitVec.toInt_sshiftRight ..
  rw [e, Int.shiftRight_eq_div_pow, pk_lT (by omega), pk_lT (by omega)]
  rfl
theorem l_shl1 {k : Nat} (hk : k < 64) : (1 : Int64) <<< ((nI k).toInt64 &&& 63) = lN (2 ^ k) := by
  have := wb_shl 1 hk
  rw [Nat.one_mul] at this
  exact this
theorem l_shr {a k : Nat} (ha : a < 2 ^ 62) (hk : k < 64) : lN a >>> ((nI k).toInt64 &&& 63) = lN (a / 2 ^ k) := by
  refine pf_shr ?_ ha
  rw [wb_c k hk, wb_tb, wb_sm k hk, BitVec.toNat_ofNat, Nat.mod_eq_of_lt (by omega)]
theorem l_flr {a k : Nat} (ha : a < 2 ^ 62) (hk : k < 64) : (lN a >>> ((nI k).toInt64 &&& 63)) <<< ((nI k).toInt64 &&& 63) = lN (a / 2 ^ k * 2 ^ k) := by
  rw [l_shr ha hk, wb_shl _ hk]
theorem pw_le {j : Nat} (h : j ≤ 40) : 2 ^ j ≤ 2 ^ 40 := Nat.pow_le_pow_right (by decide) h
theorem pw_pos (j : Nat) : 0 < 2 ^ j := Nat.two_pow_pos j
/-- DEALT: the i-th of c in the span from x on, 2^j wide -/
def dl (x j c i : Nat) : Nat := x + (2 * i + 1) * 2 ^ j / (2 * c)
theorem l_dl {x j c i : Nat} (hx : x < 2 ^ 42) (hj : j ≤ 40) (hc : 0 < c) (hc2 : c ≤ 1000) (hi : i ≤ 1000) : lN x + ((2 * (nI i).toInt64 + 1) * ((1 : Int64) <<< ((nI j).toInt64 &&& 63))) / (2 * (nI c).toInt64) = lN (dl x j c i) := by
  have h1 := pw_le hj
  have h2 : (2 * i + 1) * 2 ^ j ≤ 2001 * 2 ^ 40 := Nat.mul_le_mul (by omega) h1
  rw [l_shl1 (by omega), nI_l (by omega), nI_l (by omega), show (2 : Int64) = lN 2 from rfl, show (1 : Int64) = lN 1 from rfl, lN_mul, lN_mul, lN_add, lN_mul, pk_lDiv (by omega) (by omega) (by omega), lN_add]
  rfl
theorem dl_lt {x j c i : Nat} (hi : i < c) : dl x j c i < x + 2 ^ j := by
  unfold dl
  have h : (2 * i + 1) * 2 ^ j / (2 * c) < 2 ^ j := by
    rw [Nat.div_lt_iff_lt_mul (by omega), Nat.mul_comm (2 ^ j)]
    exact Nat.mul_lt_mul_of_pos_right (by omega) (pw_pos j)
  omega
theorem dl_ge {x j c i : Nat} : x ≤ dl x j c i := Nat.le_add_right _ _
theorem dl_mono {x j c i i' : Nat} (hc : 0 < c) (h : c ≤ 2 ^ j) (hi : i < i') : dl x j c i < dl x j c i' := by
  unfold dl
  have e : (2 * i + 1) * 2 ^ j + 2 * c ≤ (2 * i' + 1) * 2 ^ j := by
    have h1 : (2 * i + 1) * 2 ^ j + 2 * 2 ^ j = (2 * i + 3) * 2 ^ j := by rw [← Nat.add_mul]
    have h2 : (2 * i + 3) * 2 ^ j ≤ (2 * i' + 1) * 2 ^ j := Nat.mul_le_mul_right _ (by omega)
    omega
  have h3 : ((2 * i + 1) * 2 ^ j + 2 * c) / (2 * c) ≤ (2 * i' + 1) * 2 ^ j / (2 * c) := Nat.div_le_div_right e
  rw [Nat.add_div_right _ (by omega)] at h3
  omega
