/-! ===== the step row ===== -/
theorem slot_mRow {z : MS} {r k0 : Nat} {k w : Int32} : slot (mRow z r k w) k0 = slot z k0 := by
  have e : (mRow z r k w).2.1 16 = z.2.1 16 := by
    unfold mRow
    rw [mA_k (by decide), mA_k (by decide), mA_k (by decide), mA_k (by decide), mA_k (by decide)]
  unfold slot
  rw [e]
  rfl
theorem in_dec (y : Int32) (a b : Nat) (hab : a ≤ b) (hb : b < 2 ^ 31) : (f_X4_in y (nI a) (nI b) = some 1 ∧ ∃ k, a ≤ k ∧ k ≤ b ∧ y = nI k) ∨ (f_X4_in y (nI a) (nI b) = some 0 ∧ (y < nI a ∨ ¬ y < nI a ∧ nI b < y)) := by
  unfold f_X4_in
  by_cases h1 : y < nI a
  · rw [if_pos h1]; exact Or.inr ⟨rfl, Or.inl h1⟩
  · rw [if_neg h1]
    by_cases h2 : nI b < y
    · rw [if_pos h2]; exact Or.inr ⟨rfl, Or.inr ⟨h1, h2⟩⟩
    · rw [if_neg h2]
      refine Or.inl ⟨rfl, ?_⟩
      have h0 : ¬ y < 0 := by
        intro h0
        refine h1 ?_
        rw [Int32.lt_iff_toInt_lt, nI_toInt (by omega)]
        rw [Int32.lt_iff_toInt_lt, Int32.toInt_zero] at h0
        omega
      obtain ⟨j, hj, rfl⟩ := nI_of h0
      refine ⟨j, ?_, ?_, rfl⟩
      · rcases Nat.lt_or_ge j a with q | q
        · exact absurd (nI_lt q (by omega)) h1
        · exact q
      · rcases Nat.lt_or_ge b j with q | q
        · exact absurd (nI_lt q hj) h2
        · exact q
