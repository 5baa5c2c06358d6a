/-! ===== a change: begun and ended ===== -/
def bgn (u : HS) (N : Nat) : HS := hK u (va_up u.2.2.2.2.2 ((N + 1) % 9) u.2.2.2.2.1)
theorem spare_eq {u : HS} {N : Nat} (hN : N ≤ 8) (h3 : u.2.2.1 3 = nI N) : f_X3_spareSlot u = some (nI ((N + 1) % 9)) := by
  unfold f_X3_spareSlot
  rw [h3]
  by_cases c : N = 8
  · subst c
    rw [if_pos (show (8 : Int32) ≤ nI 8 by decide)]
    rfl
  · rw [if_neg (show ¬ (8 : Int32) ≤ nI N from nI_ge (b := 8) (by omega) (by omega)), nI_1, Nat.mod_eq_of_lt (show N + 1 < 9 by omega)]
theorem begin_eq {u : HS} {N : Nat} (hN : N ≤ 8) (h3 : u.2.2.1 3 = nI N) : f_X3_beginChange u = some (bgn u N) := by
  unfold f_X3_beginChange
  rw [spare_eq hN h3, Option.bind_some, if_pos (ix_nI (by omega) (by omega)), nI_clamp (by omega)]
  rfl
theorem end_yes {w : HS} {n N : Nat} (hN : N ≤ 8) (hn : n ≤ 8) (h3 : w.2.2.1 3 = nI N) (h4 : w.2.2.1 4 = nI n) : f_X3_endChange 1 w = some (hI (hI w 3 (nI ((N + 1) % 9))) 4 (nI (if n < 8 then n + 1 else 8))) := by
  unfold f_X3_endChange
  rw [if_neg (by decide), spare_eq hN h3, Option.bind_some, hI_ne (by decide), h4, nI_1]
  by_cases c : n < 7
  · rw [if_pos (show nI (n + 1) < 8 from nI_lt (b := 8) (by omega) (by omega)), if_pos (by omega)]
  · rw [if_neg (show ¬ nI (n + 1) < 8 from nI_nlt (b := 8) (by omega) (by omega))]
    have e : (if n < 8 then n + 1 else 8) = 8 := by
      by_cases c2 : n < 8
      · rw [if_pos c2]; omega
      · rw [if_neg c2]
    rw [e]
    rfl
theorem end_no {w : HS} {N : Nat} (hN : N ≤ 8) (h3 : w.2.2.1 3 = nI N) : f_X3_endChange 0 w = some (hX w ((N + 1) % 9)) := by
  unfold f_X3_endChange
  rw [if_pos rfl, spare_eq hN h3, Option.bind_some, exch_eq (by omega), Option.bind_some]
theorem so_lt {f n : Nat} (h : f = 2 ∧ n = 8 ∨ f = 3 ∧ n = 8 ∨ f = 4 ∧ n = 8 ∨ f = 5 ∧ n = 8 ∨ f = 6 ∧ n = 8 ∨ f = 7 ∧ n = 4800 ∨ f = 8 ∧ n = 4800 ∨ f = 11 ∧ n = 600 ∨ f = 12 ∧ n = 20 ∨ f = 13 ∧ n = 20 ∨ f = 14 ∧ n = 20) : so f + n ≤ 10300 := by
  unfold so
  rcases h with ⟨rfl, rfl⟩ | ⟨rfl, rfl⟩ | ⟨rfl, rfl⟩ | ⟨rfl, rfl⟩ | ⟨rfl, rfl⟩ | ⟨rfl, rfl⟩ | ⟨rfl, rfl⟩ | ⟨rfl, rfl⟩ | ⟨rfl, rfl⟩ | ⟨rfl, rfl⟩ | ⟨rfl, rfl⟩ <;> decide
/-- two slots are alike if their regions are -/
theorem slot_CQ {a b : MS} {k j : Nat} (h : ∀ i, i < 10940 → a.2.1 16 (10940 * k + i) = b.2.1 16 (10940 * j + i)) (g : ∀ i, i < 5400 → a.2.2 17 (5400 * k + i) = b.2.2 17 (5400 * j + i)) : CQ (slot a k) (slot b j) := by
  have h1 : ∀ f n, so f + n ≤ 10300 → ∀ i, i < n → a.2.1 16 (10940 * k + so f + i) = b.2.1 16 (10940 * j + so f + i) := by
    intro f n hf i hi
    rw [Nat.add_assoc, Nat.add_assoc]
    exact h _ (by omega)
  unfold slot CQ
  dsimp only
  refine ⟨h1 2 8 (so_lt (by simp)), h1 3 8 (so_lt (by simp)), h1 4 8 (so_lt (by simp)), h1 5 8 (so_lt (by simp)), h1 6 8 (so_lt (by simp)), h1 7 4800 (so_lt (by simp)), h1 8 4800 (so_lt (by simp)), h1 11 600 (so_lt (by simp)), h1 12 20 (so_lt (by simp)), h1 13 20 (so_lt (by simp)), h1 14 20 (so_lt (by simp)), fun i hi => ?_, fun i hi => ?_, h _ (by omega)⟩
  · rw [Nat.add_assoc, Nat.add_assoc]
    exact g _ (by unfold sj; simp; omega)
  · rw [Nat.add_assoc, Nat.add_assoc]
    exact g _ (by unfold sj; simp; omega)
theorem keep_ok {v : MS} {E n : Nat} (hE : E < 8) (hn : n ≤ 8) (h18 : v.1 18 = nI E) (h19 : v.1 19 = nI n) : ∃ v', f_X4_keep v = some v' ∧ v'.1 18 = nI ((E + 1) % 8) ∧ v'.1 19 = nI (if n < 8 then n + 1 else 8) ∧ (∀ j, j ≠ 18 → j ≠ 19 → v'.1 j = v.1 j) ∧ (∀ f, f ≠ 16 → v'.2.1 f = v.2.1 f) ∧ (∀ f, f ≠ 17 → v'.2.2 f = v.2.2 f) ∧ CQ (slot v' E) (slot v 8) ∧ ∀ k, k < 8 → k ≠ E → CQ (slot v' k) (slot v k) := by
  have e16 : ∀ j, (mF (mF (kh (kg v E 10940) E 5400) 18 (nI ((E + 1) % 8))) 19 (nI (if n < 8 then n + 1 else 8))).2.1 16 j = pt (v.2.1 16) (fun q => v.2.1 16 (87520 + q)) (10940 * E) 10940 j := by
    intro j; unfold mF kh kg; dsimp only; rw [va_up_self]
  have e17 : ∀ j, (mF (mF (kh (kg v E 10940) E 5400) 18 (nI ((E + 1) % 8))) 19 (nI (if n < 8 then n + 1 else 8))).2.2 17 j = pt (v.2.2 17) (fun q => v.2.2 17 (43200 + q)) (5400 * E) 5400 j := by
    intro j; unfold mF kh kg; dsimp only; rw [va_up_self]
  refine ⟨_, keep_eq hE hn h18 h19, ?_, mF_at, fun j a b => ?_, fun f hf => ?_, fun f hf => ?_, slot_CQ (fun i hi => ?_) (fun i hi => ?_), fun k hk hk2 => slot_CQ (fun i hi => ?_) (fun i hi => ?_)⟩
  · rw [mF_ne (by decide), mF_at]
  · rw [mF_ne b, mF_ne a]; rfl
  · unfold mF kh kg; dsimp only; rw [va_up_ne _ _ hf]
  · unfold mF kh kg; dsimp only; rw [va_up_ne _ _ hf]
  · rw [e16, pt_at hi]
  · rw [e17, pt_at hi]
  · rw [e16, pt_out (by omega)]
  · rw [e17, pt_out (by omega)]
