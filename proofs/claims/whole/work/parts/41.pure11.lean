/-! ===== a change that is made: the relation behind it ===== -/
theorem Rl_change {u ue : HS} {v v' : MS} {T T' n N E : Nat} (hn : n ≤ 8) (hN : N ≤ 8) (hE : E < 8) (hT : T ≤ T') (hT' : T' ≤ 300) (h11 : ST T u.2.2.2.2.1 (core v)) (h12 : ∀ j, j < n → ST T (u.2.2.2.2.2 ((N + 9 - j) % 9)) (slot v ((E + 7 - j) % 8)))
    (c5 : ue.2.2.1 5 = nI T') (c4 : ue.2.2.1 4 = nI (if n < 8 then n + 1 else 8)) (c3 : ue.2.2.1 3 = nI ((N + 1) % 9)) (ck : ue.2.2.2.2.2 = va_up u.2.2.2.2.2 ((N + 1) % 9) u.2.2.2.2.1)
    (m1 : v'.1 1 = nI T') (m18 : v'.1 18 = nI ((E + 1) % 8)) (m19 : v'.1 19 = nI (if n < 8 then n + 1 else 8)) (ms : CQ (slot v' E) (core v)) (mo : ∀ k, k < 8 → k ≠ E → CQ (slot v' k) (slot v k)) (hnew : ST T' ue.2.2.2.2.1 (core v')) : Rl ue v' := by
  have hn1 : (if n < 8 then n + 1 else 8) ≤ 8 ∧ (if n < 8 then n + 1 else 8) ≤ n + 1 := by
    by_cases c : n < 8
    · rw [if_pos c]; omega
    · rw [if_neg c]; omega
  refine ⟨T', _, (N + 1) % 9, (E + 1) % 8, hT', hn1.1, by omega, by omega, c5, m1, c4, m19, c3, m18, hnew, fun j hj => ?_⟩
  rw [ck]
  by_cases h0 : j = 0
  · subst h0
    rw [show ((N + 1) % 9 + 9 - 0) % 9 = (N + 1) % 9 from by omega, show ((E + 1) % 8 + 7 - 0) % 8 = E from by omega, va_up_self]
    exact ST_mono hT hT' (ST_CQ ms h11)
  · have e1 : ((N + 1) % 9 + 9 - j) % 9 = (N + 9 - (j - 1)) % 9 := by omega
    have e2 : ((E + 1) % 8 + 7 - j) % 8 = (E + 7 - (j - 1)) % 8 := by omega
    rw [e1, e2, va_up_ne _ _ (by omega)]
    exact ST_mono hT hT' (ST_CQ (mo _ (by omega) (by omega)) (h12 (j - 1) (by omega)))
/-- save into slot 8 -/
theorem save8 (v : MS) : ∃ v', f_X4_save 8 v = some v' ∧ FR v v' ∧ CQ (slot v' 8) (core v) ∧ ∀ k, k < 8 → CQ (slot v' k) (slot v k) := by
  obtain ⟨v', a1, a2, a3, a4, a5⟩ := save_ok v 8 (by omega)
  refine ⟨v', a1, a2, a5, fun k hk => slot_CQ (fun i hi => a3 _ (by omega)) (fun i hi => a4 _ (by omega))⟩
theorem FR_core {v v' : MS} (h : FR v v') : CQ (core v') (core v) := by
  obtain ⟨h1, h2, h3⟩ := h
  unfold core CQ
  dsimp only
  exact ⟨fun i _ => by rw [h2 2 (by decide)], fun i _ => by rw [h2 3 (by decide)], fun i _ => by rw [h2 4 (by decide)], fun i _ => by rw [h2 5 (by decide)], fun i _ => by rw [h2 6 (by decide)], fun i _ => by rw [h2 7 (by decide)], fun i _ => by rw [h2 8 (by decide)], fun i _ => by rw [h2 11 (by decide)], fun i _ => by rw [h2 12 (by decide)], fun i _ => by rw [h2 13 (by decide)], fun i _ => by rw [h2 14 (by decide)], fun i _ => by rw [h3 9 (by decide)], fun i _ => by rw [h3 10 (by decide)], h1 15 (by decide)⟩
/-- save and keep: the state before lies in the newest slot -/
theorem save_keep {v : MS} {E n : Nat} (hE : E < 8) (hn : n ≤ 8) (h18 : v.1 18 = nI E) (h19 : v.1 19 = nI n) : ∃ v1 v2, f_X4_save 8 v = some v1 ∧ f_X4_keep v1 = some v2 ∧ v2.1 18 = nI ((E + 1) % 8) ∧ v2.1 19 = nI (if n < 8 then n + 1 else 8) ∧ (∀ j, j ≠ 18 → j ≠ 19 → j ≠ 20 → v2.1 j = v.1 j) ∧ (∀ f, f ≠ 16 → v2.2.1 f = v.2.1 f) ∧ (∀ f, f ≠ 17 → v2.2.2 f = v.2.2 f) ∧ CQ (slot v2 E) (core v) ∧ ∀ k, k < 8 → k ≠ E → CQ (slot v2 k) (slot v k) := by
  obtain ⟨v1, a1, ⟨f1, f2, f3⟩, a3, a4⟩ := save8 v
  obtain ⟨v2, b1, b2, b3, b4, b5, b6, b7, b8⟩ := keep_ok (v := v1) hE hn (by rw [f1 18 (by decide)]; exact h18) (by rw [f1 19 (by decide)]; exact h19)
  exact ⟨v1, v2, a1, b1, b2, b3, fun j j1 j2 j3 => by rw [b4 j j1 j2, f1 j j3], fun f hf => by rw [b5 f hf, f2 f hf], fun f hf => by rw [b6 f hf, f3 f hf], b7.trans a3, fun k hk hk2 => (b8 k hk hk2).trans (a4 k hk)⟩
