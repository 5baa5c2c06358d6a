/-! ===== undo ===== -/
theorem mF_at {v : MS} {k : Nat} {y : Int32} : (mF v k y).1 k = y := by unfold mF; dsimp only; rw [va_up_self]
theorem mF_ne {v : MS} {k j : Nat} {y : Int32} (h : j ≠ k) : (mF v k y).1 j = v.1 j := by unfold mF; dsimp only; rw [va_up_ne _ _ h]
theorem hI_at {u : HS} {k : Nat} {y : Int32} : (hI u k y).2.2.1 k = y := by unfold hI; dsimp only; rw [va_up_self]
theorem hI_ne {u : HS} {k j : Nat} {y : Int32} (h : j ≠ k) : (hI u k y).2.2.1 j = u.2.2.1 j := by unfold hI; dsimp only; rw [va_up_ne _ _ h]
theorem rem87 {E : Nat} (h : E < 8) : ((nI E + 8) - 1) - ((nI E + 8) - 1) / 8 * 8 = nI ((E + 7) % 8) := by
  rw [show (8 : Int32) = nI 8 from rfl, nI_add, show E + 8 = (E + 7) + 1 from rfl, nI_pred]
  exact pk_rem (by omega) (by omega) (by omega)
theorem exch_eq {u : HS} {i : Nat} (h : i < 9) : f_X3_exchangeWith (nI i) u = some (hX u i) := by
  unfold f_X3_exchangeWith
  rw [if_pos (ix_nI h (by omega)), nI_clamp (by omega)]
theorem h_undo {u : HS} {n N : Nat} (hn : 0 < n) (hn8 : n ≤ 8) (hN : N ≤ 8) (h4 : u.2.2.1 4 = nI n) (h3 : u.2.2.1 3 = nI N) : f_X3_undo u = some (nI (n - 1), hI (hI (hX u N) 3 (nI ((N + 8) % 9))) 4 (nI (n - 1))) := by
  unfold f_X3_undo
  have e3 : (hX u N).2.2.1 3 = nI N := h3
  have e4 : (hX u N).2.2.1 4 = nI n := h4
  have en : nI n - 1 = nI (n - 1) := by
    obtain ⟨k, rfl⟩ : ∃ k, n = k + 1 := ⟨n - 1, by omega⟩
    rw [nI_pred, Nat.add_sub_cancel]
  rw [h4, if_pos (show (0 : Int32) < nI n from nI_lt (a := 0) hn (by omega)), h3, exch_eq (by omega), Option.bind_some, e3]
  by_cases c : N = 0
  · subst c
    rw [if_pos (show nI 0 ≤ 0 by decide), hI_at, hI_ne (by decide), e4, en]
    rfl
  · have e : (N + 8) % 9 = N - 1 := by omega
    have eN : nI N - 1 = nI (N - 1) := by
      obtain ⟨k, rfl⟩ : ∃ k, N = k + 1 := ⟨N - 1, by omega⟩
      rw [nI_pred, Nat.add_sub_cancel]
    rw [if_neg (nI_nle (by omega) (by omega)), hI_at, hI_ne (by decide), e4, en, eN, e]
theorem st_undo : Sp_undo Rl := by
  intro u v hr
  obtain ⟨T, n, N, E, h1, h2, h3, h4, h5, h6, h7, h8, h9, h10, h11, h12⟩ := id hr
  by_cases hn : n = 0
  · subst hn
    refine ⟨(-4, u), (-4, mF v 0 0), ?_, ?_, rfl, Rl_th hr⟩
    · unfold f_X3_undo
      rw [h7, if_neg (by decide)]
    · unfold f_X4_undo
      rw [th_1 (by decide), h8, if_pos nI_0]
  · have b1 := h_undo (u := u) (by omega) h2 h3 h7 h9
    have en : nI n - 1 = nI (n - 1) := by
      obtain ⟨k, rfl⟩ : ∃ k, n = k + 1 := ⟨n - 1, by omega⟩
      rw [nI_pred, Nat.add_sub_cancel]
    obtain ⟨w, l1, l2, l3, l4, l5⟩ := load_ok (mF (mF (mF v 0 0) 18 (nI ((E + 7) % 8))) 19 (nI (n - 1))) ((E + 7) % 8) (by omega)
    have b2 : f_X4_undo v = some (w.1 19, w) := by
      unfold f_X4_undo
      have eY : (mF (mF v 0 0) 18 (nI ((E + 7) % 8))).1 19 = nI n := by rw [mF_ne (by decide), th_1 (by decide), h8]
      rw [show (mF v 0 0).1 19 = nI n from (th_1 (by decide)).trans h8, if_neg (nI_ne0 (by omega) (by omega)), show (mF v 0 0).1 18 = nI E from (th_1 (by decide)).trans h10, rem87 h4, eY, en, mF_ne (k := 19) (j := 18) (by decide), mF_at, l1, Option.bind_some]
    have w19 : w.1 19 = nI (n - 1) := by rw [l3 19 (by decide) (by decide), mF_at]
    have w18 : w.1 18 = nI ((E + 7) % 8) := by rw [l3 18 (by decide) (by decide), mF_ne (by decide), mF_at]
    have w1 : w.1 1 = nI T := by rw [l3 1 (by decide) (by decide), mF_ne (by decide), mF_ne (by decide), th_1 (by decide)]; exact h6
    have ws : ∀ k, slot w k = slot v k := by
      intro k
      unfold slot
      rw [l4, l5]
      rfl
    have hz := h12 0 (by omega)
    rw [show (N + 9 - 0) % 9 = N from by omega, show (E + 7 - 0) % 8 = (E + 7) % 8 from rfl] at hz
    refine ⟨_, _, b1, b2, w19.symm, T, n - 1, (N + 8) % 9, (E + 7) % 8, h1, by omega, by omega, by omega, ?_, w1, ?_, w19, ?_, w18, ?_, fun j hj => ?_⟩
    · rw [hI_ne (by decide), hI_ne (by decide)]; exact h5
    · rw [hI_at]
    · rw [hI_ne (by decide), hI_at]
    · exact ST_CQ l2 hz
    · rw [ws]
      have := h12 (j + 1) (by omega)
      have e1 : ((N + 8) % 9 + 9 - j) % 9 = (N + 9 - (j + 1)) % 9 := by omega
      have e2 : ((E + 7) % 8 + 7 - j) % 8 = (E + 7 - (j + 1)) % 8 := by omega
      rw [e1, e2]
      have e3 : (hI (hI (hX u N) 3 (nI ((N + 8) % 9))) 4 (nI (n - 1))).2.2.2.2.2 ((N + 9 - (j + 1)) % 9) = u.2.2.2.2.2 ((N + 9 - (j + 1)) % 9) := by
        unfold hI hX
        dsimp only
        rw [va_up_ne _ _ (by omega)]
      rw [e3]
      exact this
