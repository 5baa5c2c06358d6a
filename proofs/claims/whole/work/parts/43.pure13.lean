theorem mA_at {u : MS} {k i : Nat} {y : Int32} : (mA u k i y).2.1 k i = y := by unfold mA; dsimp only; rw [va_up_self, pk_us]
theorem mA_i {u : MS} {k i j : Nat} {y : Int32} (h : j ≠ i) : (mA u k i y).2.1 k j = u.2.1 k j := by unfold mA; dsimp only; rw [va_up_self, pk_un h]
theorem mA_k {u : MS} {k i f : Nat} {y : Int32} (h : f ≠ k) : (mA u k i y).2.1 f = u.2.1 f := by unfold mA; dsimp only; rw [va_up_ne _ _ h]
def mRow (z : MS) (r : Nat) (k w : Int32) : MS := mA (mA (mA (mA (mA z 2 r k) 3 r w) 4 r 0) 6 r 0) 5 r 0
theorem MA_row {z : MS} {x : XS} {T r k w : Nat} (hM : MA (core z) x) (hI : Inv T x) (hr : r < 8) (hk : xk x r = -1) : MA (core (mRow z r (nI k) (nI w))) (xRow x r (nI k) (nI w)) := by
  obtain ⟨m1, m2, m3, m4, m5, m6, m7, m8⟩ := hM
  have hnil := none_nil hI hr hk
  have hb : xb x r = [] := by
    rcases hI.2.1 r hr with ⟨-, h1, -⟩ | ⟨⟨j, hj, e⟩, -⟩
    · exact h1
    · rw [hk] at e
      exact absurd e.symm (ne_m1 (by omega))
  have hg : xg x r = 0 := by
    rcases hI.2.1 r hr with ⟨-, -, h1⟩ | ⟨⟨j, hj, e⟩, -⟩
    · exact h1
    · rw [hk] at e
      exact absurd e.symm (ne_m1 (by omega))
  have o : ∀ f, f ≠ 2 → f ≠ 3 → f ≠ 4 → f ≠ 5 → f ≠ 6 → (core (mRow z r (nI k) (nI w))).1 f = z.2.1 f := by
    intro f a b c d e
    show (mRow z r (nI k) (nI w)).2.1 f = _
    unfold mRow
    rw [mA_k d, mA_k e, mA_k c, mA_k b, mA_k a]
  have e2 : ∀ s, (core (mRow z r (nI k) (nI w))).1 2 s = if s = r then nI k else z.2.1 2 s := by
    intro s
    show (mRow z r (nI k) (nI w)).2.1 2 s = _
    unfold mRow
    rw [mA_k (by decide), mA_k (by decide), mA_k (by decide), mA_k (by decide)]
    by_cases h : s = r
    · subst h; rw [mA_at, if_pos rfl]
    · rw [mA_i h, if_neg h]
  have e3 : ∀ s, (core (mRow z r (nI k) (nI w))).1 3 s = if s = r then nI w else z.2.1 3 s := by
    intro s
    show (mRow z r (nI k) (nI w)).2.1 3 s = _
    unfold mRow
    rw [mA_k (by decide), mA_k (by decide), mA_k (by decide)]
    by_cases h : s = r
    · subst h; rw [mA_at, if_pos rfl]
    · rw [mA_i h, if_neg h, mA_k (by decide)]
  have e4 : ∀ s, (core (mRow z r (nI k) (nI w))).1 4 s = if s = r then 0 else z.2.1 4 s := by
    intro s
    show (mRow z r (nI k) (nI w)).2.1 4 s = _
    unfold mRow
    rw [mA_k (by decide), mA_k (by decide)]
    by_cases h : s = r
    · subst h; rw [mA_at, if_pos rfl]
    · rw [mA_i h, if_neg h, mA_k (by decide), mA_k (by decide)]
  have e6 : ∀ s, (core (mRow z r (nI k) (nI w))).1 6 s = if s = r then 0 else z.2.1 6 s := by
    intro s
    show (mRow z r (nI k) (nI w)).2.1 6 s = _
    unfold mRow
    rw [mA_k (by decide)]
    by_cases h : s = r
    · subst h; rw [mA_at, if_pos rfl]
    · rw [mA_i h, if_neg h, mA_k (by decide), mA_k (by decide), mA_k (by decide)]
  have e5 : ∀ s, (core (mRow z r (nI k) (nI w))).1 5 s = if s = r then 0 else z.2.1 5 s := by
    intro s
    show (mRow z r (nI k) (nI w)).2.1 5 s = _
    unfold mRow
    by_cases h : s = r
    · subst h; rw [mA_at, if_pos rfl]
    · rw [mA_i h, if_neg h, mA_k (by decide), mA_k (by decide), mA_k (by decide), mA_k (by decide)]
  refine ⟨fun s hs => ?_, fun s hs => ?_, fun s hs i hi => ?_, fun s hs h b hb2 d hd => ?_, fun s hs h => ?_, fun s hs h d hd => ?_, fun m hm => ?_, m8⟩
  · rw [e2, e3, e5]
    by_cases h : s = r
    · subst h
      rw [if_pos rfl, if_pos rfl, if_pos rfl]
      exact ⟨xRow_k.1.symm, xRow_k.2.symm, hg.symm⟩
    · rw [if_neg h, if_neg h, if_neg h, (xRow_n h).1, (xRow_n h).2]
      exact m1 s hs
  · rw [e4, xRow_sq]
    by_cases h : s = r
    · subst h; rw [if_pos rfl, hnil]; rfl
    · rw [if_neg h]; exact m2 s hs
  · rw [o 7 (by decide) (by decide) (by decide) (by decide) (by decide)]
    exact m3 s hs i hi
  · by_cases e : s = r
    · subst e
      have : b ∈ xb x s := hb2
      rw [hb] at this; exact absurd this List.not_mem_nil
    · rw [(xRow_n e).1] at h
      exact m4 s hs h b hb2 d hd
  · by_cases e : s = r
    · subst e
      refine ⟨?_, fun q hq => ?_⟩
      · rw [e6, if_pos rfl]
        show (0 : Int32) = nI (xb x s).length
        rw [hb]; rfl
      · have : q < (xb x s).length := hq
        rw [hb] at this; exact absurd this (Nat.not_lt_zero _)
    · rw [(xRow_n e).1] at h
      rw [e6, if_neg e, o 8 (by decide) (by decide) (by decide) (by decide) (by decide)]
      exact m5 s hs h
  · by_cases e : s = r
    · subst e
      rw [xRow_sq, hnil] at hd; exact absurd hd List.not_mem_nil
    · rw [(xRow_n e).1] at h
      rw [o 11 (by decide) (by decide) (by decide) (by decide) (by decide)]
      exact m6 s hs h d hd
  · rw [o 12 (by decide) (by decide) (by decide) (by decide) (by decide), o 13 (by decide) (by decide) (by decide) (by decide) (by decide), o 14 (by decide) (by decide) (by decide) (by decide) (by decide)]
    exact m7 m hm
