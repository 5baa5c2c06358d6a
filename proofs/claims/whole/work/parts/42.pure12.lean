/-! ===== row ===== -/
def xRow (x : XS) (r : Nat) (k w : Int32) : XS := (va_up (xk x) r k, va_up (xw x) r w, x.2.2)
theorem xRow_sq {x : XS} {r s : Nat} {k w : Int32} : sq (xRow x r k w) s = sq x s := rfl
theorem xRow_off {x : XS} {r : Nat} {k w : Int32} : ∀ s, off (xRow x r k w) s = off x s
  | 0 => rfl
  | s + 1 => by rw [off, off, xRow_off s]; rfl
theorem sA_at {u : SS} {k i : Nat} {y : Int32} : (sA u k i y).2.2.1 k i = y := by unfold sA; dsimp only; rw [va_up_self, pk_us]
theorem sA_i {u : SS} {k i j : Nat} {y : Int32} (h : j ≠ i) : (sA u k i y).2.2.1 k j = u.2.2.1 k j := by unfold sA; dsimp only; rw [va_up_self, pk_un h]
theorem sA_k {u : SS} {k i f : Nat} {y : Int32} (h : f ≠ k) : (sA u k i y).2.2.1 f = u.2.2.1 f := by unfold sA; dsimp only; rw [va_up_ne _ _ h]
theorem xRow_k {x : XS} {r : Nat} {k w : Int32} : xk (xRow x r k w) r = k ∧ xw (xRow x r k w) r = w := ⟨va_up_self _ _ _, va_up_self _ _ _⟩
theorem xRow_n {x : XS} {r s : Nat} {k w : Int32} (h : s ≠ r) : xk (xRow x r k w) s = xk x s ∧ xw (xRow x r k w) s = xw x s := ⟨va_up_ne _ _ h, va_up_ne _ _ h⟩
section ROW
variable {x : XS} {T r k w : Nat}
theorem CA_row {a : SS} (hC : CA a x) (hI : Inv T x) (hr : r < 8) (hk : xk x r = -1) : CA (sA (sA a 2 r (nI k)) 3 r (nI w)) (xRow x r (nI k) (nI w)) := by
  obtain ⟨c1, c2, c3, c4, c5, c6, c7, c8, c9⟩ := hC
  refine ⟨fun s hs => ?_, fun s hs => by rw [xRow_off]; exact c2 s hs, fun s hs i hi => by rw [xRow_off]; exact c3 s hs i hi, c4, c5, c6, fun s hs h2 d hd => ?_, c8, c9⟩
  · obtain ⟨d1, d2, d3⟩ := c1 s hs
    by_cases e : s = r
    · subst e
      exact ⟨by rw [sA_k (by decide), sA_at, xRow_k.1], by rw [sA_at, xRow_k.2], by rw [sA_k (by decide), sA_k (by decide)]; exact d3⟩
    · exact ⟨by rw [sA_k (by decide), sA_i e, (xRow_n e).1]; exact d1, by rw [sA_i e, sA_k (by decide), (xRow_n e).2]; exact d2, by rw [sA_k (by decide), sA_k (by decide)]; exact d3⟩
  · by_cases e : s = r
    · subst e
      rw [xRow_sq, none_nil hI hs hk] at hd
      exact absurd hd List.not_mem_nil
    · have h3 : 2 ≤ va_up (xk x) r (nI k) s := h2
      rw [va_up_ne _ _ e] at h3
      rw [sA_k (by decide), sA_k (by decide)]
      exact c7 s hs h3 d hd
theorem Inv_row (hI : Inv T x) (hN : Nest x) (hr : r < 8) (hk : xk x r = -1) (hk4 : k < 4) (hw : 4 ≤ w) (hw2 : w ≤ 40) : Inv T (xRow x r (nI k) (nI w)) ∧ Nest (xRow x r (nI k) (nI w)) := by
  have hne : ∀ s, s ≠ r → xk (xRow x r (nI k) (nI w)) s = xk x s := fun s e => va_up_ne _ _ e
  have hnw : ∀ s, s ≠ r → xw (xRow x r (nI k) (nI w)) s = xw x s := fun s e => va_up_ne _ _ e
  have hrk : xk (xRow x r (nI k) (nI w)) r = nI k := va_up_self _ _ _
  have hrw : xw (xRow x r (nI k) (nI w)) r = nI w := va_up_self _ _ _
  have hnil := none_nil hI hr hk
  have hb : xb x r = [] := by
    rcases hI.2.1 r hr with ⟨-, h1, -⟩ | ⟨⟨j, hj, e⟩, -⟩
    · exact h1
    · rw [hk] at e
      exact absurd e.symm (ne_m1 (by omega))
  obtain ⟨a1, a2, a3, a4, a5, a6, a7⟩ := hI
  refine ⟨⟨a1, fun s hs => ?_, a3, a4, a5, fun s hs h d hd => ?_, fun m hm => ?_⟩, fun s hs h => ?_⟩
  · by_cases e : s = r
    · subst e
      refine Or.inr ⟨⟨k, hk4, hrk⟩, w, hw, hw2, hrw, ?_, ?_, ?_, ?_⟩
      · show (xb x s).Pairwise _; rw [hb]; exact List.Pairwise.nil
      · show ∀ b ∈ xb x s, _; rw [hb]; exact fun b h => absurd h List.not_mem_nil
      · intro _; show ∀ b ∈ xb x s, _; rw [hb]; exact fun b h => absurd h List.not_mem_nil
      · intro _; show ∀ b ∈ xb x s, _; rw [hb]; exact fun b h => absurd h List.not_mem_nil
    · have h0 := a2 s hs
      unfold RowOk at h0 ⊢
      rw [hne s e, hnw s e]
      exact h0
  · by_cases e : s = r
    · subst e
      rw [xRow_sq, hnil] at hd
      exact absurd hd List.not_mem_nil
    · rw [hne s e] at h
      exact a6 s hs h d hd
  · rcases a7 m hm with q | ⟨⟨s, hs, q1, q2, q3⟩, q4⟩
    · exact Or.inl q
    · have e : s ≠ r := fun e => q2 (e ▸ hk)
      exact Or.inr ⟨⟨s, hs, q1, by rw [hne s e]; exact q2, q3⟩, q4⟩
  · by_cases e : s = r
    · subst e
      rw [xRow_sq, hnil]
      rfl
    · rw [hne s e] at h
      exact hN s hs h
end ROW
