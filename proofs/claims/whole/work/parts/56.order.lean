/-! ===== the class: its Order ===== -/
theorem sA_1 {u : SS} {k i : Nat} {y : Int32} : (sA u k i y).1 = u.1 := rfl
theorem sA_21 {u : SS} {k i : Nat} {y : Int32} : (sA u k i y).2.1 = u.2.1 := rfl
theorem sA_222 {u : SS} {k i : Nat} {y : Int32} : (sA u k i y).2.2.2 = u.2.2.2 := rfl
theorem sL_1 {u : SS} {i : Nat} {y : Int64} : (sL u i y).1 = u.1 := rfl
theorem sL_21 {u : SS} {i : Nat} {y : Int64} : (sL u i y).2.1 = u.2.1 := rfl
theorem sL_221 {u : SS} {i : Nat} {y : Int64} : (sL u i y).2.2.1 = u.2.2.1 := rfl
theorem sL_at {u : SS} {i : Nat} {y : Int64} : (sL u i y).2.2.2.1 i = y := pk_uLs
theorem sL_i {u : SS} {i j : Nat} {y : Int64} (h : j ≠ i) : (sL u i y).2.2.2.1 j = u.2.2.2.1 j := pk_uLn h
theorem sL_2222 {u : SS} {i : Nat} {y : Int64} : (sL u i y).2.2.2.2 = u.2.2.2.2 := rfl
theorem sR_1 {u : SS} {y : Int32} : (sR u y).1 = u.1 := rfl
theorem sR_21 {u : SS} {y : Int32} : (sR u y).2.1 = u.2.1 := rfl
theorem sR_221 {u : SS} {y : Int32} : (sR u y).2.2.1 = u.2.2.1 := rfl
theorem sR_2221 {u : SS} {y : Int32} : (sR u y).2.2.2.1 = u.2.2.2.1 := rfl
theorem sR_2222 {u : SS} {y : Int32} : (sR u y).2.2.2.2 = y := rfl
theorem oA_at {o : OS} {k i : Nat} {y : Int32} : oA o k i y k i = y := by unfold oA; rw [va_up_self, pk_us]
theorem oA_i {o : OS} {k i j : Nat} {y : Int32} (h : j ≠ i) : oA o k i y k j = o k j := by unfold oA; rw [va_up_self, pk_un h]
theorem oA_k {o : OS} {k i f : Nat} {y : Int32} (h : f ≠ k) : oA o k i y f = o f := by unfold oA; rw [va_up_ne _ _ h]
theorem acp_nI {a b n n0 n1 : Nat} (h1 : a + n ≤ n0) (h2 : b + n ≤ n1) (h3 : n0 < 2 ^ 31) (h4 : n1 < 2 ^ 31) : acp (nI a) (nI b) (nI n) n0 n1 = true := by
  unfold acp
  rw [nI_clamp (by omega), nI_clamp (by omega), nI_clamp (by omega)]
  simp [nI_pos (n := a) (by omega), nI_pos (n := b) (by omega), nI_pos (n := n) (by omega), h1, h2]
def ofS (S : Nat → List Nat) : Nat → Nat
  | 0 => 0
  | r + 1 => ofS S r + (S r).length
theorem off_ofS (x : XS) : ∀ r, off x r = ofS (sq x) r
  | 0 => rfl
  | r + 1 => by rw [off, ofS, off_ofS x r]
/-- rows S in the Order -/
def OR (o : OS) (S : Nat → List Nat) : Prop := (∀ r, r ≤ 8 → o 2 r = nI (ofS S r)) ∧ (∀ r, r < 8 → ∀ i, i < (S r).length → o 1 (ofS S r + i) = nI ((S r).getD i 0)) ∧ (∀ r, r < 8 → ∀ d ∈ S r, o 3 (d / 2) = nI r) ∧ (∀ t, t < 300 → (∀ r, r < 8 → ∀ d ∈ S r, d / 2 ≠ t) → o 3 t = -1)
theorem CA_iff {a : SS} {x : XS} : CA a x ↔ (∀ r, r < 8 → a.2.2.1 2 r = xk x r ∧ a.2.2.1 3 r = xw x r ∧ a.2.2.1 4 r = xg x r) ∧ OR a.1 (sq x) ∧ (∀ r, r < 8 → ∀ b ∈ xb x r, ∀ d ∈ b.2, a.2.2.2.1 d = lN b.1) ∧ (∀ r, r < 8 → 2 ≤ xk x r → ∀ d ∈ sq x r, a.2.2.1 6 d = nI (xi x d)) ∧ (∀ m, m < 20 → a.2.1 1 m = xm x 1 m ∧ a.2.1 2 m = xm x 2 m ∧ a.2.1 3 m = xm x 3 m) ∧ a.2.2.2.2 = xr x := by
  unfold CA OR
  simp only [off_ofS]
  constructor
  · rintro ⟨c1, c2, c3, c4, c5, c6, c7, c8, c9⟩
    exact ⟨c1, ⟨c2, c3, c4, c5⟩, c6, c7, c8, c9⟩
  · rintro ⟨c1, ⟨c2, c3, c4, c5⟩, c6, c7, c8, c9⟩
    exact ⟨c1, c2, c3, c4, c5, c6, c7, c8, c9⟩
theorem ofS_mono {S : Nat → List Nat} : ∀ {r s : Nat}, r ≤ s → ofS S r ≤ ofS S s := by
  intro r s h
  induction s with
  | zero => have : r = 0 := by omega
            subst this; exact Nat.le_refl _
  | succ s ih =>
    by_cases e : r = s + 1
    · subst e; exact Nat.le_refl _
    · have := ih (by omega)
      show ofS S r ≤ ofS S s + (S s).length
      omega
theorem ofS_up {S : Nat → List Nat} {r : Nat} {l : List Nat} : ∀ s, (s ≤ r → ofS (va_up S r l) s = ofS S s) ∧ (r < s → ofS (va_up S r l) s + (S r).length = ofS S s + l.length)
  | 0 => ⟨fun _ => rfl, fun h => absurd h (Nat.not_lt_zero _)⟩
  | s + 1 => by
    obtain ⟨h1, h2⟩ := ofS_up (S := S) (r := r) (l := l) s
    constructor
    · intro h
      rw [ofS, ofS, h1 (by omega), va_up_ne _ _ (by omega)]
    · intro h
      rw [ofS, ofS]
      by_cases e : s = r
      · subst e
        rw [h1 (Nat.le_refl _), va_up_self]
        omega
      · have := h2 (by omega)
        rw [va_up_ne _ _ e]
        omega
section ORD
variable {o : OS} {S : Nat → List Nat} {r : Nat}
theorem o_first (h : OR o S) (hr : r < 8) : f_X1_first (nI r) o = some (nI (ofS S r)) := by
  unfold f_X1_first
  rw [if_neg (nI_pos (by omega)), if_neg (show ¬ (8 : Int32) ≤ nI r from nI_ge (b := 8) hr (by omega)), if_pos (ix_nI (by omega) (by omega)), nI_clamp (by omega), h.1 r (by omega)]
theorem o_end (h : OR o S) (hr : r < 8) : f_X1_end (nI r) o = some (nI (ofS S r + (S r).length)) := by
  unfold f_X1_end
  rw [if_neg (nI_pos (by omega)), if_neg (show ¬ (8 : Int32) ≤ nI r from nI_ge (b := 8) hr (by omega)), nI_1, if_pos (ix_nI (by omega) (by omega)), nI_clamp (by omega), h.1 (r + 1) (by omega)]
  rfl
theorem o_length (h : OR o S) (hr : r < 8) : f_X1_length (nI r) o = some (nI (S r).length) := by
  unfold f_X1_length
  rw [o_end h hr, Option.bind_some, o_first h hr, Option.bind_some, pk_sub (by omega), Nat.add_sub_cancel_left]
theorem o_le (hr : r < 8) : ofS S r + (S r).length ≤ ofS S 8 := ofS_mono (show r + 1 ≤ 8 by omega)
theorem o_standAt (h : OR o S) (h8 : ofS S 8 ≤ 600) (hr : r < 8) {i : Nat} (hi : i < (S r).length) : f_X1_standAt (nI (ofS S r + i)) o = some (nI ((S r).getD i 0)) := by
  have := o_le (S := S) hr
  unfold f_X1_standAt
  rw [if_neg (nI_pos (by omega)), if_neg (show ¬ (600 : Int32) ≤ nI (ofS S r + i) from nI_ge (b := 600) (by omega) (by omega)), if_pos (ix_nI (by omega) (by omega)), nI_clamp (by omega), h.2.1 r hr i hi]
theorem o_insert (h : OR o S) (h8 : ofS S 8 < 600) (hr : r < 8) {p d : Nat} (hp : p ≤ (S r).length) (hd : d < 600) (hx : ∀ s, s < 8 → s ≠ r → ∀ e ∈ S s, e / 2 ≠ d / 2) : ∃ o', f_X1_insert (nI r) (nI (ofS S r + p)) (nI d) o = some o' ∧ OR o' (va_up S r (ins (S r) p d)) := by
  have hle := o_le (S := S) hr
  have e8 : o 2 8 = nI (ofS S 8) := h.1 8 (Nat.le_refl _)
  have hth : f_X3_thingOf (nI d) = some (nI (d / 2)) := by unfold f_X3_thingOf; rw [shr1 (by omega)]
  have g : f_X1_insert (nI r) (nI (ofS S r + p)) (nI d) o = f_X1_insert_77 NF (nI (r + 1)) (oA (oA (va_up o 1 (va_cpy (o 1) (o 1) (ofS S r + p) (ofS S r + p + 1) (ofS S 8 - (ofS S r + p)))) 1 (ofS S r + p) (nI d)) 3 (d / 2) (nI r)) := by
    unfold f_X1_insert
    have c8 : Int32.toNatClampNeg 8 = 8 := rfl
    rw [if_pos (by decide), c8, e8, if_neg (show ¬ (600 : Int32) ≤ nI (ofS S 8) from nI_ge (b := 600) (by omega) (by omega)), o_first h hr, Option.bind_some, if_neg (nI_nlt (by omega) (by omega)), o_end h hr, Option.bind_some, if_pos (nI_le (by omega) (by omega)), nI_1, pk_sub (by omega), if_pos (acp_nI (by omega) (by omega) (by omega) (by omega)), if_pos (ix_nI (by omega) (by omega)), hth, Option.bind_some, if_pos (ix_nI (by omega) (by omega)), nI_1, nI_clamp (by omega), nI_clamp (by omega), nI_clamp (by omega), nI_clamp (by omega)]
  have key : ∀ (o1 : OS), (∀ s, s ≤ 8 → o1 2 s = nI (ofS S s)) → f_X1_insert_77 NF (nI (r + 1)) o1 = some (va_up o1 2 (pt (o1 2) (fun i => nI (ofS S (r + 1 + i) + 1)) (r + 1) (8 - r))) := by
    intro o1 h1
    have e0 : o1 = va_up o1 2 (pt (o1 2) (fun i => nI (ofS S (r + 1 + i) + 1)) (r + 1) (r + 1 - (r + 1))) := by rw [Nat.sub_self, pt_0, up_id rfl]
    refine Eq.trans (congrArg (f_X1_insert_77 NF (nI (r + 1))) e0) ?_
    refine loopE (fun m i => f_X1_insert_77 m (nI i) (va_up o1 2 (pt (o1 2) (fun i => nI (ofS S (r + 1 + i) + 1)) (r + 1) (i - (r + 1))))) (a := r + 1) (b := 9) (by omega) (NF_lt (by omega)) (fun m i h2 h3 => ?_) (fun m => ?_)
    · have hs := pt_s (o1 2) (fun i => nI (ofS S (r + 1 + i) + 1)) (r + 1) (i - (r + 1))
      rw [show r + 1 + (i - (r + 1)) = i from by omega] at hs
      have hv : pt (o1 2) (fun i => nI (ofS S (r + 1 + i) + 1)) (r + 1) (i - (r + 1)) i = nI (ofS S i) := by rw [pt_out (by omega), h1 i (by omega)]
      rw [f_X1_insert_77, if_neg (show ¬ (8 : Int32) < nI i from nI_nlt (b := i) (a := 8) (by omega) (by omega)), if_pos (ix_nI (by omega) (by omega)), if_pos (ix_nI (by omega) (by omega)), nI_clamp (by omega), va_up_self, hv, nI_1, nI_1]
      unfold oA
      rw [va_up_self, up_up, hs, show i - (r + 1) + 1 = i + 1 - (r + 1) from by omega]
    · rw [f_X1_insert_77, if_pos (show (8 : Int32) < nI 9 by decide), show 9 - (r + 1) = 8 - r from by omega]
  rw [g, key _ (fun s hs => by rw [oA_k (by decide), oA_k (by decide), va_up_ne _ _ (by decide)]; exact h.1 s hs)]
  refine ⟨_, rfl, fun s hs => ?_, fun s hs i hi => ?_, fun s hs e he => ?_, fun t ht hno => ?_⟩
  · rw [va_up_self]
    by_cases q : s ≤ r
    · rw [pt_out (by omega), oA_k (by decide), oA_k (by decide), va_up_ne _ _ (by decide), h.1 s hs, (ofS_up s).1 q]
    · have := (ofS_up (S := S) (r := r) (l := ins (S r) p d) s).2 (by omega)
      rw [ins_len hp] at this
      rw [pt_in (by omega) (by omega), show r + 1 + (s - (r + 1)) = s from by omega]
      congr 1
      omega
  · have e1 : ∀ j, (va_up (oA (oA (va_up o 1 (va_cpy (o 1) (o 1) (ofS S r + p) (ofS S r + p + 1) (ofS S 8 - (ofS S r + p)))) 1 (ofS S r + p) (nI d)) 3 (d / 2) (nI r)) 2 (pt (oA (oA (va_up o 1 (va_cpy (o 1) (o 1) (ofS S r + p) (ofS S r + p + 1) (ofS S 8 - (ofS S r + p)))) 1 (ofS S r + p) (nI d)) 3 (d / 2) (nI r) 2) (fun i => nI (ofS S (r + 1 + i) + 1)) (r + 1) (8 - r))) 1 j = if j = ofS S r + p then nI d else if ofS S r + p + 1 ≤ j ∧ j < ofS S r + p + 1 + (ofS S 8 - (ofS S r + p)) then o 1 (j - 1) else o 1 j := by
      intro j
      rw [va_up_ne _ _ (by decide), oA_k (by decide)]
      by_cases q : j = ofS S r + p
      · subst q; rw [oA_at, if_pos rfl]
      · rw [oA_i q, va_up_self, if_neg q]
        by_cases q2 : ofS S r + p + 1 ≤ j ∧ j < ofS S r + p + 1 + (ofS S 8 - (ofS S r + p))
        · rw [if_pos q2, pk_cpy_in q2.1 q2.2]
          congr 1
          omega
        · rw [if_neg q2, pk_cpy_out (by omega)]
    have hle2 := o_le (S := S) hs
    rw [e1]
    rcases Nat.lt_trichotomy s r with q | q | q
    · rw [va_up_ne _ _ (by omega)] at hi ⊢
      have := ofS_mono (S := S) (show s + 1 ≤ r by omega)
      have e3 : ofS S (s + 1) = ofS S s + (S s).length := rfl
      rw [(ofS_up s).1 (by omega), if_neg (by omega), if_neg (by omega), h.2.1 s hs i hi]
    · subst q
      rw [va_up_self] at hi ⊢
      rw [ins_len hp] at hi
      rw [(ofS_up s).1 (Nat.le_refl _)]
      rcases Nat.lt_trichotomy i p with z | z | z
      · rw [if_neg (by omega), if_neg (by omega), ins_lt hp z, h.2.1 s hs i (by omega)]
      · subst z; rw [if_pos rfl, ins_at hp]
      · rw [if_neg (by omega), if_pos (by omega), ins_gt hp z, show ofS S s + i - 1 = ofS S s + (i - 1) from by omega, h.2.1 s hs (i - 1) (by omega)]
    · rw [va_up_ne _ _ (by omega)] at hi ⊢
      have h3 := (ofS_up (S := S) (r := r) (l := ins (S r) p d) s).2 q
      rw [ins_len hp] at h3
      have := ofS_mono (S := S) (show r + 1 ≤ s by omega)
      have e3 : ofS S (r + 1) = ofS S r + (S r).length := rfl
      rw [if_neg (by omega), if_pos (by omega), show ofS (va_up S r (ins (S r) p d)) s + i - 1 = ofS S s + i from by omega, h.2.1 s hs i hi]
  · rw [va_up_ne _ _ (by decide)]
    by_cases q : s = r
    · subst q
      rw [va_up_self] at he
      by_cases z : e / 2 = d / 2
      · rw [z, oA_at]
      · rw [oA_i z, oA_k (by decide), va_up_ne _ _ (by decide)]
        rcases ins_mem.mp he with w | w
        · exact absurd (by rw [w]) z
        · exact h.2.2.1 s hs e w
    · rw [va_up_ne _ _ q] at he
      rw [oA_i (hx s hs q e he), oA_k (by decide), va_up_ne _ _ (by decide)]
      exact h.2.2.1 s hs e he
  · rw [va_up_ne _ _ (by decide)]
    have z : t ≠ d / 2 := by
      intro z
      refine hno r hr d ?_ z.symm
      rw [va_up_self]
      exact ins_mem.mpr (Or.inl rfl)
    rw [oA_i z, oA_k (by decide), va_up_ne _ _ (by decide)]
    refine h.2.2.2 t ht (fun s hs e he => ?_)
    by_cases q : s = r
    · subst q
      exact hno s hs e (by rw [va_up_self]; exact ins_mem.mpr (Or.inr he))
    · exact hno s hs e (by rw [va_up_ne _ _ q]; exact he)
/-- from f to u taken out -/
def cut (l : List Nat) (f u : Nat) : List Nat := l.take f ++ l.drop u
theorem cut_len {l : List Nat} {f u : Nat} (h : f ≤ u) (hu : u ≤ l.length) : (cut l f u).length = l.length - (u - f) := by
  unfold cut
  rw [List.length_append, List.length_take, List.length_drop]
  omega
theorem cut_lt {l : List Nat} {f u i : Nat} (h : f ≤ u) (hu : u ≤ l.length) (hi : i < f) : (cut l f u).getD i 0 = l.getD i 0 := by
  unfold cut
  rw [List.getD_eq_getElem?_getD, List.getD_eq_getElem?_getD, List.getElem?_append_left (by rw [List.length_take]; omega), List.getElem?_take_of_lt hi]
theorem cut_ge {l : List Nat} {f u i : Nat} (h : f ≤ u) (hu : u ≤ l.length) (hi : f ≤ i) : (cut l f u).getD i 0 = l.getD (i + (u - f)) 0 := by
  unfold cut
  rw [List.getD_eq_getElem?_getD, List.getD_eq_getElem?_getD, List.getElem?_append_right (by rw [List.length_take]; omega), List.length_take, List.getElem?_drop]
  congr 2
  omega
theorem o_remove (h : OR o S) (h8 : ofS S 8 ≤ 600) (hr : r < 8) {f u : Nat} (hf : f ≤ u) (hu : u ≤ (S r).length) (hd : ∀ e ∈ S r, e < 600) (hx : ∀ i, f ≤ i → i < u → ∀ s, s < 8 → ∀ e ∈ va_up S r (cut (S r) f u) s, e / 2 ≠ (S r).getD i 0 / 2) : ∃ o', f_X1_remove (nI r) (nI (ofS S r + f)) (nI (ofS S r + u)) o = some o' ∧ OR o' (va_up S r (cut (S r) f u)) := by
  have hle := o_le (S := S) hr
  have e8 : o 2 8 = nI (ofS S 8) := h.1 8 (Nat.le_refl _)
  -- the things that go
  have g0 : f_X1_remove (nI r) (nI (ofS S r + f)) (nI (ofS S r + u)) o = f_X1_remove_27 NF (nI r) (nI (ofS S r + f)) (nI (ofS S r + u)) (nI (ofS S r + f)) o := by
    unfold f_X1_remove
    rw [o_first h hr, Option.bind_some, if_neg (nI_nlt (by omega) (by omega)), if_neg (nI_nlt (by omega) (by omega)), o_end h hr, Option.bind_some, if_pos (nI_le (by omega) (by omega))]
  have g1 : ∃ o1 m, f_X1_remove_27 NF (nI r) (nI (ofS S r + f)) (nI (ofS S r + u)) (nI (ofS S r + f)) o = f_X1_remove_27 (m + 1) (nI r) (nI (ofS S r + f)) (nI (ofS S r + u)) (nI (ofS S r + u)) o1 ∧ o1 1 = o 1 ∧ o1 2 = o 2 ∧ ∀ t, ((∃ i, f ≤ i ∧ i < u ∧ (S r).getD i 0 / 2 = t) → o1 3 t = -1) ∧ (¬ (∃ i, f ≤ i ∧ i < u ∧ (S r).getD i 0 / 2 = t) → o1 3 t = o 3 t) := by
    obtain ⟨m, hm⟩ : ∃ m, NF = m + 1 + (u - f) := ⟨19999 - (u - f), by rw [NF_eq]; omega⟩
    rw [hm]
    have key : ∀ k, k ≤ u - f → ∃ o1, f_X1_remove_27 (m + 1 + (u - f)) (nI r) (nI (ofS S r + f)) (nI (ofS S r + u)) (nI (ofS S r + f)) o = f_X1_remove_27 (m + 1 + (u - f - k)) (nI r) (nI (ofS S r + f)) (nI (ofS S r + u)) (nI (ofS S r + f + k)) o1 ∧ o1 1 = o 1 ∧ o1 2 = o 2 ∧ ∀ t, ((∃ i, f ≤ i ∧ i < f + k ∧ (S r).getD i 0 / 2 = t) → o1 3 t = -1) ∧ (¬ (∃ i, f ≤ i ∧ i < f + k ∧ (S r).getD i 0 / 2 = t) → o1 3 t = o 3 t) := by
      intro k
      induction k with
      | zero => exact fun _ => ⟨o, rfl, rfl, rfl, fun t => ⟨fun ⟨i, h1, h2, _⟩ => absurd h2 (by omega), fun _ => rfl⟩⟩
      | succ k ih =>
        intro hk
        obtain ⟨o1, e1, e2, e3, e4⟩ := ih (by omega)
        have hi : f + k < (S r).length := by omega
        have hde := hd _ (getD_mem hi)
        have hth : f_X3_thingOf (nI ((S r).getD (f + k) 0)) = some (nI ((S r).getD (f + k) 0 / 2)) := by unfold f_X3_thingOf; rw [shr1 (by omega)]
        have hl : o 1 (ofS S r + f + k) = nI ((S r).getD (f + k) 0) := by rw [Nat.add_assoc]; exact h.2.1 r hr (f + k) hi
        refine ⟨oA o1 3 ((S r).getD (f + k) 0 / 2) (-1), ?_, by rw [oA_k (by decide), e2], by rw [oA_k (by decide), e3], fun t => ?_⟩
        · rw [e1, show m + 1 + (u - f - k) = (m + 1 + (u - f - (k + 1))) + 1 from by omega, f_X1_remove_27, if_neg (nI_ge (by omega) (by omega)), if_pos (ix_nI (by omega) (by omega)), nI_clamp (by omega), e2, hl, hth, Option.bind_some, if_pos (ix_nI (by omega) (by omega)), nI_clamp (by omega), nI_1]
          rfl
        · by_cases z : t = (S r).getD (f + k) 0 / 2
          · subst z
            exact ⟨fun _ => oA_at, fun w => absurd ⟨f + k, by omega, by omega, rfl⟩ w⟩
          · rw [oA_i z]
            refine ⟨fun w => ?_, fun w => (e4 t).2 (fun ⟨i, w1, w2, w3⟩ => w ⟨i, w1, by omega, w3⟩)⟩
            obtain ⟨i, w1, w2, w3⟩ := w
            have q : i ≠ f + k := fun q => z (by rw [← w3, q])
            exact (e4 t).1 ⟨i, w1, by omega, w3⟩
    obtain ⟨o1, e1, e2, e3, e4⟩ := key (u - f) (Nat.le_refl _)
    refine ⟨o1, m, ?_, e2, e3, fun t => ?_⟩
    · rw [e1, Nat.sub_self, Nat.add_zero, show ofS S r + f + (u - f) = ofS S r + u from by omega]
    · have := e4 t
      rw [Nat.add_sub_cancel' hf] at this
      exact this
  obtain ⟨o1, m, g1, e1, e2, e3⟩ := g1
  have key : ∀ (o2 : OS), (∀ s, s ≤ 8 → o2 2 s = nI (ofS S s)) → f_X1_remove_82 NF (nI (ofS S r + f)) (nI (ofS S r + u)) (nI (r + 1)) o2 = some (va_up o2 2 (pt (o2 2) (fun i => nI (ofS S (r + 1 + i) - (u - f))) (r + 1) (8 - r))) := by
    intro o2 h1
    have e0 : o2 = va_up o2 2 (pt (o2 2) (fun i => nI (ofS S (r + 1 + i) - (u - f))) (r + 1) (r + 1 - (r + 1))) := by rw [Nat.sub_self, pt_0, up_id rfl]
    refine Eq.trans (congrArg (f_X1_remove_82 NF (nI (ofS S r + f)) (nI (ofS S r + u)) (nI (r + 1))) e0) ?_
    refine loopE (fun m i => f_X1_remove_82 m (nI (ofS S r + f)) (nI (ofS S r + u)) (nI i) (va_up o2 2 (pt (o2 2) (fun i => nI (ofS S (r + 1 + i) - (u - f))) (r + 1) (i - (r + 1))))) (a := r + 1) (b := 9) (by omega) (NF_lt (by omega)) (fun m i h2 h3 => ?_) (fun m => ?_)
    · have hs := pt_s (o2 2) (fun i => nI (ofS S (r + 1 + i) - (u - f))) (r + 1) (i - (r + 1))
      rw [show r + 1 + (i - (r + 1)) = i from by omega] at hs
      have hv : pt (o2 2) (fun i => nI (ofS S (r + 1 + i) - (u - f))) (r + 1) (i - (r + 1)) i = nI (ofS S i) := by rw [pt_out (by omega), h1 i (by omega)]
      have hm := ofS_mono (S := S) (show r + 1 ≤ i by omega)
      have e3 : ofS S (r + 1) = ofS S r + (S r).length := rfl
      rw [f_X1_remove_82, if_neg (show ¬ (8 : Int32) < nI i from nI_nlt (b := i) (a := 8) (by omega) (by omega)), if_pos (ix_nI (by omega) (by omega)), if_pos (ix_nI (by omega) (by omega)), nI_clamp (by omega), va_up_self, hv, nI_1, pk_sub (by omega), pk_sub (by omega)]
      unfold oA
      rw [va_up_self, up_up, show ofS S r + u - (ofS S r + f) = u - f from by omega, hs, show i - (r + 1) + 1 = i + 1 - (r + 1) from by omega]
    · rw [f_X1_remove_82, if_pos (show (8 : Int32) < nI 9 by decide), show 9 - (r + 1) = 8 - r from by omega]
  have g2 : f_X1_remove_27 (m + 1) (nI r) (nI (ofS S r + f)) (nI (ofS S r + u)) (nI (ofS S r + u)) o1 = f_X1_remove_82 NF (nI (ofS S r + f)) (nI (ofS S r + u)) (nI (r + 1)) (va_up o1 1 (va_cpy (o 1) (o 1) (ofS S r + u) (ofS S r + f) (ofS S 8 - (ofS S r + u)))) := by
    have c8 : Int32.toNatClampNeg 8 = 8 := rfl
    rw [f_X1_remove_27, if_pos (nI_le (Nat.le_refl _) (by omega)), if_pos (by decide), c8, e1, e2, e8, pk_sub (by omega), if_pos (acp_nI (by omega) (by omega) (by omega) (by omega)), nI_1, nI_clamp (by omega), nI_clamp (by omega), nI_clamp (by omega)]
  rw [g0, g1, g2, key _ (fun s hs => by rw [va_up_ne _ _ (by decide), e2]; exact h.1 s hs)]
  have hcl := cut_len hf hu
  refine ⟨_, rfl, fun s hs => ?_, fun s hs i hi => ?_, fun s hs e he => ?_, fun t ht hno => ?_⟩
  · rw [va_up_self]
    by_cases q : s ≤ r
    · rw [pt_out (by omega), va_up_ne _ _ (by decide), e2, h.1 s hs, (ofS_up s).1 q]
    · have h3 := (ofS_up (S := S) (r := r) (l := cut (S r) f u) s).2 (by omega)
      have hm := ofS_mono (S := S) (show r + 1 ≤ s by omega)
      have e4 : ofS S (r + 1) = ofS S r + (S r).length := rfl
      rw [pt_in (by omega) (by omega), show r + 1 + (s - (r + 1)) = s from by omega]
      congr 1
      omega
  · have hle2 := o_le (S := S) hs
    rw [va_up_ne _ _ (by decide), va_up_self]
    rcases Nat.lt_trichotomy s r with q | q | q
    · rw [va_up_ne _ _ (by omega)] at hi ⊢
      have := ofS_mono (S := S) (show s + 1 ≤ r by omega)
      have e4 : ofS S (s + 1) = ofS S s + (S s).length := rfl
      rw [(ofS_up s).1 (by omega), pk_cpy_out (by omega), h.2.1 s hs i hi]
    · subst q
      rw [va_up_self] at hi ⊢
      rw [(ofS_up s).1 (Nat.le_refl _)]
      by_cases z : i < f
      · rw [pk_cpy_out (by omega), cut_lt hf hu z, h.2.1 s hs i (by omega)]
      · rw [pk_cpy_in (by omega) (by omega), cut_ge hf hu (by omega), show ofS S s + u + (ofS S s + i - (ofS S s + f)) = ofS S s + (i + (u - f)) from by omega, h.2.1 s hs _ (by omega)]
    · rw [va_up_ne _ _ (by omega)] at hi ⊢
      have h3 := (ofS_up (S := S) (r := r) (l := cut (S r) f u) s).2 q
      have := ofS_mono (S := S) (show r + 1 ≤ s by omega)
      have e4 : ofS S (r + 1) = ofS S r + (S r).length := rfl
      rw [pk_cpy_in (by omega) (by omega), ← h.2.1 s hs i hi]
      congr 1
      omega
  · rw [va_up_ne _ _ (by decide), va_up_ne _ _ (by decide), (e3 _).2]
    · by_cases q : s = r
      · subst q
        rw [va_up_self] at he
        unfold cut at he
        rcases List.mem_append.mp he with z | z
        · exact h.2.2.1 s hs e (List.mem_of_mem_take z)
        · exact h.2.2.1 s hs e (List.mem_of_mem_drop z)
      · rw [va_up_ne _ _ q] at he
        exact h.2.2.1 s hs e he
    · rintro ⟨i, z1, z2, z3⟩
      exact hx i z1 z2 s hs e he z3.symm
  · rw [va_up_ne _ _ (by decide), va_up_ne _ _ (by decide)]
    by_cases w : ∃ i, f ≤ i ∧ i < u ∧ (S r).getD i 0 / 2 = t
    · rw [(e3 t).1 w]
    · rw [(e3 t).2 w]
      refine h.2.2.2 t ht (fun s hs e he z => ?_)
      by_cases q : s = r
      · subst q
        obtain ⟨i, hi, rfl⟩ := List.mem_iff_getElem.mp he
        by_cases z2 : f ≤ i ∧ i < u
        · exact w ⟨i, z2.1, z2.2, by rw [gD hi]; exact z⟩
        · refine hno s hs _ ?_ z
          rw [va_up_self]
          unfold cut
          rw [List.mem_append]
          rcases Nat.lt_or_ge i f with z3 | z3
          · exact Or.inl (List.mem_take_iff_getElem.mpr ⟨i, by omega, rfl⟩)
          · refine Or.inr (List.mem_drop_iff_getElem.mpr ⟨i - u, by omega, ?_⟩)
            congr 1
            omega
      · exact hno s hs e (by rw [va_up_ne _ _ q]; exact he) z
end ORD
