/-! ===== ENDs have their things ===== -/
theorem run_odd : ∀ {l st st' : List Nat}, run l st = some st' → ∀ d ∈ l, d % 2 = 1 → d - 1 ∈ l ∨ d - 1 ∈ st := by
  intro l
  induction l with
  | nil => intro st st' _ d hd; exact absurd hd List.not_mem_nil
  | cons a l ih =>
    intro st st' h d hd ho
    unfold run at h
    by_cases ha : a % 2 = 0
    · rw [if_pos ha] at h
      rcases List.mem_cons.mp hd with rfl | hd
      · omega
      · rcases ih h d hd ho with q | q
        · exact Or.inl (List.mem_cons_of_mem _ q)
        · rcases List.mem_cons.mp q with q | q
          · exact Or.inl (q ▸ List.mem_cons_self)
          · exact Or.inr q
    · rw [if_neg ha] at h
      match st, h with
      | e :: st, h =>
        dsimp only at h
        by_cases he : e + 1 = a
        · rw [if_pos he] at h
          rcases List.mem_cons.mp hd with rfl | hd
          · exact Or.inr (by rw [← he, Nat.add_sub_cancel]; exact List.mem_cons_self)
          · rcases ih h d hd ho with q | q
            · exact Or.inl (List.mem_cons_of_mem _ q)
            · exact Or.inr (List.mem_cons_of_mem _ q)
        · rw [if_neg he] at h; cases h
theorem comp {T : Nat} {x : XS} (hI : Inv T x) (hN : Nest x) {r d : Nat} (hr : r < 8) (hd : d ∈ sq x r) : 2 * (d / 2) ∈ sq x r := by
  by_cases ho : d % 2 = 0
  · have : 2 * (d / 2) = d := by omega
    rw [this]; exact hd
  · by_cases hk : xk x r = 3
    · rcases run_odd (hN r hr hk) d hd (by omega) with q | q
      · have : 2 * (d / 2) = d - 1 := by omega
        rw [this]; exact q
      · exact absurd q List.not_mem_nil
    · exact absurd (hI.2.2.2.2.2.1 r hr hk d hd) ho
/-! ===== the class: what it asks of its Order ===== -/
theorem off_mono {x : XS} : ∀ {r s : Nat}, r ≤ s → off x r ≤ off x s := by
  intro r s h
  induction s with
  | zero => have : r = 0 := by omega
            subst this; exact Nat.le_refl _
  | succ s ih =>
    by_cases e : r = s + 1
    · subst e; exact Nat.le_refl _
    · have := ih (by omega)
      show off x r ≤ off x s + (sq x s).length
      omega
/-- all that stands in rows 0 .. r - 1 -/
def alls (x : XS) : Nat → List Nat
  | 0 => []
  | r + 1 => alls x r ++ sq x r
theorem alls_len {x : XS} : ∀ r, (alls x r).length = off x r
  | 0 => rfl
  | r + 1 => by rw [alls, List.length_append, alls_len r]; rfl
theorem alls_mem {x : XS} {d : Nat} : ∀ {r : Nat}, d ∈ alls x r → ∃ s, s < r ∧ d ∈ sq x s
  | 0, h => absurd h List.not_mem_nil
  | r + 1, h => by
    rcases List.mem_append.mp h with h | h
    · obtain ⟨s, h1, h2⟩ := alls_mem h
      exact ⟨s, by omega, h2⟩
    · exact ⟨r, by omega, h⟩
theorem alls_nd {T : Nat} {x : XS} (hI : Inv T x) : ∀ {r : Nat}, r ≤ 8 → (alls x r).Nodup
  | 0, _ => List.nodup_nil
  | r + 1, h => by
    refine List.nodup_append.mpr ⟨alls_nd hI (by omega), hI.2.2.1 r (by omega), ?_⟩
    intro a ha b hb e
    obtain ⟨s, h1, h2⟩ := alls_mem ha
    subst e
    exact hI.2.2.2.1 s r (by omega) (by omega) (by omega) a h2 a hb rfl
theorem off600 {T : Nat} {x : XS} (hI : Inv T x) {r : Nat} (hr : r ≤ 8) : off x r ≤ 600 := by
  rw [← alls_len]
  refine nd_len (alls_nd hI hr) (fun d hd => ?_)
  obtain ⟨s, h1, h2⟩ := alls_mem hd
  exact sq_lt hI (by omega) h2
section PC
variable {a : SS} {x : XS} {T : Nat}
theorem q_first (hC : CA a x) {r : Nat} (hr : r < 8) : f_X1_first (nI r) a.1 = some (nI (off x r)) := by
  unfold f_X1_first
  rw [if_neg (nI_pos (by omega)), if_neg (show ¬ (8 : Int32) ≤ nI r from nI_ge (b := 8) hr (by omega)), if_pos (ix_nI (by omega) (by omega)), nI_clamp (by omega), hC.2.1 r (by omega)]
theorem q_end (hC : CA a x) {r : Nat} (hr : r < 8) : f_X1_end (nI r) a.1 = some (nI (off x r + (sq x r).length)) := by
  unfold f_X1_end
  rw [if_neg (nI_pos (by omega)), if_neg (show ¬ (8 : Int32) ≤ nI r from nI_ge (b := 8) hr (by omega)), nI_1, if_pos (ix_nI (by omega) (by omega)), nI_clamp (by omega), hC.2.1 (r + 1) (by omega)]
  rfl
theorem q_length (hC : CA a x) {r : Nat} (hr : r < 8) : f_X1_length (nI r) a.1 = some (nI (sq x r).length) := by
  unfold f_X1_length
  rw [q_end hC hr, Option.bind_some, q_first hC hr, Option.bind_some, pk_sub (by omega), Nat.add_sub_cancel_left]
theorem q_rowOf (hC : CA a x) {t r d : Nat} (ht : t < 300) (hr : r < 8) (hd : d ∈ sq x r) (hdt : d / 2 = t) : f_X1_rowOfThing (nI t) a.1 = some (nI r) := by
  unfold f_X1_rowOfThing
  rw [if_neg (nI_pos (by omega)), if_neg (show ¬ (300 : Int32) ≤ nI t from nI_ge (b := 300) ht (by omega)), if_pos (ix_nI ht (by omega)), nI_clamp (by omega), ← hdt, hC.2.2.2.1 r hr d hd]
theorem q_rowOf_no (hC : CA a x) {t : Nat} (ht : t < 300) (h : ∀ r, r < 8 → ∀ d ∈ sq x r, d / 2 ≠ t) : f_X1_rowOfThing (nI t) a.1 = some (-1) := by
  unfold f_X1_rowOfThing
  rw [if_neg (nI_pos (by omega)), if_neg (show ¬ (300 : Int32) ≤ nI t from nI_ge (b := 300) ht (by omega)), if_pos (ix_nI ht (by omega)), nI_clamp (by omega), hC.2.2.2.2.1 t ht h]
theorem shr1 {d : Nat} (h : d < 2 ^ 31) : nI d >>> ((1 : Int32) &&& 31) = nI (d / 2) := pk_shrN h _ 1 (by decide)
theorem q_placeOf_22 (hC : CA a x) (hI : Inv T x) {r d : Nat} (hr : r < 8) (hd : d ∈ sq x r) : ∀ (n i : Nat), i ≤ pos (sq x r) d → pos (sq x r) d - i < n → f_X1_placeOf_22 n (nI d) (nI r) (nI (off x r + i)) a.1 = some (nI (off x r + pos (sq x r) d)) := by
  have hp := pos_lt hd
  have ho := off600 hI (r := r + 1) (by omega)
  have ho2 : off x r + (sq x r).length ≤ 600 := ho
  intro n
  induction n with
  | zero => intro i h1 h2; omega
  | succ n ih =>
    intro i h1 h2
    have hi : i < (sq x r).length := by omega
    have hm := sq_lt hI hr (getD_mem hi)
    have hm2 := sq_lt hI hr hd
    rw [f_X1_placeOf_22, q_end hC hr, Option.bind_some, if_neg (nI_ge (by omega) (by omega)), if_pos (ix_nI (by omega) (by omega)), nI_clamp (by omega), hC.2.2.1 r hr i hi]
    by_cases e : i = pos (sq x r) d
    · subst e
      rw [if_pos (by rw [pos_at hd])]
    · rw [if_neg (fun q => e (by rw [← (nI_eq (by omega) (by omega)).mp q, pos_of (hI.2.2.1 r hr) hi])), nI_1]
      exact ih (i + 1) (by omega) (by omega)
theorem q_placeOf (hC : CA a x) (hI : Inv T x) {r d : Nat} (hr : r < 8) (hd : d ∈ sq x r) : f_X1_placeOf (nI d) a.1 = some (nI (off x r + pos (sq x r) d)) := by
  have hm2 := sq_lt hI hr hd
  unfold f_X1_placeOf f_X3_thingOf
  rw [Option.bind_some, shr1 (by omega), q_rowOf hC (by omega) hr hd rfl, Option.bind_some, if_neg, q_first hC hr, Option.bind_some]
  · have := q_placeOf_22 hC hI hr hd NF 0 (Nat.zero_le _) (by rw [NF_eq]; have := len600 hI hr; have := pos_lt hd; omega)
    exact this
  · intro q
    have := nI_pos (n := r) (by omega)
    rw [q] at this
    exact this (by decide)
end PC
