/-! ===== the state that both sides hold: kinds, widths, greatest; the rows as blocks (label, who stands there); inner labels; marks; renamed ===== -/
abbrev BL : Type := List (Nat × List Nat)
abbrev XS : Type := (Nat → Int32) × (Nat → Int32) × (Nat → Int32) × (Nat → BL) × (Nat → Nat) × (Nat → Nat → Int32) × Int32
def xk (x : XS) : Nat → Int32 := x.1
def xw (x : XS) : Nat → Int32 := x.2.1
def xg (x : XS) : Nat → Int32 := x.2.2.1
def xb (x : XS) : Nat → BL := x.2.2.2.1
def xi (x : XS) : Nat → Nat := x.2.2.2.2.1
def xm (x : XS) : Nat → Nat → Int32 := x.2.2.2.2.2.1
def xr (x : XS) : Int32 := x.2.2.2.2.2.2
/-- who stands in blocks, in order -/
def idl (B : BL) : List Nat := (B.map (fun b => b.2)).flatten
def sq (x : XS) (r : Nat) : List Nat := idl (xb x r)
def off (x : XS) : Nat → Nat
  | 0 => 0
  | r + 1 => off x r + (sq x r).length
/-- the class holds x -/
def CA (a : SS) (x : XS) : Prop :=
  (∀ r, r < 8 → a.2.2.1 2 r = xk x r ∧ a.2.2.1 3 r = xw x r ∧ a.2.2.1 4 r = xg x r) ∧ (∀ r, r ≤ 8 → a.1 2 r = nI (off x r)) ∧
  (∀ r, r < 8 → ∀ i, i < (sq x r).length → a.1 1 (off x r + i) = nI ((sq x r).getD i 0)) ∧
  (∀ r, r < 8 → ∀ d ∈ sq x r, a.1 3 (d / 2) = nI r) ∧ (∀ t, t < 300 → (∀ r, r < 8 → ∀ d ∈ sq x r, d / 2 ≠ t) → a.1 3 t = -1) ∧
  (∀ r, r < 8 → ∀ b ∈ xb x r, ∀ d ∈ b.2, a.2.2.2.1 d = lN b.1) ∧ (∀ r, r < 8 → 2 ≤ xk x r → ∀ d ∈ sq x r, a.2.2.1 6 d = nI (xi x d)) ∧
  (∀ m, m < 20 → a.2.1 1 m = xm x 1 m ∧ a.2.1 2 m = xm x 2 m ∧ a.2.1 3 m = xm x 3 m) ∧ a.2.2.2.2 = xr x
/-- the model holds x -/
def MA (c : MC) (x : XS) : Prop :=
  (∀ r, r < 8 → c.1 2 r = xk x r ∧ c.1 3 r = xw x r ∧ c.1 5 r = xg x r) ∧ (∀ r, r < 8 → c.1 4 r = nI (sq x r).length) ∧
  (∀ r, r < 8 → ∀ i, i < (sq x r).length → c.1 7 (600 * r + i) = nI ((sq x r).getD i 0)) ∧
  (∀ r, r < 8 → ¬ 2 ≤ xk x r → ∀ b ∈ xb x r, ∀ d ∈ b.2, c.2.1 10 d = lN b.1) ∧
  (∀ r, r < 8 → 2 ≤ xk x r → c.1 6 r = nI (xb x r).length ∧ ∀ k, k < (xb x r).length → c.1 8 (600 * r + k) = nI ((xb x r).getD k (0, [])).2.length ∧ c.2.1 9 (600 * r + k) = lN ((xb x r).getD k (0, [])).1) ∧
  (∀ r, r < 8 → 2 ≤ xk x r → ∀ d ∈ sq x r, c.1 11 d = nI (xi x d)) ∧
  (∀ m, m < 20 → c.1 12 m = xm x 1 m ∧ c.1 13 m = xm x 2 m ∧ c.1 14 m = xm x 3 m) ∧ c.2.2 = xr x
/-- ENDs in their order: what is open, behind these -/
def run : List Nat → List Nat → Option (List Nat)
  | [], st => some st
  | d :: l, st => if d % 2 = 0 then run l (d :: st) else match st with
    | [] => none
    | e :: st => if e + 1 = d then run l st else none
/-- a row as it may be -/
def RowOk (x : XS) (r : Nat) : Prop :=
  (xk x r = -1 ∧ xb x r = [] ∧ xg x r = 0) ∨ ((∃ k, k < 4 ∧ xk x r = nI k) ∧ ∃ w, 4 ≤ w ∧ w ≤ 40 ∧ xw x r = nI w ∧ (xb x r).Pairwise (fun p q => p.1 < q.1) ∧ (∀ b ∈ xb x r, b.1 < 2 ^ w ∧ b.2 ≠ []) ∧
    (¬ 2 ≤ xk x r → ∀ b ∈ xb x r, b.2.length = 1) ∧ (2 ≤ xk x r → ∀ b ∈ xb x r, b.2.length ≤ 8 ∧ b.2.Pairwise (fun p q => xi x p < xi x q) ∧ ∀ d ∈ b.2, xi x d < 256))
/-- all of a state that holds at every step, also while things come one by one -/
def Inv (T : Nat) (x : XS) : Prop :=
  T ≤ 300 ∧ (∀ r, r < 8 → RowOk x r) ∧ (∀ r, r < 8 → (sq x r).Nodup) ∧ (∀ r s, r < 8 → s < 8 → r ≠ s → ∀ d ∈ sq x r, ∀ e ∈ sq x s, d / 2 ≠ e / 2) ∧ (∀ r, r < 8 → ∀ d ∈ sq x r, d < 2 * T) ∧
  (∀ r, r < 8 → xk x r ≠ 3 → ∀ d ∈ sq x r, d % 2 = 0) ∧
  (∀ m, m < 20 → xm x 1 m = -1 ∨ ((∃ r, r < 8 ∧ xm x 1 m = nI r ∧ xk x r ≠ -1 ∧ (xm x 2 m = -1 ∨ ∃ d ∈ sq x r, xm x 2 m = nI d)) ∧ (xm x 3 m = 0 ∨ xm x 3 m = 1)))
/-- in nested rows every thing has its END, and they are well within one another -/
def Nest (x : XS) : Prop := ∀ r, r < 8 → xk x r = 3 → run (sq x r) [] = some []
def ST (T : Nat) (a : SS) (c : MC) : Prop := ∃ x, CA a x ∧ MA c x ∧ Inv T x ∧ Nest x
def Rl (u : HS) (v : MS) : Prop := ∃ T n N E, T ≤ 300 ∧ n ≤ 8 ∧ N ≤ 8 ∧ E < 8 ∧ u.2.2.1 5 = nI T ∧ v.1 1 = nI T ∧ u.2.2.1 4 = nI n ∧ v.1 19 = nI n ∧ u.2.2.1 3 = nI N ∧ v.1 18 = nI E ∧ ST T u.2.2.2.2.1 (core v) ∧ ∀ j, j < n → ST T (u.2.2.2.2.2 ((N + 9 - j) % 9)) (slot v ((E + 7 - j) % 8))
theorem nd_len {l : List Nat} : ∀ {n : Nat}, l.Nodup → (∀ d ∈ l, d < n) → l.length ≤ n := by
  intro n
  induction n generalizing l with
  | zero =>
    intro _ h
    match l, h with
    | [], _ => exact Nat.le_refl 0
    | d :: l, h => exact absurd (h d List.mem_cons_self) (Nat.not_lt_zero _)
  | succ n ih =>
    intro hn h
    have h1 : (l.erase n).Nodup := hn.erase n
    have h2 : ∀ d ∈ l.erase n, d < n := by
      intro d hd
      have hm := hn.mem_erase_iff.mp hd
      have := h d hm.2
      omega
    have h3 := ih h1 h2
    have h4 := List.length_erase (a := n) (l := l)
    split at h4 <;> omega
theorem sq_len {T : Nat} {x : XS} (h : Inv T x) {r : Nat} (hr : r < 8) : (sq x r).length ≤ 2 * T := nd_len (h.2.2.1 r hr) (h.2.2.2.2.1 r hr)
theorem sq_lt {T : Nat} {x : XS} (h : Inv T x) {r d : Nat} (hr : r < 8) (hd : d ∈ sq x r) : d < 600 := by
  have h1 := h.2.2.2.2.1 r hr d hd
  have h2 := h.1
  omega
theorem len600 {T : Nat} {x : XS} (h : Inv T x) {r : Nat} (hr : r < 8) : (sq x r).length ≤ 600 := by
  have h1 := sq_len h hr
  have h2 := h.1
  omega
theorem gD {α : Type} {l : List α} {i : Nat} {d : α} (h : i < l.length) : l.getD i d = l[i] := by
  rw [List.getD_eq_getElem?_getD, List.getElem?_eq_getElem h]
  rfl
theorem getD_mem {l : List Nat} {i : Nat} (h : i < l.length) : l.getD i 0 ∈ l := by
  rw [gD h]; exact List.getElem_mem h
theorem none_nil {T : Nat} {x : XS} (h : Inv T x) {r : Nat} (hr : r < 8) (hk : xk x r = -1) : sq x r = [] := by
  rcases h.2.1 r hr with ⟨-, h1, -⟩ | ⟨⟨k, hk4, e⟩, -⟩
  · unfold sq; rw [h1]; rfl
  · rw [hk] at e
    have : k = 0 ∨ k = 1 ∨ k = 2 ∨ k = 3 := by omega
    rcases this with rfl | rfl | rfl | rfl <;> exact absurd e (by decide)
/-! ===== the model: rowWith, placeOf ===== -/
theorem p_rowWith_10 {v : MS} {x : XS} {T : Nat} (hM : MA (core v) x) (hI : Inv T x) {r d : Nat} (hr : r < 8) (hd : d < 600) (k : Int32 → Int32 → MS → Option Int32) : ∀ (n i : Nat), i ≤ (sq x r).length → (sq x r).length - i < n → f_X4_rowWith_10 k n (nI d) (nI r) (nI i) v = if d ∈ (sq x r).drop i then some (nI r) else k (nI d) (nI (r + 1)) v := by
  have hl := len600 hI hr
  intro n
  induction n with
  | zero => intro i h1 h2; omega
  | succ n ih =>
    intro i h1 h2
    have e4 : v.2.1 4 r = nI (sq x r).length := hM.2.1 r hr
    have e2 : v.2.1 2 r = xk x r := (hM.1 r hr).1
    rw [f_X4_rowWith_10, if_pos (ix_nI hr (by omega)), nI_clamp (by omega), e4]
    by_cases h : i = (sq x r).length
    · subst h
      rw [if_pos (nI_le (Nat.le_refl _) (by omega)), nI_1, List.drop_length, if_neg List.not_mem_nil]
    · have h3 : i < (sq x r).length := by omega
      rw [if_neg (nI_ge h3 (by omega)), if_pos (ix_nI hr (by omega)), e2]
      have hk : ¬ xk x r = -1 := fun q => by
        rw [none_nil hI hr q] at h3
        exact Nat.not_lt_zero _ h3
      have e7 : v.2.1 7 (600 * r + i) = nI ((sq x r).getD i 0) := hM.2.2.1 r hr i h3
      have hm := sq_lt hI hr (getD_mem h3)
      rw [if_neg hk, ma600, if_pos (ix_nI (by omega) (by omega)), nI_clamp (by omega), e7, List.drop_eq_getElem_cons h3, ← gD (d := 0) h3]
      by_cases e : (sq x r).getD i 0 = d
      · rw [if_pos (by rw [e]), if_pos (by rw [e]; exact List.mem_cons_self)]
      · rw [if_neg (fun q => e ((nI_eq (by omega) (by omega)).mp q)), nI_1, ih (i + 1) (by omega) (by omega)]
        congr 1
        simp only [List.mem_cons, eq_iff_iff]
        constructor
        · exact fun q => Or.inr q
        · rintro (q | q)
          · exact absurd q.symm e
          · exact q
