/-! ===== where a new label comes: the words of it ===== -/
def ins {α : Type} (l : List α) (p : Nat) (y : α) : List α := l.take p ++ y :: l.drop p
section INS
variable {α : Type} {l : List α} {p i : Nat} {y d : α}
theorem ins_len (h : p ≤ l.length) : (ins l p y).length = l.length + 1 := by
  unfold ins
  rw [List.length_append, List.length_cons, List.length_take, List.length_drop]
  omega
theorem ins_lt (h : p ≤ l.length) (hi : i < p) : (ins l p y).getD i d = l.getD i d := by
  unfold ins
  rw [List.getD_eq_getElem?_getD, List.getD_eq_getElem?_getD, List.getElem?_append_left (by rw [List.length_take]; omega), List.getElem?_take_of_lt hi]
theorem ins_at (h : p ≤ l.length) : (ins l p y).getD p d = y := by
  unfold ins
  rw [List.getD_eq_getElem?_getD, List.getElem?_append_right (by rw [List.length_take]; omega), List.length_take, Nat.min_eq_left h, Nat.sub_self, List.getElem?_cons_zero]
  rfl
theorem ins_gt (h : p ≤ l.length) (hi : p < i) : (ins l p y).getD i d = l.getD (i - 1) d := by
  unfold ins
  obtain ⟨k, rfl⟩ : ∃ k, i = p + k + 1 := ⟨i - p - 1, by omega⟩
  rw [List.getD_eq_getElem?_getD, List.getD_eq_getElem?_getD, List.getElem?_append_right (by rw [List.length_take]; omega), List.length_take, Nat.min_eq_left h, show p + k + 1 - p = k + 1 from by omega, List.getElem?_cons_succ, List.getElem?_drop]
  rfl
theorem ins_mem {z : α} : z ∈ ins l p y ↔ z = y ∨ z ∈ l := by
  unfold ins
  rw [List.mem_append, List.mem_cons]
  constructor
  · rintro (h | h | h)
    · exact Or.inr (List.mem_of_mem_take h)
    · exact Or.inl h
    · exact Or.inr (List.mem_of_mem_drop h)
  · rintro (h | h)
    · exact Or.inr (Or.inl h)
    · rw [← List.take_append_drop p l, List.mem_append] at h
      rcases h with h | h
      · exact Or.inl h
      · exact Or.inr (Or.inr h)
end INS
theorem getD_ext {α : Type} {l m : List α} (d : α) (h : l.length = m.length) (h2 : ∀ i, i < l.length → l.getD i d = m.getD i d) : l = m := by
  apply List.ext_getElem h
  intro i h3 h4
  have := h2 i h3
  rw [gD h3, gD h4] at this
  exact this
def lo (L : List Nat) (p : Nat) : Nat := if p = 0 then 0 else L.getD (p - 1) 0 + 1
def hi (L : List Nat) (M p : Nat) : Nat := if p = L.length then M else L.getD p 0
def md (L : List Nat) (M p : Nat) : Nat := (lo L p + hi L M p - 1) / 2
/-- the span of 2^j with the neighbour's label: where it begins; what is in it, and the new one; what is ahead of it -/
def sx (L : List Nat) (p j : Nat) : Nat := L.getD (p - 1) 0 / 2 ^ j * 2 ^ j
def sc (L : List Nat) (x j : Nat) : Nat := 1 + L.countP (fun h => decide (h / 2 ^ j * 2 ^ j = x))
def sf (L : List Nat) (x : Nat) : Nat := L.countP (fun h => decide (h < x))
def sdl (L : List Nat) (p j : Nat) : List Nat := L.take (sf L (sx L p j)) ++ ((List.range (sc L (sx L p j) j)).map (dl (sx L p j) j (sc L (sx L p j) j)) ++ L.drop (sf L (sx L p j) + sc L (sx L p j) j - 1))
def spF (w : Nat) (L : List Nat) (p : Nat) : Nat → Nat → Option (List Nat × Nat)
  | 0, _ => none
  | n + 1, j => if sc L (sx L p j) j * 2 * w ≤ 2 ^ j * (2 * w - j) then some (sdl L p j, sc L (sx L p j) j) else spF w L p n (j + 1)
/-- the labels with the new one in its place, and how many were dealt; none: FULL -/
def plc (t : Bool) (w : Nat) (L : List Nat) (p : Nat) : Option (List Nat × Nat) :=
  if lo L p < hi L (2 ^ w) p then some (ins L p (md L (2 ^ w) p), 0)
  else if t = true then (if L.length = 2 ^ w then none else some ((List.range (L.length + 1)).map (dl 0 w (L.length + 1)), L.length + 1))
  else spF w L p w 1
/-! sorted lists -/
theorem cnt_lt {L : List Nat} (hs : L.Pairwise (· < ·)) (x : Nat) : ∀ i, i < L.length → (L.getD i 0 < x ↔ i < sf L x) := by
  induction L with
  | nil => intro i hi; exact absurd hi (Nat.not_lt_zero _)
  | cons a L ih =>
    have h1 := List.pairwise_cons.mp hs
    intro i hi
    unfold sf
    rw [List.countP_cons]
    by_cases ha : a < x
    · simp only [ha, decide_true, if_true]
      match i with
      | 0 => simp [ha]
      | i + 1 =>
        have := ih h1.2 i (by simpa using hi)
        rw [show (a :: L).getD (i + 1) 0 = L.getD i 0 from rfl, this]
        unfold sf
        omega
    · have h0 : L.countP (fun h => decide (h < x)) = 0 := by
        rw [List.countP_eq_zero]
        intro b hb
        have := h1.1 b hb
        simp only [decide_eq_true_eq]
        omega
      rw [h0]
      simp only [ha, decide_false]
      match i with
      | 0 => simp [ha]
      | i + 1 =>
        have hi2 : i < L.length := by simpa using hi
        have := h1.1 (L.getD i 0) (getD_mem hi2)
        rw [show (a :: L).getD (i + 1) 0 = L.getD i 0 from rfl]
        refine ⟨fun q => absurd q (by omega), fun q => ?_⟩
        simp at q
theorem sf_le (L : List Nat) (x : Nat) : sf L x ≤ L.length := List.countP_le_length
theorem flr_iff {h j q : Nat} : h / 2 ^ j * 2 ^ j = q * 2 ^ j ↔ q * 2 ^ j ≤ h ∧ h < q * 2 ^ j + 2 ^ j := by
  have hp := pw_pos j
  constructor
  · intro e
    have e1 : h / 2 ^ j = q := Nat.eq_of_mul_eq_mul_right hp e
    have e2 := Nat.div_add_mod h (2 ^ j)
    have e3 := Nat.mod_lt h hp
    rw [e1, Nat.mul_comm] at e2
    omega
  · rintro ⟨a, b⟩
    congr 1
    apply Nat.le_antisymm
    · apply Nat.lt_succ_iff.mp
      rw [Nat.div_lt_iff_lt_mul hp, Nat.succ_mul]
      exact b
    · exact (Nat.le_div_iff_mul_le hp).mpr a
theorem sc_sf (L : List Nat) (q j : Nat) : sf L (q * 2 ^ j) + sc L (q * 2 ^ j) j = sf L (q * 2 ^ j + 2 ^ j) + 1 := by
  unfold sf sc
  have hp := pw_pos j
  induction L with
  | nil => rfl
  | cons a L ih =>
    rw [List.countP_cons, List.countP_cons, List.countP_cons]
    have hf := flr_iff (h := a) (j := j) (q := q)
    by_cases h1 : a < q * 2 ^ j
    · have h2 : ¬ (a / 2 ^ j * 2 ^ j = q * 2 ^ j) := fun e => by have := hf.mp e; omega
      have h3 : a < q * 2 ^ j + 2 ^ j := by omega
      simp only [h1, h2, h3, decide_true, decide_false, if_true]
      simp
      omega
    · by_cases h3 : a < q * 2 ^ j + 2 ^ j
      · have h2 : a / 2 ^ j * 2 ^ j = q * 2 ^ j := hf.mpr ⟨by omega, h3⟩
        simp only [h1, h2, h3, decide_true, decide_false, if_true]
        simp
        omega
      · have h2 : ¬ (a / 2 ^ j * 2 ^ j = q * 2 ^ j) := fun e => by have := hf.mp e; omega
        simp only [h1, h2, h3, decide_false]
        simp
        omega
theorem sx_sf (L : List Nat) (p j : Nat) : sf L (sx L p j) + sc L (sx L p j) j = sf L (sx L p j + 2 ^ j) + 1 := sc_sf L _ j
theorem sx_in (L : List Nat) (p j : Nat) : sx L p j ≤ L.getD (p - 1) 0 ∧ L.getD (p - 1) 0 < sx L p j + 2 ^ j := flr_iff.mp rfl
/-- the new one's place is among those that are dealt -/
theorem sx_pl {L : List Nat} {p : Nat} (hs : L.Pairwise (· < ·)) (hp : p ≤ L.length) (h0 : 0 < L.length) (j : Nat) : sf L (sx L p j) ≤ p ∧ p < sf L (sx L p j) + sc L (sx L p j) j := by
  have h1 := sx_sf L p j
  have h2 := sx_in L p j
  have h3 := cnt_lt hs (sx L p j) (p - 1) (by omega)
  have h4 := cnt_lt hs (sx L p j + 2 ^ j) (p - 1) (by omega)
  omega
theorem lt_pair {L : List Nat} (hs : L.Pairwise (· < ·)) {i k : Nat} (h : i < k) (hk : k < L.length) : L.getD i 0 < L.getD k 0 := by
  rw [gD (show i < L.length by omega), gD hk]
  exact List.pairwise_iff_getElem.mp hs i k _ _ h
theorem pair_of {L : List Nat} (h : ∀ i k, i < k → k < L.length → L.getD i 0 < L.getD k 0) : L.Pairwise (· < ·) := by
  rw [List.pairwise_iff_getElem]
  intro i k hi hk hik
  have := h i k hik hk
  rw [gD hi, gD hk] at this
  exact this
theorem ins_sorted {L : List Nat} {M p : Nat} (hs : L.Pairwise (· < ·)) (hM : ∀ d ∈ L, d < M) (hp : p ≤ L.length) (h : lo L p < hi L M p) : (ins L p (md L M p)).Pairwise (· < ·) ∧ ∀ d ∈ ins L p (md L M p), d < M := by
  have a1 : ∀ i, i < p → L.getD i 0 < md L M p := by
    intro i hi1
    have : lo L p = L.getD (p - 1) 0 + 1 := if_neg (by omega)
    have h2 : L.getD i 0 ≤ L.getD (p - 1) 0 := by
      by_cases e : i = p - 1
      · rw [e]; exact Nat.le_refl _
      · exact Nat.le_of_lt (lt_pair hs (by omega) (by omega))
    unfold md
    omega
  have a2 : md L M p < hi L M p := by unfold md; omega
  have a3 : ∀ i, p ≤ i → i < L.length → md L M p < L.getD i 0 := by
    intro i h1 h2
    have : hi L M p = L.getD p 0 := if_neg (by omega)
    have h3 : L.getD p 0 ≤ L.getD i 0 := by
      by_cases e : i = p
      · rw [e]; exact Nat.le_refl _
      · exact Nat.le_of_lt (lt_pair hs (by omega) (by omega))
    omega
  have a4 : hi L M p ≤ M := by
    unfold hi
    split
    · exact Nat.le_refl _
    · exact Nat.le_of_lt (hM _ (getD_mem (by omega)))
  refine ⟨pair_of fun i k hik hk => ?_, fun d hd => ?_⟩
  · rw [ins_len hp] at hk
    rcases Nat.lt_trichotomy k p with q | q | q
    · rw [ins_lt hp (by omega), ins_lt hp q]; exact lt_pair hs hik (by omega)
    · subst q; rw [ins_at hp, ins_lt hp hik]; exact a1 i hik
    · rw [ins_gt hp q]
      rcases Nat.lt_trichotomy i p with z | z | z
      · rw [ins_lt hp z]; exact lt_pair hs (by omega) (by omega)
      · subst z; rw [ins_at hp]; exact a3 _ (by omega) (by omega)
      · rw [ins_gt hp z]; exact lt_pair hs (by omega) (by omega)
  · rcases ins_mem.mp hd with e | e
    · rw [e]; omega
    · exact hM d e
theorem dls_sorted {x j c : Nat} (hc : c ≤ 2 ^ j) : ((List.range c).map (dl x j c)).Pairwise (· < ·) := by
  rw [List.pairwise_map]
  rw [List.pairwise_iff_getElem]
  intro i k h1 h2 h3
  rw [List.getElem_range, List.getElem_range]
  rw [List.length_range] at h1 h2
  exact dl_mono (by omega) hc h3
theorem sdl_sorted {L : List Nat} {w p j : Nat} (hs : L.Pairwise (· < ·)) (hM : ∀ d ∈ L, d < 2 ^ w) (hp : p ≤ L.length) (h0 : 0 < L.length) (hj : j ≤ w) (hc : sc L (sx L p j) j ≤ 2 ^ j) : (sdl L p j).Pairwise (· < ·) ∧ ∀ d ∈ sdl L p j, d < 2 ^ w := by
  have h1 := sx_sf L p j
  have hx : sx L p j + 2 ^ j ≤ 2 ^ w := by
    have e : 2 ^ w = 2 ^ (w - j) * 2 ^ j := by rw [← Nat.pow_add]; congr 1; omega
    have hb := hM _ (getD_mem (i := p - 1) (show p - 1 < L.length by omega))
    have h2 : L.getD (p - 1) 0 / 2 ^ j < 2 ^ (w - j) := by
      rw [Nat.div_lt_iff_lt_mul (pw_pos j), ← e]; exact hb
    have h3 : (L.getD (p - 1) 0 / 2 ^ j + 1) * 2 ^ j ≤ 2 ^ (w - j) * 2 ^ j := Nat.mul_le_mul_right _ h2
    rw [Nat.add_mul, Nat.one_mul, ← e] at h3
    exact h3
  have t1 : ∀ d ∈ L.take (sf L (sx L p j)), d < sx L p j := by
    intro d hd
    obtain ⟨i, hi, rfl⟩ := List.mem_iff_getElem.mp hd
    rw [List.length_take] at hi
    rw [List.getElem_take, ← gD (d := 0)]
    exact (cnt_lt hs _ i (by omega)).mpr (by omega)
  have t3 : ∀ d ∈ L.drop (sf L (sx L p j) + sc L (sx L p j) j - 1), sx L p j + 2 ^ j ≤ d := by
    intro d hd
    obtain ⟨i, hi, rfl⟩ := List.mem_iff_getElem.mp hd
    rw [List.length_drop] at hi
    rw [List.getElem_drop, ← gD (d := 0)]
    have := (cnt_lt hs (sx L p j + 2 ^ j) (sf L (sx L p j) + sc L (sx L p j) j - 1 + i) (by omega))
    omega
  have t2 : ∀ d ∈ (List.range (sc L (sx L p j) j)).map (dl (sx L p j) j (sc L (sx L p j) j)), sx L p j ≤ d ∧ d < sx L p j + 2 ^ j := by
    intro d hd
    obtain ⟨i, hi, rfl⟩ := List.mem_map.mp hd
    exact ⟨dl_ge, dl_lt (List.mem_range.mp hi)⟩
  refine ⟨?_, fun d hd => ?_⟩
  · unfold sdl
    rw [List.pairwise_append]
    refine ⟨hs.sublist (List.take_sublist _ _), ?_, fun a ha b hb => ?_⟩
    · rw [List.pairwise_append]
      refine ⟨dls_sorted hc, hs.sublist (List.drop_sublist _ _), fun a ha b hb => ?_⟩
      have := t2 a ha
      have := t3 b hb
      omega
    · have := t1 a ha
      rcases List.mem_append.mp hb with hb | hb
      · have := t2 b hb; omega
      · have := t3 b hb; omega
  · unfold sdl at hd
    rcases List.mem_append.mp hd with hd | hd
    · exact hM d (List.mem_of_mem_take hd)
    · rcases List.mem_append.mp hd with hd | hd
      · have := t2 d hd; omega
      · exact hM d (List.mem_of_mem_drop hd)
theorem sdl_len {L : List Nat} {p j : Nat} (hs : L.Pairwise (· < ·)) (hp : p ≤ L.length) (h0 : 0 < L.length) : (sdl L p j).length = L.length + 1 := by
  have h1 := sx_sf L p j
  have h2 := sf_le L (sx L p j + 2 ^ j)
  have h3 := sf_le L (sx L p j)
  unfold sdl
  rw [List.length_append, List.length_append, List.length_take, List.length_drop, List.length_map, List.length_range]
  have := sx_pl hs hp h0 j
  omega
/-- what plc gives -/
theorem spF_ok {L : List Nat} {w p : Nat} (hw : 0 < w) (hs : L.Pairwise (· < ·)) (hM : ∀ d ∈ L, d < 2 ^ w) (hp : p ≤ L.length) (h0 : 0 < L.length) : ∀ n j, j + n = w + 1 → ∀ R, spF w L p n j = some R → R.1.Pairwise (· < ·) ∧ (∀ d ∈ R.1, d < 2 ^ w) ∧ R.1.length = L.length + 1 := by
  intro n
  induction n with
  | zero => intro j _ R h; cases h
  | succ n ih =>
    intro j hj R h
    unfold spF at h
    split at h
    · rename_i hc
      cases h
      have hc2 : sc L (sx L p j) j ≤ 2 ^ j := by
        have h1 : sc L (sx L p j) j * (2 * w) ≤ 2 ^ j * (2 * w) := by
          rw [← Nat.mul_assoc]
          exact Nat.le_trans hc (Nat.mul_le_mul_left _ (by omega))
        exact Nat.le_of_mul_le_mul_right h1 (by omega)
      obtain ⟨a, b⟩ := sdl_sorted (w := w) hs hM hp h0 (by omega) hc2
      exact ⟨a, b, sdl_len hs hp h0⟩
    · exact ih (j + 1) (by omega) R h
theorem plc_ok {t : Bool} {L : List Nat} {w p : Nat} (hw : 0 < w) (hs : L.Pairwise (· < ·)) (hM : ∀ d ∈ L, d < 2 ^ w) (hp : p ≤ L.length) {R : List Nat × Nat} (h : plc t w L p = some R) : R.1.Pairwise (· < ·) ∧ (∀ d ∈ R.1, d < 2 ^ w) ∧ R.1.length = L.length + 1 := by
  have hlen : L.length ≤ 2 ^ w := nd_len (hs.imp (fun h => Nat.ne_of_lt h)) hM
  unfold plc at h
  split at h
  · rename_i hc
    cases h
    obtain ⟨a, b⟩ := ins_sorted hs hM hp hc
    exact ⟨a, b, ins_len hp⟩
  · rename_i hc
    have h0 : 0 < L.length := by
      rcases Nat.eq_zero_or_pos L.length with e | e
      · exfalso
        apply hc
        have : lo L p = 0 := if_pos (by omega)
        have h2 : hi L (2 ^ w) p = 2 ^ w := if_pos (by omega)
        rw [this, h2]
        exact pw_pos w
      · exact e
    split at h
    · split at h
      · cases h
      · cases h
        refine ⟨dls_sorted (by omega), fun d hd => ?_, by rw [List.length_map, List.length_range]⟩
        obtain ⟨i, hi, rfl⟩ := List.mem_map.mp hd
        have := dl_lt (x := 0) (j := w) (c := L.length + 1) (List.mem_range.mp hi)
        omega
    · exact spF_ok hw hs hM hp h0 w 1 (by omega) R h
