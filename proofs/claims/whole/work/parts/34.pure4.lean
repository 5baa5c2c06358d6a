/-! ===== places ===== -/
def pos (l : List Nat) (d : Nat) : Nat := l.idxOf d
theorem pos_lt {l : List Nat} {d : Nat} (h : d ∈ l) : pos l d < l.length := List.idxOf_lt_length_of_mem h
theorem pos_at {l : List Nat} {d : Nat} (h : d ∈ l) : l.getD (pos l d) 0 = d := by
  rw [gD (pos_lt h)]
  exact List.getElem_idxOf (pos_lt h)
theorem nd_inj {l : List Nat} (hn : l.Nodup) {i j : Nat} (hi : i < l.length) (hj : j < l.length) (h : l.getD i 0 = l.getD j 0) : i = j := by
  rw [gD hi, gD hj] at h
  have hp := List.pairwise_iff_getElem.mp hn
  rcases Nat.lt_trichotomy i j with q | q | q
  · exact absurd h (hp i j hi hj q)
  · exact q
  · exact absurd h.symm (hp j i hj hi q)
theorem pos_of {l : List Nat} (hn : l.Nodup) {i : Nat} (hi : i < l.length) : pos l (l.getD i 0) = i := nd_inj hn (pos_lt (getD_mem hi)) hi (pos_at (getD_mem hi))
theorem pos_inj {l : List Nat} {d e : Nat} (hd : d ∈ l) (he : e ∈ l) (h : pos l d = pos l e) : d = e := by rw [← pos_at hd, h, pos_at he]
/-! ===== the model: what it asks ===== -/
section PM
variable {v : MS} {x : XS} {T : Nat}
theorem p_rowWith_2 (hM : MA (core v) x) (hI : Inv T x) {d : Nat} (hd : d < 600) : ∀ (n r : Nat), r ≤ 8 → 8 - r < n → (∀ s, r ≤ s → s < 8 → d ∈ sq x s → f_X4_rowWith_2 n (nI d) (nI r) v = some (nI s)) ∧ ((∀ s, r ≤ s → s < 8 → d ∉ sq x s) → f_X4_rowWith_2 n (nI d) (nI r) v = some (-1)) := by
  intro n
  induction n with
  | zero => intro r h1 h2; omega
  | succ n ih =>
    intro r h1 h2
    rw [f_X4_rowWith_2]
    by_cases h8 : r = 8
    · subst h8
      exact ⟨fun s h3 h4 => absurd h4 (by omega), fun _ => by rw [if_pos (show (8 : Int32) ≤ nI 8 by decide)]⟩
    · have hr : r < 8 := by omega
      rw [if_neg (show ¬ (8 : Int32) ≤ nI r from nI_ge (b := 8) hr (by omega))]
      have e := p_rowWith_10 hM hI hr hd (f_X4_rowWith_2 n) NF 0 (Nat.zero_le _) (by rw [NF_eq]; have := len600 hI hr; omega)
      rw [show (0 : Int32) = nI 0 from rfl, e, List.drop_zero]
      obtain ⟨a1, a2⟩ := ih (r + 1) (by omega) (by omega)
      by_cases hm : d ∈ sq x r
      · refine ⟨fun s h3 h4 h5 => ?_, fun h => absurd hm (h r (Nat.le_refl _) hr)⟩
        have : r = s := by
          by_cases hrs : r = s
          · exact hrs
          · exact absurd rfl (hI.2.2.2.1 r s hr h4 hrs d hm d h5)
        subst this
        rw [if_pos hm]
      · refine ⟨fun s h3 h4 h5 => ?_, fun h => ?_⟩
        · have : r ≠ s := fun q => hm (q ▸ h5)
          rw [if_neg hm]
          exact a1 s (by omega) h4 h5
        · rw [if_neg hm]
          exact a2 (fun s h3 h4 => h s (by omega) h4)
theorem p_rowWith (hM : MA (core v) x) (hI : Inv T x) {d r : Nat} (hr : r < 8) (h : d ∈ sq x r) : f_X4_rowWith (nI d) v = some (nI r) := by
  unfold f_X4_rowWith
  exact (p_rowWith_2 hM hI (sq_lt hI hr h) NF 0 (by omega) (by rw [NF_eq]; decide)).1 r (Nat.zero_le _) hr h
theorem p_rowWith_no (hM : MA (core v) x) (hI : Inv T x) {d : Nat} (hd : d < 600) (h : ∀ s, s < 8 → d ∉ sq x s) : f_X4_rowWith (nI d) v = some (-1) := by
  unfold f_X4_rowWith
  exact (p_rowWith_2 hM hI hd NF 0 (by omega) (by rw [NF_eq]; decide)).2 (fun s _ => h s)
theorem p_placeOf_2 (hM : MA (core v) x) (hI : Inv T x) {r d : Nat} (hr : r < 8) (hd : d ∈ sq x r) : ∀ (n i : Nat), i ≤ pos (sq x r) d → pos (sq x r) d - i < n → f_X4_placeOf_2 n (nI r) (nI d) (nI i) v = some (nI (pos (sq x r) d)) := by
  have hl := len600 hI hr
  have hp := pos_lt hd
  intro n
  induction n with
  | zero => intro i h1 h2; omega
  | succ n ih =>
    intro i h1 h2
    have hi : i < (sq x r).length := by omega
    have e7 : v.2.1 7 (600 * r + i) = nI ((sq x r).getD i 0) := hM.2.2.1 r hr i hi
    have hm := sq_lt hI hr (getD_mem hi)
    have hm2 := sq_lt hI hr hd
    rw [f_X4_placeOf_2, ma600, if_pos (ix_nI (by omega) (by omega)), nI_clamp (by omega), e7]
    by_cases e : i = pos (sq x r) d
    · subst e
      rw [if_pos (by rw [pos_at hd])]
    · rw [if_neg (fun q => e (by rw [← (nI_eq (by omega) (by omega)).mp q, pos_of (hI.2.2.1 r hr) hi])), nI_1]
      exact ih (i + 1) (by omega) (by omega)
theorem p_placeOf (hM : MA (core v) x) (hI : Inv T x) {r d : Nat} (hr : r < 8) (hd : d ∈ sq x r) : f_X4_placeOf (nI r) (nI d) v = some (nI (pos (sq x r) d)) := by
  unfold f_X4_placeOf
  exact p_placeOf_2 hM hI hr hd NF 0 (Nat.zero_le _) (by rw [NF_eq]; have := len600 hI hr; have := pos_lt hd; omega)
/-- a number of a thing that stands somewhere -/
def Thg (x : XS) (y : Int32) (t r : Nat) : Prop := y = nI t ∧ r < 8 ∧ 2 * t ∈ sq x r
theorem two_nI (t : Nat) : (2 : Int32) * nI t = nI (2 * t) := by rw [show (2 : Int32) = nI 2 from rfl, pk_mul]
theorem p_in_yes {a b : Nat} (h : a < b) (hb : b ≤ 300) : f_X4_in (nI a) 0 (nI b - 1) = some 1 := by
  unfold f_X4_in
  obtain ⟨c, rfl⟩ : ∃ c, b = c + 1 := ⟨b - 1, by omega⟩
  rw [if_neg (nI_pos (by omega)), nI_pred, if_neg (nI_nlt (by omega) (by omega))]
theorem p_in_no {y : Int32} {T : Nat} (hT : T ≤ 300) (h : ∀ t, t < T → y ≠ nI t) : f_X4_in y 0 (nI T - 1) = some 0 := by
  unfold f_X4_in
  by_cases h0 : y < 0
  · rw [if_pos h0]
  · rw [if_neg h0]
    obtain ⟨j, hj, rfl⟩ := nI_of h0
    have hj2 : T ≤ j := by
      rcases Nat.lt_or_ge j T with q | q
      · exact absurd rfl (h j q)
      · exact q
    rw [if_pos]
    match T, hj2 with
    | 0, _ => rw [nI_0, Int32.lt_iff_toInt_lt, nI_toInt hj]; simp only [show ((0 : Int32) - 1).toInt = -1 from by decide]; omega
    | T + 1, hj2 => rw [nI_pred]; exact nI_lt (by omega) hj
theorem p_isThing (hM : MA (core v) x) (hI : Inv T x) (h1 : v.1 1 = nI T) {y : Int32} {t r : Nat} (h : Thg x y t r) : f_X4_isThing y v = some 1 := by
  obtain ⟨rfl, hr, hm⟩ := h
  have ht := hI.2.2.2.2.1 r hr _ hm
  unfold f_X4_isThing
  rw [h1, p_in_yes (by omega) hI.1, Option.bind_some, if_neg (by decide), two_nI, p_rowWith hM hI hr hm, Option.bind_some, if_neg]
  intro q
  have := nI_pos (n := r) (by omega)
  rw [q] at this
  exact this (by decide)
theorem p_isThing_no (hM : MA (core v) x) (hI : Inv T x) (h1 : v.1 1 = nI T) {y : Int32} (h : ∀ t r, ¬ Thg x y t r) : f_X4_isThing y v = some 0 := by
  unfold f_X4_isThing
  rw [h1]
  by_cases hy : ∃ t, t < T ∧ y = nI t
  · obtain ⟨t, ht, rfl⟩ := hy
    have := hI.1
    rw [p_in_yes ht hI.1, Option.bind_some, if_neg (by decide), two_nI, p_rowWith_no hM hI (by omega) (fun s hs hm => h t s ⟨rfl, hs, hm⟩), Option.bind_some, if_pos rfl]
  · rw [p_in_no hI.1 (fun t ht e => hy ⟨t, ht, e⟩), Option.bind_some, if_pos rfl]
theorem thg_dec (x : XS) (y : Int32) : (∃ t r, Thg x y t r) ∨ ∀ t r, ¬ Thg x y t r := by
  by_cases h : ∃ t r, Thg x y t r
  · exact Or.inl h
  · exact Or.inr fun t r q => h ⟨t, r, q⟩
end PM
