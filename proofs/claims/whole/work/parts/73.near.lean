/-! ===== near, depth, meet ===== -/
theorem m1_lt {a : Nat} (h : a < 2 ^ 30) : nI a + (-1) < nI a := by
  rw [Int32.lt_iff_toInt_lt]
  have e : nI a + (-1) = nI a - nI 1 := by rw [Int32.sub_eq_add_neg]; rfl
  rw [e, pk_sub_toInt h (by omega), nI_toInt (by omega)]
  omega
/-- the last place ahead of n with P -/
theorem lst (P : Nat → Prop) (n : Nat) : ∃ Q, Q ≤ n ∧ (∀ i, Q ≤ i → i < n → ¬ P i) ∧ (0 < Q → P (Q - 1)) := by
  induction n with
  | zero => exact ⟨0, Nat.le_refl _, fun i _ h => absurd h (Nat.not_lt_zero _), fun h => absurd h (Nat.lt_irrefl _)⟩
  | succ n ih =>
    by_cases h : P n
    · exact ⟨n + 1, Nat.le_refl _, fun i h1 h2 => absurd h2 (by omega), fun _ => h⟩
    · obtain ⟨Q, q1, q2, q3⟩ := ih
      refine ⟨Q, by omega, fun i h1 h2 => ?_, q3⟩
      by_cases e : i = n
      · subst e; exact h
      · exact q2 i h1 (by omega)
/-- the first place from n on with P -/
theorem fst_from (P : Nat → Prop) (n : Nat) : ∀ g, ∃ Q, n ≤ Q ∧ Q ≤ n + g ∧ (∀ i, n ≤ i → i < Q → ¬ P i) ∧ (Q < n + g → P Q) := by
  intro g
  induction g with
  | zero => exact ⟨n, Nat.le_refl _, Nat.le_refl _, fun i h1 h2 => absurd h2 (by omega), fun h => absurd h (by omega)⟩
  | succ g ih =>
    obtain ⟨Q, q1, q2, q3, q4⟩ := ih
    by_cases h : Q < n + g
    · exact ⟨Q, q1, by omega, q3, fun _ => q4 h⟩
    · have : Q = n + g := by omega
      subst this
      by_cases h2 : P (n + g)
      · exact ⟨n + g, q1, by omega, q3, fun _ => h2⟩
      · refine ⟨n + (g + 1), by omega, by omega, fun i h3 h4 => ?_, fun h => absurd h (by omega)⟩
        by_cases e : i = n + g
        · subst e; exact h2
        · exact q3 i h3 (by omega)
/-- no thing begins at the places a .. b - 1 -/
theorem evn_gap {l : List Nat} {a b : Nat} (h : a ≤ b) (hb : b ≤ l.length) (hn : ∀ i, a ≤ i → i < b → l.getD i 0 % 2 ≠ 0) : evn (l.take b) = evn (l.take a) := by
  induction b with
  | zero => have : a = 0 := by omega
            subst this; rfl
  | succ b ih =>
    by_cases e : a = b + 1
    · subst e; rfl
    · rw [evn_s (by omega), if_neg (hn b (by omega) (by omega)), Nat.add_zero]
      exact ih (by omega) (by omega) (fun i h1 h2 => hn i h1 (by omega))
section NEAR
variable {a : SS} {v : MS} {x : XS} {T r t : Nat}
/-- there is no thing of number -1 -/
theorem q_atm (hC : CA a x) (hI : Inv T x) (hr : r < 8) : f_X2_thingNumber (nI r) (-1) a = some (-1) := by
  have h6 := off_le6 hI hr
  have hen := q_end hC hr
  unfold f_X2_thingNumber
  rw [q_first hC hr, Option.bind_some]
  refine loopE (fun m i => f_X2_thingNumber_12 m (nI r) (-1) (nI (evn ((sq x r).take i))) (nI (off x r + i)) a) (a := 0) (b := (sq x r).length) (Nat.zero_le _) (NF_lt (by omega)) (fun m i h3 h4 => ?_) (fun m => ?_)
  · have hd := sq_lt hI hr (getD_mem (l := sq x r) (i := i) (by omega))
    have hle := evn_le ((sq x r).take i)
    rw [List.length_take] at hle
    rw [f_X2_thingNumber_12, hen, Option.bind_some, if_neg (nI_ge (by omega) (by omega)), q_standR hC hI hr h4, Option.bind_some, isEnd_eq hd, Option.bind_some, Option.bind_some, evn_s h4]
    by_cases z : (sq x r).getD i 0 % 2 = 0
    · rw [if_pos z, if_pos rfl, if_neg (ne_m1 (by omega)), if_pos rfl, if_pos z, nI_1, nI_1]
      rfl
    · rw [if_neg z, if_neg (by decide), if_neg (by decide), if_neg z, nI_1]
      rfl
  · rw [f_X2_thingNumber_12, hen, Option.bind_some, if_pos (nI_le (Nat.le_refl _) (by omega))]
theorem up_both (hC : CA a x) (hM : MA (core v) x) (hI : Inv T x) (hr : r < 8) (hm : 2 * t ∈ sq x r) : ∃ y, f_X2_neighbour (nI t) 1 a = some y ∧ f_X4_thingFrom (nI r) (nI (pos (sq x r) (2 * t)) + 1) 1 v = some y ∧ ((∃ P, pos (sq x r) (2 * t) < P ∧ P < (sq x r).length ∧ (sq x r).getD P 0 % 2 = 0 ∧ y = nI ((sq x r).getD P 0 / 2) ∧ ∀ i, pos (sq x r) (2 * t) < i → i < P → (sq x r).getD i 0 % 2 ≠ 0) ∨ (y = -1 ∧ ∀ i, pos (sq x r) (2 * t) < i → i < (sq x r).length → (sq x r).getD i 0 % 2 ≠ 0)) := by
  have hp := pos_lt hm
  have h6 := off_le6 hI hr
  have hl := len600 hI hr
  have e4 : v.2.1 4 r = nI (sq x r).length := hM.2.1 r hr
  obtain ⟨Q, q1, q2, q3, q4⟩ := fst_from (fun i => (sq x r).getD i 0 % 2 = 0) (pos (sq x r) (2 * t) + 1) ((sq x r).length - (pos (sq x r) (2 * t) + 1))
  have q2' : Q ≤ (sq x r).length := by omega
  have hfi := q_first hC hr
  have hen := q_end hC hr
  refine ⟨if Q < (sq x r).length then nI ((sq x r).getD Q 0 / 2) else -1, ?_, ?_, ?_⟩
  · unfold f_X2_neighbour
    rw [q_rowT hC hI hr hm, Option.bind_some, q_index hC hI hr hm, Option.bind_some, nI_1]
    have hE : evn ((sq x r).take Q) = evn ((sq x r).take (pos (sq x r) (2 * t))) + 1 := by
      rw [evn_gap q1 q2' q3, evn_s hp, pos_at hm, if_pos (by omega)]
    have hle := evn_le ((sq x r).take (pos (sq x r) (2 * t)))
    rw [List.length_take] at hle
    have hat := q_at hC hI hr (j := evn ((sq x r).take (pos (sq x r) (2 * t))) + 1) (by omega)
    by_cases z : Q < (sq x r).length
    · rw [hat.1 Q z (q4 (by omega)) hE, Option.bind_some, if_pos z]
    · have hQ : Q = (sq x r).length := by omega
      rw [hQ, List.take_length] at hE
      rw [hat.2 (Nat.le_of_eq hE), Option.bind_some, if_neg z]
  · unfold f_X4_thingFrom
    rw [nI_1]
    refine loopE (fun m i => f_X4_thingFrom_3 m (nI r) 1 (nI i) v) (a := pos (sq x r) (2 * t) + 1) (b := Q) q1 (NF_lt (by omega)) (fun m i h1 h2 => ?_) (fun m => ?_)
    · have hd := sq_lt hI hr (getD_mem (l := sq x r) (i := i) (by omega))
      have e7 : v.2.1 7 (600 * r + i) = nI ((sq x r).getD i 0) := hM.2.2.1 r hr i (by omega)
      have hq := q3 i h1 h2
      rw [f_X4_thingFrom_3, if_neg (nI_pos (by omega)), if_pos (ix_nI hr (by omega)), nI_clamp (by omega), e4, if_neg (nI_ge (by omega) (by omega)), ma600, if_pos (ix_nI (by omega) (by omega)), nI_clamp (by omega), e7, rem2 (by omega), if_neg (nI_ne0 (by omega) (by omega)), nI_1]
    · rw [f_X4_thingFrom_3, if_neg (nI_pos (by omega)), if_pos (ix_nI hr (by omega)), nI_clamp (by omega), e4]
      by_cases z : Q < (sq x r).length
      · have hd := sq_lt hI hr (getD_mem (l := sq x r) (i := Q) z)
        have e7 : v.2.1 7 (600 * r + Q) = nI ((sq x r).getD Q 0) := hM.2.2.1 r hr Q z
        have hq : (sq x r).getD Q 0 % 2 = 0 := q4 (by omega)
        rw [if_neg (nI_ge (by omega) (by omega)), ma600, if_pos (ix_nI (by omega) (by omega)), if_pos (ix_nI (by omega) (by omega)), nI_clamp (by omega), e7, rem2 (by omega), hq, if_pos nI_0, div2 (by omega), if_pos z]
      · rw [if_pos (nI_le (by omega) (by omega)), if_neg z]
  · by_cases z : Q < (sq x r).length
    · rw [if_pos z]
      exact Or.inl ⟨Q, by omega, z, q4 (by omega), rfl, fun i h1 h2 => q3 i (by omega) h2⟩
    · rw [if_neg z]
      exact Or.inr ⟨rfl, fun i h1 h2 => q3 i (by omega) (by omega)⟩
theorem down_both (hC : CA a x) (hM : MA (core v) x) (hI : Inv T x) (hr : r < 8) (hm : 2 * t ∈ sq x r) : ∃ y, f_X2_neighbour (nI t) (-1) a = some y ∧ f_X4_thingFrom (nI r) (nI (pos (sq x r) (2 * t)) - 1) (-1) v = some y := by
  have hp := pos_lt hm
  have h6 := off_le6 hI hr
  have hl := len600 hI hr
  have e4 : v.2.1 4 r = nI (sq x r).length := hM.2.1 r hr
  obtain ⟨Q, q1, q2, q3⟩ := lst (fun i => (sq x r).getD i 0 % 2 = 0) (pos (sq x r) (2 * t))
  have hfi := q_first hC hr
  have hen := q_end hC hr
  refine ⟨if 0 < Q then nI ((sq x r).getD (Q - 1) 0 / 2) else -1, ?_, ?_⟩
  · unfold f_X2_neighbour
    rw [q_rowT hC hI hr hm, Option.bind_some, q_index hC hI hr hm, Option.bind_some]
    have hE := evn_gap q1 (Nat.le_of_lt hp) q2
    have hle := evn_le ((sq x r).take Q)
    rw [List.length_take] at hle
    by_cases z : 0 < Q
    · have hq : (sq x r).getD (Q - 1) 0 % 2 = 0 := q3 z
      have hs := evn_s (l := sq x r) (i := Q - 1) (by omega)
      rw [if_pos hq, Nat.sub_add_cancel z] at hs
      rw [hE, hs, nI_m1 (by omega), Nat.add_sub_cancel, (q_at hC hI hr (j := evn ((sq x r).take (Q - 1))) (by omega)).1 (Q - 1) (by omega) hq rfl, Option.bind_some, if_pos z]
    · have : Q = 0 := by omega
      subst this
      have e0 : evn ((sq x r).take 0) = 0 := by rw [List.take_zero]; rfl
      rw [hE, e0, nI_0, show (0 : Int32) + (-1) = -1 from by decide, q_atm hC hI hr, Option.bind_some, if_neg z]
  · unfold f_X4_thingFrom
    rw [Int32.sub_eq_add_neg]
    refine loopD (fun m i => f_X4_thingFrom_3 m (nI r) (-1) (nI i + (-1)) v) (a := pos (sq x r) (2 * t)) (b := Q) q1 (NF_lt (by omega)) (fun m i h1 h2 => ?_) (fun m => ?_)
    · have hd := sq_lt hI hr (getD_mem (l := sq x r) (i := i) (by omega))
      have e7 : v.2.1 7 (600 * r + i) = nI ((sq x r).getD i 0) := hM.2.2.1 r hr i (by omega)
      have hq := q2 i h1 h2
      have e1 : nI (i + 1) + (-1) = nI i := pk_m1 _
      rw [f_X4_thingFrom_3, e1, if_neg (nI_pos (by omega)), if_pos (ix_nI hr (by omega)), nI_clamp (by omega), e4, if_neg (nI_ge (by omega) (by omega)), ma600, if_pos (ix_nI (by omega) (by omega)), nI_clamp (by omega), e7, rem2 (by omega), if_neg (nI_ne0 (by omega) (by omega))]
    · rw [f_X4_thingFrom_3]
      by_cases z : 0 < Q
      · have hd := sq_lt hI hr (getD_mem (l := sq x r) (i := Q - 1) (by omega))
        have e7 : v.2.1 7 (600 * r + (Q - 1)) = nI ((sq x r).getD (Q - 1) 0) := hM.2.2.1 r hr (Q - 1) (by omega)
        have hq : (sq x r).getD (Q - 1) 0 % 2 = 0 := q3 z
        rw [nI_m1 z, if_neg (nI_pos (by omega)), if_pos (ix_nI hr (by omega)), nI_clamp (by omega), e4, if_neg (nI_ge (by omega) (by omega)), ma600, if_pos (ix_nI (by omega) (by omega)), if_pos (ix_nI (by omega) (by omega)), nI_clamp (by omega), e7, rem2 (by omega), hq, if_pos nI_0, div2 (by omega), if_pos z]
      · have : Q = 0 := by omega
        subst this
        rw [if_pos (by decide), if_neg z]
/-- o is the innermost with both within it -/
def Inm (x : XS) (r t s : Nat) (y : Int32) : Prop := (∃ o, 2 * o ∈ sq x r ∧ Wi x r o t ∧ Wi x r o s ∧ y = nI o ∧ ∀ o', 2 * o' ∈ sq x r → Wi x r o' t → Wi x r o' s → pos (sq x r) (2 * o') ≤ pos (sq x r) (2 * o)) ∨ ((∀ o, 2 * o ∈ sq x r → Wi x r o t → ¬ Wi x r o s) ∧ y = -1)
theorem Inm_uq {s : Nat} {y1 y2 : Int32} (h1 : Inm x r t s y1) (h2 : Inm x r t s y2) : y1 = y2 := by
  rcases h1 with ⟨o, a1, a2, a3, a4, a5⟩ | ⟨a1, a2⟩
  · rcases h2 with ⟨p, b1, b2, b3, b4, b5⟩ | ⟨b1, b2⟩
    · have c1 := a5 p b1 b2 b3
      have c2 := b5 o a1 a2 a3
      have := pos_inj a1 b1 (by omega)
      rw [a4, b4]
      congr 1
      omega
    · exact absurd a3 (b1 o a1 a2)
  · rcases h2 with ⟨p, b1, b2, b3, b4, b5⟩ | ⟨b1, b2⟩
    · exact absurd b3 (a1 p b1 b2)
    · rw [a2, b2]
theorem Wi_pos {s : Nat} (h : Wi x r t s) : pos (sq x r) (2 * t) < pos (sq x r) (2 * s) := h.2.1
theorem q_innermost (hC : CA a x) (hI : Inv T x) (hN : Nest x) {s : Nat} (hr : r < 8) (hm : 2 * t ∈ sq x r) (hs : 2 * s ∈ sq x r) : ∃ y, f_X2_innermost (nI t) (nI s) a = some y ∧ Inm x r t s y := by
  have hp := pos_lt hm
  have h6 := off_le6 hI hr
  have hl := len600 hI hr
  have hfi := q_first hC hr
  have hn := hI.2.2.1 r hr
  obtain ⟨Q, q1, q2, q3⟩ := lst (fun i => Wi x r ((sq x r).getD i 0 / 2) t ∧ Wi x r ((sq x r).getD i 0 / 2) s) (pos (sq x r) (2 * t))
  have hcomp : ∀ i, i < (sq x r).length → 2 * ((sq x r).getD i 0 / 2) ∈ sq x r := fun i hi => comp hI hN hr (getD_mem hi)
  refine ⟨if 0 < Q then nI ((sq x r).getD (Q - 1) 0 / 2) else -1, ?_, ?_⟩
  · unfold f_X2_innermost
    rw [q_rowT hC hI hr hm, Option.bind_some, q_first2 hC hI hr hm, Option.bind_some, Int32.sub_eq_add_neg]
    have hth : ∀ d, d < 600 → f_X3_thingOf (nI d) = some (nI (d / 2)) := fun d hd => by unfold f_X3_thingOf; rw [shr1 (by omega)]
    refine loopD (fun m i => f_X2_innermost_18 m (nI t) (nI s) (nI r) (nI (off x r + i) + (-1)) a) (a := pos (sq x r) (2 * t)) (b := Q) q1 (NF_lt (by omega)) (fun m i h1 h2 => ?_) (fun m => ?_)
    · have hd := sq_lt hI hr (getD_mem (l := sq x r) (i := i) (by omega))
      have e1 : nI (off x r + (i + 1)) + (-1) = nI (off x r + i) := pk_m1 _
      have hno := q2 i h1 h2
      rw [f_X2_innermost_18, e1, hfi, Option.bind_some, if_neg (nI_nlt (by omega) (by omega)), q_standR hC hI hr (by omega), Option.bind_some, hth _ hd, Option.bind_some]
      by_cases z : Wi x r ((sq x r).getD i 0 / 2) t
      · rw [(q_enc hC hI hN hr (hcomp i (by omega)) hm).1 z, Option.bind_some, if_neg (by decide), (q_enc hC hI hN hr (hcomp i (by omega)) hs).2 (fun w => hno ⟨z, w⟩), Option.bind_some, if_pos rfl]
      · rw [(q_enc hC hI hN hr (hcomp i (by omega)) hm).2 z, Option.bind_some, if_pos rfl]
    · rw [f_X2_innermost_18, hfi, Option.bind_some]
      by_cases z : 0 < Q
      · have hd := sq_lt hI hr (getD_mem (l := sq x r) (i := Q - 1) (by omega))
        have e1 : nI (off x r + Q) + (-1) = nI (off x r + (Q - 1)) := by
          rw [nI_m1 (by omega)]
          congr 1
          omega
        obtain ⟨w1, w2⟩ := q3 z
        rw [e1, if_neg (nI_nlt (by omega) (by omega)), q_standR hC hI hr (by omega), Option.bind_some, hth _ hd, Option.bind_some, (q_enc hC hI hN hr (hcomp _ (by omega)) hm).1 w1, Option.bind_some, if_neg (by decide), (q_enc hC hI hN hr (hcomp _ (by omega)) hs).1 w2, Option.bind_some, if_neg (by decide), if_pos z]
      · have : Q = 0 := by omega
        subst this
        rw [Nat.add_zero, if_pos (m1_lt (by omega)), if_neg z]
  · by_cases z : 0 < Q
    · obtain ⟨w1, w2⟩ := q3 z
      rw [if_pos z]
      refine Or.inl ⟨_, hcomp (Q - 1) (by omega), w1, w2, rfl, fun o' o1 o2 o3 => ?_⟩
      have hpo := Wi_pos o2
      have h7 : pos (sq x r) (2 * o') ≤ Q - 1 := by
        rcases Nat.lt_or_ge (pos (sq x r) (2 * o')) Q with y | y
        · omega
        · exfalso
          refine q2 _ y hpo ?_
          rw [pos_at o1, show 2 * o' / 2 = o' from by omega]
          exact ⟨o2, o3⟩
      -- the one at Q - 1 is a thing, not an END
      have hev : (sq x r).getD (Q - 1) 0 % 2 = 0 := by
        rcases Nat.mod_two_eq_zero_or_one ((sq x r).getD (Q - 1) 0) with y | y
        · exact y
        · exfalso
          have e1 : 2 * ((sq x r).getD (Q - 1) 0 / 2) + 1 = (sq x r).getD (Q - 1) 0 := by omega
          have := w1.2.2
          rw [e1, pos_of hn (by omega)] at this
          omega
      have e2 : 2 * ((sq x r).getD (Q - 1) 0 / 2) = (sq x r).getD (Q - 1) 0 := by omega
      rw [e2, pos_of hn (by omega)]
      exact h7
    · rw [if_neg z]
      refine Or.inr ⟨fun o o1 o2 o3 => ?_, rfl⟩
      refine q2 _ (by omega) (Wi_pos o2) ?_
      rw [pos_at o1, show 2 * o / 2 = o from by omega]
      exact ⟨o2, o3⟩
theorem p_outer (hM : MA (core v) x) (hI : Inv T x) (hN : Nest x) (hr : r < 8) (hm : 2 * t ∈ sq x r) : ∃ y, f_X4_outerOf (nI r) (nI t) v = some y ∧ Inm x r t t y := by
  have hp := pos_lt hm
  have hl := len600 hI hr
  have hn := hI.2.2.1 r hr
  obtain ⟨Q, q1, q2, q3⟩ := lst (fun i => (sq x r).getD i 0 % 2 = 0 ∧ Wi x r ((sq x r).getD i 0 / 2) t) (pos (sq x r) (2 * t))
  have hcomp : ∀ i, i < (sq x r).length → 2 * ((sq x r).getD i 0 / 2) ∈ sq x r := fun i hi => comp hI hN hr (getD_mem hi)
  refine ⟨if 0 < Q then nI ((sq x r).getD (Q - 1) 0 / 2) else -1, ?_, ?_⟩
  · unfold f_X4_outerOf
    rw [p_placeT hM hI hr hm, Option.bind_some, Int32.sub_eq_add_neg]
    refine loopD (fun m i => f_X4_outerOf_11 m (nI r) (nI t) (nI i + (-1)) v) (a := pos (sq x r) (2 * t)) (b := Q) q1 (NF_lt (by omega)) (fun m i h1 h2 => ?_) (fun m => ?_)
    · have hd := sq_lt hI hr (getD_mem (l := sq x r) (i := i) (by omega))
      have e7 : v.2.1 7 (600 * r + i) = nI ((sq x r).getD i 0) := hM.2.2.1 r hr i (by omega)
      have e1 : nI (i + 1) + (-1) = nI i := pk_m1 _
      have hno := q2 i h1 h2
      rw [f_X4_outerOf_11, e1, if_neg (nI_pos (by omega)), ma600, if_pos (ix_nI (by omega) (by omega)), nI_clamp (by omega), e7, rem2 (by omega), div2 (by omega)]
      by_cases z : (sq x r).getD i 0 % 2 = 0
      · rw [z, if_pos nI_0, (p_within hM hI hN hr (hcomp i (by omega)) hm).2 (fun w => hno ⟨z, w⟩), Option.bind_some, if_pos rfl]
      · rw [if_neg (nI_ne0 (by omega) (by omega))]
    · rw [f_X4_outerOf_11]
      by_cases z : 0 < Q
      · have hd := sq_lt hI hr (getD_mem (l := sq x r) (i := Q - 1) (by omega))
        have e7 : v.2.1 7 (600 * r + (Q - 1)) = nI ((sq x r).getD (Q - 1) 0) := hM.2.2.1 r hr (Q - 1) (by omega)
        obtain ⟨w1, w2⟩ := q3 z
        rw [nI_m1 z, if_neg (nI_pos (by omega)), ma600, if_pos (ix_nI (by omega) (by omega)), nI_clamp (by omega), e7, rem2 (by omega), div2 (by omega), w1, if_pos nI_0, (p_within hM hI hN hr (hcomp _ (by omega)) hm).1 w2, Option.bind_some, if_neg (by decide), if_pos z]
      · have : Q = 0 := by omega
        subst this
        rw [if_pos (by decide), if_neg z]
  · by_cases z : 0 < Q
    · obtain ⟨w1, w2⟩ := q3 z
      rw [if_pos z]
      refine Or.inl ⟨_, hcomp (Q - 1) (by omega), w2, w2, rfl, fun o' o1 o2 o3 => ?_⟩
      have hpo := Wi_pos o2
      have h7 : pos (sq x r) (2 * o') ≤ Q - 1 := by
        rcases Nat.lt_or_ge (pos (sq x r) (2 * o')) Q with y | y
        · omega
        · exfalso
          refine q2 _ y hpo ?_
          rw [pos_at o1, show 2 * o' / 2 = o' from by omega]
          exact ⟨by omega, o2⟩
      have e2 : 2 * ((sq x r).getD (Q - 1) 0 / 2) = (sq x r).getD (Q - 1) 0 := by omega
      rw [e2, pos_of hn (by omega)]
      exact h7
    · rw [if_neg z]
      refine Or.inr ⟨fun o o1 o2 o3 => ?_, rfl⟩
      refine q2 _ (by omega) (Wi_pos o2) ?_
      rw [pos_at o1, show 2 * o / 2 = o from by omega]
      exact ⟨by omega, o2⟩
end NEAR
theorem st_near : Sp_near Rl := by
  intro u v x1 x2 hr
  obtain ⟨T, x, h⟩ := hr.now
  have h' := p_th h
  obtain ⟨hC, hM, hI, hN, h5, h6⟩ := id h
  obtain ⟨-, hM', -, -, -, h6'⟩ := id h'
  rcases thg_dec x x1 with ⟨t, r, hq⟩ | hno
  · have a1 := q_isStanding h hq
    have a2 := p_isThing hM' hI h6' hq
    obtain ⟨rfl, hr8, hm⟩ := hq
    have hp := pos_lt hm
    have hl := len600 hI hr8
    have b1 : f_X3_near (nI t) x2 u = (if x2 = 0 then (f_X2_neighbour (nI t) (-1) u.2.2.2.2.1).bind (fun z5 => some z5) else (if x2 = 1 then (f_X2_neighbour (nI t) 1 u.2.2.2.2.1).bind (fun z8 => some z8) else (if x2 = 2 then (f_X2_innermost (nI t) (nI t) u.2.2.2.2.1).bind (fun z11 => some z11) else (if x2 = 3 then (f_X2_firstWithin (nI t) u.2.2.2.2.1).bind (fun z14 => some z14) else some (-3))))) := by
      unfold f_X3_near
      rw [a1, Option.bind_some, if_neg (by decide)]
    rcases in_dec x2 0 3 (by omega) (by omega) with ⟨i1, k, -, hk3, rfl⟩ | ⟨i1, hx⟩
    · have i1' : f_X4_in (nI k) 0 3 = some 1 := i1
      have b2 : f_X4_near (nI t) (nI k) v = (if nI k = 0 then (f_X4_thingFrom (nI r) (nI (pos (sq x r) (2 * t)) - 1) (-1) (mF v 0 0)).bind (fun z22 => some (z22, (mF v 0 0))) else (if nI k = (1 : Int32) then (f_X4_thingFrom (nI r) (nI (pos (sq x r) (2 * t)) + 1) 1 (mF v 0 0)).bind (fun z20 => some (z20, (mF v 0 0))) else (if nI k = (2 : Int32) then (f_X4_outerOf (nI r) (nI t) (mF v 0 0)).bind (fun z18 => some (z18, (mF v 0 0))) else (f_X4_span (nI r) (nI t) (mF v 0 0)).bind (fun z14 => (if z14 ≤ (2 : Int32) then some ((-1), (mF v 0 0)) else (if ix (((600 * nI r) + nI (pos (sq x r) (2 * t))) + 1) 4800 = true then some ((((mF v 0 0).2.1 7 (Int32.toNatClampNeg (((600 * nI r) + nI (pos (sq x r) (2 * t))) + 1))) / 2), (mF v 0 0)) else none)))))) := by
        unfold f_X4_near
        rw [a2, Option.bind_some, if_neg (by decide), i1', Option.bind_some, if_neg (by decide), p_rowT hM' hI hr8 hm, Option.bind_some, p_placeT hM' hI hr8 hm, Option.bind_some]
      have hk : k = 0 ∨ k = 1 ∨ k = 2 ∨ k = 3 := by omega
      rcases hk with rfl | rfl | rfl | rfl
      · obtain ⟨y, g1, g2⟩ := down_both hC hM' hI hr8 hm
        rw [if_pos nI_0, g1, Option.bind_some] at b1
        rw [if_pos nI_0, g2, Option.bind_some] at b2
        exact ⟨_, _, b1, b2, rfl, Rl_th hr⟩
      · obtain ⟨y, g1, g2, -⟩ := up_both hC hM' hI hr8 hm
        rw [if_neg (by decide), if_pos (by decide), g1, Option.bind_some] at b1
        rw [if_neg (by decide), if_pos (by decide), g2, Option.bind_some] at b2
        exact ⟨_, _, b1, b2, rfl, Rl_th hr⟩
      · obtain ⟨y1, g1, k1⟩ := q_innermost hC hI hN hr8 hm hm
        obtain ⟨y2, g2, k2⟩ := p_outer hM' hI hN hr8 hm
        rw [if_neg (by decide), if_neg (by decide), if_pos (by decide), g1, Option.bind_some] at b1
        rw [if_neg (by decide), if_neg (by decide), if_pos (by decide), g2, Option.bind_some] at b2
        exact ⟨_, _, b1, b2, Inm_uq k1 k2, Rl_th hr⟩
      · rw [if_neg (by decide), if_neg (by decide), if_neg (by decide), if_pos (by decide)] at b1
        rw [if_neg (by decide), if_neg (by decide), if_neg (by decide), p_span hM' hI hN hr8 hm, Option.bind_some] at b2
        obtain ⟨y, g1, -, hy⟩ := up_both hC hM' hI hr8 hm
        unfold f_X2_firstWithin at b1
        rw [g1, Option.bind_some] at b1
        by_cases w : xk x r = 3
        · obtain ⟨t1, t2, t3, t4⟩ := thing_at (hN r hr8 w) (hI.2.2.1 r hr8) hm
          have hsp : spn x r t = pos (sq x r) (2 * t + 1) - pos (sq x r) (2 * t) + 1 := if_pos w
          have hpe := pos_lt t1
          rw [hsp] at b2
          by_cases z : pos (sq x r) (2 * t + 1) = pos (sq x r) (2 * t) + 1
          · -- nothing within
            rw [if_pos (show nI (pos (sq x r) (2 * t + 1) - pos (sq x r) (2 * t) + 1) ≤ 2 from nI_le (b := 2) (by omega) (by omega))] at b2
            rcases hy with ⟨P, p1, p2, p3, p4, p5⟩ | ⟨p4, p5⟩
            · have hd := sq_lt hI hr8 (getD_mem p2)
              have hPe : P ≠ pos (sq x r) (2 * t + 1) := fun e => by
                rw [e, pos_at t1] at p3
                omega
              have e2 : 2 * ((sq x r).getD P 0 / 2) = (sq x r).getD P 0 := by omega
              have hmP : 2 * ((sq x r).getD P 0 / 2) ∈ sq x r := by rw [e2]; exact getD_mem p2
              have hnw : ¬ Wi x r t ((sq x r).getD P 0 / 2) := by
                intro y2
                have := y2.2.2
                rw [e2, pos_of (hI.2.2.1 r hr8) p2] at this
                omega
              rw [p4, if_neg (ne_m1 (by omega)), (q_enc hC hI hN hr8 hm hmP).2 hnw, Option.bind_some, if_pos rfl, Option.bind_some] at b1
              exact ⟨_, _, b1, b2, rfl, Rl_th hr⟩
            · rw [p4, if_pos rfl, Option.bind_some] at b1
              exact ⟨_, _, b1, b2, rfl, Rl_th hr⟩
          · -- the next one is within
            have hp1 : pos (sq x r) (2 * t) + 1 < (sq x r).length := by omega
            have hev : (sq x r).getD (pos (sq x r) (2 * t) + 1) 0 % 2 = 0 := by
              obtain ⟨g, hg⟩ : ∃ g, pos (sq x r) (2 * t + 1) - pos (sq x r) (2 * t) - 1 = g + 1 := ⟨pos (sq x r) (2 * t + 1) - pos (sq x r) (2 * t) - 2, by omega⟩
              rw [hg, seg_s hp1] at t4
              rcases Nat.mod_two_eq_zero_or_one ((sq x r).getD (pos (sq x r) (2 * t) + 1) 0) with y2 | y2
              · exact y2
              · rw [run_o0 (by omega)] at t4; cases t4
            rw [if_neg (show ¬ nI (pos (sq x r) (2 * t + 1) - pos (sq x r) (2 * t) + 1) ≤ 2 from nI_ge (a := 2) (by omega) (by omega))] at b2
            have hd := sq_lt hI hr8 (getD_mem hp1)
            have e7 : (mF v 0 0).2.1 7 (600 * r + (pos (sq x r) (2 * t) + 1)) = nI ((sq x r).getD (pos (sq x r) (2 * t) + 1) 0) := hM'.2.2.1 r hr8 _ hp1
            rw [ma600, nI_1, Nat.add_assoc, if_pos (ix_nI (by omega) (by omega)), nI_clamp (by omega), e7, div2 (by omega)] at b2
            rcases hy with ⟨P, p1, p2, p3, p4, p5⟩ | ⟨p4, p5⟩
            · have hP : P = pos (sq x r) (2 * t) + 1 := by
                rcases Nat.lt_or_ge (pos (sq x r) (2 * t) + 1) P with y2 | y2
                · exact absurd hev (p5 _ (by omega) y2)
                · omega
              subst hP
              have e2 : 2 * ((sq x r).getD (pos (sq x r) (2 * t) + 1) 0 / 2) = (sq x r).getD (pos (sq x r) (2 * t) + 1) 0 := by omega
              have hmP : 2 * ((sq x r).getD (pos (sq x r) (2 * t) + 1) 0 / 2) ∈ sq x r := by rw [e2]; exact getD_mem p2
              have hw : Wi x r t ((sq x r).getD (pos (sq x r) (2 * t) + 1) 0 / 2) := by
                refine ⟨w, ?_, ?_⟩
                · rw [e2, pos_of (hI.2.2.1 r hr8) p2]; omega
                · rw [e2, pos_of (hI.2.2.1 r hr8) p2]; omega
              rw [p4, if_neg (ne_m1 (by omega)), (q_enc hC hI hN hr8 hm hmP).1 hw, Option.bind_some, if_neg (by decide), Option.bind_some] at b1
              exact ⟨_, _, b1, b2, rfl, Rl_th hr⟩
            · exact absurd hev (p5 _ (by omega) hp1)
        · have hsp : spn x r t = 1 := if_neg w
          rw [hsp, if_pos (by decide)] at b2
          rcases hy with ⟨P, p1, p2, p3, p4, p5⟩ | ⟨p4, p5⟩
          · have hd := sq_lt hI hr8 (getD_mem p2)
            have e2 : 2 * ((sq x r).getD P 0 / 2) = (sq x r).getD P 0 := by omega
            have hmP : 2 * ((sq x r).getD P 0 / 2) ∈ sq x r := by rw [e2]; exact getD_mem p2
            rw [p4, if_neg (ne_m1 (by omega)), (q_enc hC hI hN hr8 hm hmP).2 (fun y2 => w y2.1), Option.bind_some, if_pos rfl, Option.bind_some] at b1
            exact ⟨_, _, b1, b2, rfl, Rl_th hr⟩
          · rw [p4, if_pos rfl, Option.bind_some] at b1
            exact ⟨_, _, b1, b2, rfl, Rl_th hr⟩
    · have i1' : f_X4_in x2 0 3 = some 0 := i1
      have hne : ∀ k, k ≤ 3 → x2 ≠ nI k := by
        intro k hk e
        subst e
        rcases hx with hx | ⟨-, hx⟩
        · exact nI_pos (by omega) hx
        · exact nI_nlt hk (by omega) hx
      rw [if_neg (show ¬ x2 = 0 from hne 0 (by omega)), if_neg (show ¬ x2 = 1 from hne 1 (by omega)), if_neg (show ¬ x2 = 2 from hne 2 (by omega)), if_neg (show ¬ x2 = 3 from hne 3 (by omega))] at b1
      refine ⟨_, (-3, mF v 0 0), b1, ?_, rfl, Rl_th hr⟩
      unfold f_X4_near
      rw [a2, Option.bind_some, if_neg (by decide), i1', Option.bind_some, if_pos rfl]
  · refine ⟨-3, (-3, mF v 0 0), ?_, ?_, rfl, Rl_th hr⟩
    · unfold f_X3_near
      rw [q_isStanding_no h hno, Option.bind_some, if_pos rfl]
    · unfold f_X4_near
      rw [p_isThing_no hM' hI h6' hno, Option.bind_some, if_pos rfl]
