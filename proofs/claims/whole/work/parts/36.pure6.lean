/-! ===== things and rows, on both sides; the first steps ===== -/
theorem core_th {v : MS} : core (mF v 0 0) = core v := by
  unfold core mF
  dsimp only
  rw [va_up_ne _ _ (by decide)]
theorem th_1 {v : MS} {j : Nat} (h : j ≠ 0) : (mF v 0 0).1 j = v.1 j := by unfold mF; dsimp only; rw [va_up_ne _ _ h]
theorem Rl_th {u : HS} {v : MS} (h : Rl u v) : Rl u (mF v 0 0) := by
  obtain ⟨T, n, N, E, h1, h2, h3, h4, h5, h6, h7, h8, h9, h10, h11, h12⟩ := h
  exact ⟨T, n, N, E, h1, h2, h3, h4, h5, by rw [th_1 (by decide)]; exact h6, h7, by rw [th_1 (by decide)]; exact h8, h9, by rw [th_1 (by decide)]; exact h10, by rw [core_th]; exact h11, h12⟩
theorem ne_m1 {r : Nat} (h : r < 2 ^ 31) : ¬ nI r = -1 := by
  intro q
  have := nI_pos (n := r) h
  rw [q] at this
  exact this (by decide)
/-- what holds of now on both sides -/
def Now (u : HS) (v : MS) (T : Nat) (x : XS) : Prop := CA u.2.2.2.2.1 x ∧ MA (core v) x ∧ Inv T x ∧ Nest x ∧ u.2.2.1 5 = nI T ∧ v.1 1 = nI T
theorem Rl.now {u : HS} {v : MS} (h : Rl u v) : ∃ T x, Now u v T x := by
  obtain ⟨T, n, N, E, h1, h2, h3, h4, h5, h6, h7, h8, h9, h10, ⟨x, a1, a2, a3, a4⟩, h12⟩ := h
  exact ⟨T, x, a1, a2, a3, a4, h5, h6⟩
section ST1
variable {u : HS} {v : MS} {x : XS} {T : Nat}
theorem q_isStanding (h : Now u v T x) {y : Int32} {t r : Nat} (ht : Thg x y t r) : f_X3_isStanding y u = some 1 := by
  obtain ⟨hC, hM, hI, hN, h5, h6⟩ := h
  obtain ⟨rfl, hr, hm⟩ := ht
  have h1 := hI.2.2.2.2.1 r hr _ hm
  have h2 := hI.1
  unfold f_X3_isStanding
  rw [if_neg (nI_pos (by omega)), h5, if_neg (nI_ge (by omega) (by omega)), q_rowOf hC (by omega) hr hm (by omega), Option.bind_some, if_neg (ne_m1 (by omega))]
theorem no_d (hI : Inv T x) (hN : Nest x) {t : Nat} (h : ∀ t' r, ¬ Thg x (nI t) t' r) : ∀ r, r < 8 → ∀ d ∈ sq x r, d / 2 ≠ t := by
  intro r hr d hd e
  exact h t r ⟨rfl, hr, by rw [← e]; exact comp hI hN hr hd⟩
theorem q_isStanding_no (h : Now u v T x) {y : Int32} (ht : ∀ t r, ¬ Thg x y t r) : f_X3_isStanding y u = some 0 := by
  obtain ⟨hC, hM, hI, hN, h5, h6⟩ := h
  have h2 := hI.1
  unfold f_X3_isStanding
  rw [h5]
  rcases pk_ix y (n := T) (by omega) with q | q | ⟨t, q, rfl⟩
  · rw [if_pos q]
  · by_cases q2 : y < 0
    · rw [if_pos q2]
    · rw [if_neg q2, if_pos q]
  · rw [if_neg (nI_pos (by omega)), if_neg (nI_ge (by omega) (by omega)), q_rowOf_no hC (by omega) (no_d hI hN ht), Option.bind_some, if_pos rfl]
theorem p_th (h : Now u v T x) : Now u (mF v 0 0) T x := by
  obtain ⟨hC, hM, hI, hN, h5, h6⟩ := h
  exact ⟨hC, by rw [core_th]; exact hM, hI, hN, h5, by rw [th_1 (by decide)]; exact h6⟩
/-- a number of a row that is there -/
def Rw (x : XS) (y : Int32) (r : Nat) : Prop := y = nI r ∧ r < 8 ∧ xk x r ≠ -1
theorem q_isRow {a : SS} (hC : CA a x) {y : Int32} {r : Nat} (h : Rw x y r) : f_X2_isRow y a = some 1 := by
  obtain ⟨rfl, hr, hk⟩ := h
  unfold f_X2_isRow
  rw [if_neg (nI_pos (by omega)), if_neg (show ¬ (8 : Int32) ≤ nI r from nI_ge (b := 8) hr (by omega)), if_pos (ix_nI hr (by omega)), nI_clamp (by omega), (hC.1 r hr).1, if_neg hk]
theorem q_isRow_no {a : SS} (hC : CA a x) {y : Int32} (h : ∀ r, ¬ Rw x y r) : f_X2_isRow y a = some 0 := by
  unfold f_X2_isRow
  rcases pk_ix y (n := 8) (by omega) with q | q | ⟨r, q, rfl⟩
  · rw [if_pos q]
  · by_cases q2 : y < 0
    · rw [if_pos q2]
    · rw [if_neg q2, if_pos (show (8 : Int32) ≤ y from q)]
  · rw [if_neg (nI_pos (by omega)), if_neg (show ¬ (8 : Int32) ≤ nI r from nI_ge (b := 8) q (by omega)), if_pos (ix_nI q (by omega)), nI_clamp (by omega), (hC.1 r q).1, if_pos (Decidable.byContradiction fun z => h r ⟨rfl, q, z⟩)]
theorem p_in7 {y : Int32} {m : Nat} (hm : m < 2 ^ 31 - 1) : (y < 0 ∨ nI (m + 1) ≤ y → f_X4_in y 0 (nI m) = some 0) ∧ (∀ r, r ≤ m → y = nI r → f_X4_in y 0 (nI m) = some 1) := by
  unfold f_X4_in
  constructor
  · intro q
    by_cases q2 : y < 0
    · rw [if_pos q2]
    · rw [if_neg q2]
      rcases q with q | q
      · exact absurd q q2
      · rw [if_pos]
        obtain ⟨j, hj, rfl⟩ := nI_of q2
        have := (nI_leI (by omega) (by omega)).mp q
        exact nI_lt (by omega) hj
  · rintro r hr rfl
    rw [if_neg (nI_pos (by omega)), if_neg (nI_nlt hr (by omega))]
theorem p_isRow (hM : MA (core v) x) {y : Int32} {r : Nat} (h : Rw x y r) : f_X4_isRow y v = some 1 := by
  obtain ⟨rfl, hr, hk⟩ := h
  have e2 : v.2.1 2 r = xk x r := (hM.1 r hr).1
  unfold f_X4_isRow
  rw [show (7 : Int32) = nI 7 from rfl, (p_in7 (by omega)).2 r (by omega) rfl, Option.bind_some, if_neg (by decide), if_pos (ix_nI hr (by omega)), nI_clamp (by omega), e2, if_neg hk]
theorem p_isRow_no (hM : MA (core v) x) {y : Int32} (h : ∀ r, ¬ Rw x y r) : f_X4_isRow y v = some 0 := by
  unfold f_X4_isRow
  rw [show (7 : Int32) = nI 7 from rfl]
  rcases pk_ix y (n := 8) (by omega) with q | q | ⟨r, q, rfl⟩
  · rw [(p_in7 (by omega)).1 (Or.inl q), Option.bind_some, if_pos rfl]
  · rw [(p_in7 (by omega)).1 (Or.inr q), Option.bind_some, if_pos rfl]
  · have e2 : v.2.1 2 r = xk x r := (hM.1 r q).1
    rw [(p_in7 (by omega)).2 r (by omega) rfl, Option.bind_some, if_neg (by decide), if_pos (ix_nI q (by omega)), nI_clamp (by omega), e2, if_pos (Decidable.byContradiction fun z => h r ⟨rfl, q, z⟩)]
theorem rw_dec (x : XS) (y : Int32) : (∃ r, Rw x y r) ∨ ∀ r, ¬ Rw x y r := by
  by_cases h : ∃ r, Rw x y r
  · exact Or.inl h
  · exact Or.inr fun r q => h ⟨r, q⟩
end ST1
theorem st_rowOf : Sp_rowOf Rl := by
  intro u v x1 hr
  obtain ⟨T, x, h⟩ := hr.now
  have h' := p_th h
  obtain ⟨hC, hM, hI, hN, h5, h6⟩ := id h
  obtain ⟨-, hM', -, -, -, h6'⟩ := id h'
  have hT := hI.1
  unfold f_X3_rowOf f_X4_rowOf
  rw [h5, h6']
  rcases pk_ix x1 (n := T) (by omega) with q | q | ⟨t, q, rfl⟩
  · rw [if_pos q, p_in_no hT (fun t ht e => by rw [e] at q; exact nI_pos (by omega) q), Option.bind_some, if_pos rfl]
    exact ⟨_, _, rfl, rfl, rfl, Rl_th hr⟩
  · have e : (if x1 < 0 then some (-3) else if nI T ≤ x1 then some (-3) else (f_X1_rowOfThing x1 u.2.2.2.2.1.1).bind (fun z3 => some z3)) = some (-3 : Int32) := by
      by_cases q2 : x1 < 0
      · rw [if_pos q2]
      · rw [if_neg q2, if_pos q]
    rw [e, p_in_no hT (fun t ht e => by rw [e] at q; exact nI_ge ht (by omega) q), Option.bind_some, if_pos rfl]
    exact ⟨_, _, rfl, rfl, rfl, Rl_th hr⟩
  · rw [if_neg (nI_pos (by omega)), if_neg (nI_ge q (by omega)), p_in_yes q hT, Option.bind_some, if_neg (by decide), two_nI]
    rcases thg_dec x (nI t) with ⟨t', r, hq⟩ | hno
    · obtain ⟨e, hr8, hm⟩ := hq
      have h1 := hI.2.2.2.2.1 r hr8 _ hm
      have := (nI_eq (a := t) (b := t') (by omega) (by omega)).mp e
      subst this
      rw [q_rowOf hC (by omega) hr8 hm (by omega), p_rowWith hM' hI hr8 hm, Option.bind_some, Option.bind_some]
      exact ⟨_, _, rfl, rfl, rfl, Rl_th hr⟩
    · rw [q_rowOf_no hC (by omega) (no_d hI hN hno), p_rowWith_no hM' hI (by omega) (fun s hs hm => hno t s ⟨rfl, hs, hm⟩), Option.bind_some, Option.bind_some]
      exact ⟨_, _, rfl, rfl, rfl, Rl_th hr⟩
theorem st_isOf : Sp_isOf Rl := by
  intro u v x1 x2 hr
  obtain ⟨T, x, h⟩ := hr.now
  obtain ⟨hC, hM, hI, hN, h5, h6⟩ := id h
  obtain ⟨-, hM', -, -, -, h6'⟩ := p_th h
  rcases rw_dec x x1 with ⟨r, hq⟩ | hno
  · have a1 := q_isRow hC hq
    have a2 := p_isRow hM' hq
    obtain ⟨rfl, hr8, hk⟩ := hq
    have e2 : (mF v 0 0).2.1 2 r = xk x r := (hM'.1 r hr8).1
    by_cases c1 : x2 < 0
    · refine ⟨-3, (-3, mF v 0 0), ?_, ?_, rfl, Rl_th hr⟩
      · unfold f_X3_isOf f_X3_isKind
        rw [a1, Option.bind_some, if_neg (by decide), if_pos c1, Option.bind_some, if_pos rfl]
      · unfold f_X4_isOf f_X4_in
        rw [a2, Option.bind_some, if_neg (by decide), if_pos c1, Option.bind_some, if_pos rfl]
    · by_cases c2 : (3 : Int32) < x2
      · refine ⟨-3, (-3, mF v 0 0), ?_, ?_, rfl, Rl_th hr⟩
        · unfold f_X3_isOf f_X3_isKind
          rw [a1, Option.bind_some, if_neg (by decide), if_neg c1, if_pos c2, Option.bind_some, if_pos rfl]
        · unfold f_X4_isOf f_X4_in
          rw [a2, Option.bind_some, if_neg (by decide), if_neg c1, if_pos c2, Option.bind_some, if_pos rfl]
      · have b1 : f_X3_isOf (nI r) x2 u = (if xk x r < x2 then some 0 else some 1) := by
          unfold f_X3_isOf f_X3_isKind
          rw [a1, Option.bind_some, if_neg (by decide), if_neg c1, if_neg c2, Option.bind_some, if_neg (by decide), if_pos (ix_nI hr8 (by omega)), nI_clamp (by omega), (hC.1 r hr8).1]
        have b2 : f_X4_isOf (nI r) x2 v = (if xk x r < x2 then some (0, mF v 0 0) else some (1, mF v 0 0)) := by
          unfold f_X4_isOf f_X4_in
          rw [a2, Option.bind_some, if_neg (by decide), if_neg c1, if_neg c2, Option.bind_some, if_neg (by decide), if_pos (ix_nI hr8 (by omega)), nI_clamp (by omega), e2]
        by_cases c3 : xk x r < x2
        · exact ⟨0, (0, mF v 0 0), by rw [b1, if_pos c3], by rw [b2, if_pos c3], rfl, Rl_th hr⟩
        · exact ⟨1, (1, mF v 0 0), by rw [b1, if_neg c3], by rw [b2, if_neg c3], rfl, Rl_th hr⟩
  · refine ⟨-3, (-3, mF v 0 0), ?_, ?_, rfl, Rl_th hr⟩
    · unfold f_X3_isOf
      rw [q_isRow_no hC hno, Option.bind_some, if_pos rfl]
    · unfold f_X4_isOf
      rw [p_isRow_no hM' hno, Option.bind_some, if_pos rfl]
