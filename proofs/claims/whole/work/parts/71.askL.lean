/-! ===== index, between, at; label, inner ===== -/
theorem evn_s {l : List Nat} {i : Nat} (h : i < l.length) : evn (l.take (i + 1)) = evn (l.take i) + (if l.getD i 0 % 2 = 0 then 1 else 0) := by
  unfold evn
  rw [take_s h, List.countP_append, List.countP_cons, List.countP_nil, Nat.zero_add]
  simp only [decide_eq_true_eq]
theorem evn_le (l : List Nat) : evn l ≤ l.length := List.countP_le_length
theorem evn_mono {l : List Nat} {i k : Nat} (h : i ≤ k) (hk : k ≤ l.length) : evn (l.take i) ≤ evn (l.take k) := by
  induction k with
  | zero => have : i = 0 := by omega
            subst this; exact Nat.le_refl _
  | succ k ih =>
    by_cases e : i = k + 1
    · subst e; exact Nat.le_refl _
    · have := ih (by omega) (by omega)
      rw [evn_s (by omega)]
      omega
section IDX
variable {a : SS} {v : MS} {x : XS} {T r t : Nat}
theorem q_standR (hC : CA a x) (hI : Inv T x) (hr : r < 8) {i : Nat} (hi : i < (sq x r).length) : f_X1_standAt (nI (off x r + i)) a.1 = some (nI ((sq x r).getD i 0)) := by
  obtain ⟨-, hO, -⟩ := CA_iff.mp hC
  have h8 : ofS (sq x) 8 ≤ 600 := by rw [← off_ofS]; exact off600 hI (Nat.le_refl _)
  rw [off_ofS]
  exact o_standAt hO h8 hr hi
theorem isEnd_eq {d : Nat} (h : d < 600) : f_X3_isEnd (nI d) = some (if d % 2 = 0 then 0 else 1) := by
  by_cases z : d % 2 = 0
  · rw [if_pos z]; exact isEnd_0 (by omega) z
  · rw [if_neg z]; exact isEnd_1 (by omega) (by omega)
theorem off_le6 (hI : Inv T x) (hr : r < 8) : off x r + (sq x r).length ≤ 600 := off600 hI (r := r + 1) (by omega)
theorem q_first2 (hC : CA a x) (hI : Inv T x) (hr : r < 8) (hm : 2 * t ∈ sq x r) : f_X2_firstPlace (nI t) a = some (nI (off x r + pos (sq x r) (2 * t))) := by
  unfold f_X2_firstPlace
  rw [two_nI, q_placeOf hC hI hr hm, Option.bind_some]
theorem q_index (hC : CA a x) (hI : Inv T x) (hr : r < 8) (hm : 2 * t ∈ sq x r) : f_X2_thingsAhead (nI t) a = some (nI (evn ((sq x r).take (pos (sq x r) (2 * t))))) := by
  have hp := pos_lt hm
  have h6 := off_le6 hI hr
  unfold f_X2_thingsAhead
  rw [q_rowT hC hI hr hm, Option.bind_some, q_first2 hC hI hr hm, Option.bind_some, q_first hC hr, Option.bind_some]
  refine loopE (fun m i => f_X2_thingsAhead_28 m (nI (off x r + pos (sq x r) (2 * t))) (nI (evn ((sq x r).take i))) (nI (off x r + i)) a) (a := 0) (b := pos (sq x r) (2 * t)) (Nat.zero_le _) (NF_lt (by omega)) (fun m i h1 h2 => ?_) (fun m => ?_)
  · have hd := sq_lt hI hr (getD_mem (l := sq x r) (i := i) (by omega))
    rw [f_X2_thingsAhead_28, if_neg (nI_ge (by omega) (by omega)), q_standR hC hI hr (by omega), Option.bind_some, isEnd_eq hd, Option.bind_some, evn_s (by omega), nI_1]
    by_cases z : (sq x r).getD i 0 % 2 = 0
    · rw [if_pos z, if_pos rfl, if_pos z, nI_1]
      rfl
    · rw [if_neg z, if_neg (by decide), if_neg z, nI_1]
      rfl
  · rw [f_X2_thingsAhead_28, if_pos (nI_le (Nat.le_refl _) (by omega))]
theorem p_index (hM : MA (core v) x) (hI : Inv T x) (hr : r < 8) (hm : 2 * t ∈ sq x r) : f_X4_indexOf (nI r) (nI t) v = some (nI (evn ((sq x r).take (pos (sq x r) (2 * t))))) := by
  have hp := pos_lt hm
  have h6 := len600 hI hr
  unfold f_X4_indexOf
  rw [p_placeT hM hI hr hm, Option.bind_some]
  refine loopE (fun m i => f_X4_indexOf_15 m (nI r) (nI (evn ((sq x r).take i))) (nI (pos (sq x r) (2 * t))) (nI i) v) (a := 0) (b := pos (sq x r) (2 * t)) (Nat.zero_le _) (NF_lt (by omega)) (fun m i h1 h2 => ?_) (fun m => ?_)
  · have hd := sq_lt hI hr (getD_mem (l := sq x r) (i := i) (by omega))
    have e7 : v.2.1 7 (600 * r + i) = nI ((sq x r).getD i 0) := hM.2.2.1 r hr i (by omega)
    rw [f_X4_indexOf_15, if_neg (nI_ge (by omega) (by omega)), ma600, if_pos (ix_nI (by omega) (by omega)), nI_clamp (by omega), e7, rem2 (by omega), evn_s (by omega), nI_1]
    by_cases z : (sq x r).getD i 0 % 2 = 0
    · rw [z, if_pos nI_0, if_pos rfl, nI_1]
    · rw [if_neg (nI_ne0 (by omega) (by omega)), if_neg z, nI_1]
      simp (disch := omega) only [ix_nI, nI_clamp, le_L, le_R, lt_L, lt_R, eq_L, eq_R, ad_L, sb_L, ml_L, nI_leI, nI_ltI, nI_eq, nI_add, pk_mul, nI_m1, if_true, if_false, if_pos, if_neg, Option.bind_some, Nat.add_zero]
  · rw [f_X4_indexOf_15, if_pos (nI_le (Nat.le_refl _) (by omega))]
end IDX
theorem st_index : Sp_index Rl := by
  intro u v x1 hr
  obtain ⟨T, x, h⟩ := hr.now
  have h' := p_th h
  obtain ⟨hC, hM, hI, hN, h5, h6⟩ := id h
  obtain ⟨-, hM', -, -, -, h6'⟩ := id h'
  rcases thg_dec x x1 with ⟨t, r, hq⟩ | hno
  · have a1 := q_isStanding h hq
    have a2 := p_isThing hM' hI h6' hq
    obtain ⟨rfl, hr8, hm⟩ := hq
    refine ⟨nI (evn ((sq x r).take (pos (sq x r) (2 * t)))), (nI (evn ((sq x r).take (pos (sq x r) (2 * t)))), mF v 0 0), ?_, ?_, rfl, Rl_th hr⟩
    · unfold f_X3_index
      rw [a1, Option.bind_some, if_neg (by decide), q_index hC hI hr8 hm, Option.bind_some]
    · unfold f_X4_index
      rw [a2, Option.bind_some, if_neg (by decide), p_rowT hM' hI hr8 hm, Option.bind_some, p_index hM' hI hr8 hm, Option.bind_some]
  · refine ⟨-3, (-3, mF v 0 0), ?_, ?_, rfl, Rl_th hr⟩
    · unfold f_X3_index
      rw [q_isStanding_no h hno, Option.bind_some, if_pos rfl]
    · unfold f_X4_index
      rw [p_isThing_no hM' hI h6' hno, Option.bind_some, if_pos rfl]
theorem st_between : Sp_between Rl := by
  intro u v x1 x2 hr
  obtain ⟨T, x, h⟩ := hr.now
  obtain ⟨f1, f2, f3⟩ := q_fault h x1 x2
  have h' := p_th h
  obtain ⟨hC, hM, hI, hN, h5, h6⟩ := id h
  obtain ⟨-, hM', -, -, -, h6'⟩ := id h'
  rcases pair_cases x x1 x2 with q | ⟨q1, q2⟩ | ⟨t, r, s, q, rfl, rfl, hr8, hm, hq8, hs⟩
  · refine ⟨-3, (-3, mF v 0 0), ?_, ?_, rfl, Rl_th hr⟩
    · unfold f_X3_between
      rw [f1 q, Option.bind_some, if_neg (by decide)]
    · unfold f_X4_between_
      rw [p_isThing_no hM' hI h6' q, Option.bind_some, if_pos rfl]
  · obtain ⟨t, r, ht⟩ := q1
    refine ⟨-3, (-3, mF v 0 0), ?_, ?_, rfl, Rl_th hr⟩
    · unfold f_X3_between
      rw [f2 ⟨t, r, ht⟩ q2, Option.bind_some, if_neg (by decide)]
    · unfold f_X4_between_
      rw [p_isThing hM' hI h6' ht, Option.bind_some, if_neg (by decide), p_isThing_no hM' hI h6' q2, Option.bind_some, if_pos rfl]
  · have g := f3 t r s q rfl rfl hr8 hm hq8 hs
    by_cases z : r = q
    · subst z
      rw [if_pos rfl] at g
      have hl := len600 hI hr8
      have p1 := pos_lt hm
      have p2 := pos_lt hs
      have ht6 := sq_lt hI hr8 hm
      have hs6 := sq_lt hI hr8 hs
      have l1 := evn_le ((sq x r).take (pos (sq x r) (2 * t)))
      have l2 := evn_le ((sq x r).take (pos (sq x r) (2 * s)))
      rw [List.length_take] at l1 l2
      have b2 : f_X4_between_ (nI t) (nI s) v = (if (nI (evn ((sq x r).take (pos (sq x r) (2 * t)))) - nI (evn ((sq x r).take (pos (sq x r) (2 * s))))) = 0 then some (0, mF v 0 0) else (if 0 ≤ (nI (evn ((sq x r).take (pos (sq x r) (2 * t)))) - nI (evn ((sq x r).take (pos (sq x r) (2 * s))))) then some ((nI (evn ((sq x r).take (pos (sq x r) (2 * t)))) - nI (evn ((sq x r).take (pos (sq x r) (2 * s))))) - 1, mF v 0 0) else some ((-(nI (evn ((sq x r).take (pos (sq x r) (2 * t)))) - nI (evn ((sq x r).take (pos (sq x r) (2 * s)))))) - 1, mF v 0 0))) := by
        unfold f_X4_between_
        rw [p_isThing hM' hI h6' ⟨rfl, hr8, hm⟩, Option.bind_some, if_neg (by decide), p_isThing hM' hI h6' ⟨rfl, hq8, hs⟩, Option.bind_some, if_neg (by decide), p_apart hM' hI hr8 hm hq8 hs, Option.bind_some, if_pos rfl, if_pos rfl, p_rowT hM' hI hr8 hm, Option.bind_some, p_index hM' hI hr8 hm, Option.bind_some, p_index hM' hI hr8 hs, Option.bind_some]
      by_cases y : t = s
      · subst y
        have b1 : f_X3_between (nI t) (nI t) u = some 0 := by
          unfold f_X3_between
          rw [g, Option.bind_some, if_pos rfl, if_pos rfl]
        rw [if_pos (Int32.sub_self _)] at b2
        exact ⟨_, _, b1, b2, rfl, Rl_th hr⟩
      · have b1 : f_X3_between (nI t) (nI s) u = some ((if 0 ≤ (nI (evn ((sq x r).take (pos (sq x r) (2 * t)))) - nI (evn ((sq x r).take (pos (sq x r) (2 * s))))) then (nI (evn ((sq x r).take (pos (sq x r) (2 * t)))) - nI (evn ((sq x r).take (pos (sq x r) (2 * s))))) else 0 - (nI (evn ((sq x r).take (pos (sq x r) (2 * t)))) - nI (evn ((sq x r).take (pos (sq x r) (2 * s)))))) - 1) := by
          unfold f_X3_between
          rw [g, Option.bind_some, if_pos rfl, if_neg (fun w => y ((nI_eq (by omega) (by omega)).mp w)), q_index hC hI hr8 hm, Option.bind_some, q_index hC hI hr8 hs, Option.bind_some]
        have hne : pos (sq x r) (2 * t) ≠ pos (sq x r) (2 * s) := fun w => y (by have := pos_inj hm hs w; omega)
        -- they have different numbers ahead
        have hd : evn ((sq x r).take (pos (sq x r) (2 * t))) ≠ evn ((sq x r).take (pos (sq x r) (2 * s))) := by
          rcases Nat.lt_or_gt_of_ne hne with w | w
          · have e1 := evn_s (l := sq x r) (i := pos (sq x r) (2 * t)) p1
            rw [pos_at hm, if_pos (by omega)] at e1
            have := evn_mono (l := sq x r) (i := pos (sq x r) (2 * t) + 1) (k := pos (sq x r) (2 * s)) (by omega) (by omega)
            omega
          · have e1 := evn_s (l := sq x r) (i := pos (sq x r) (2 * s)) p2
            rw [pos_at hs, if_pos (by omega)] at e1
            have := evn_mono (l := sq x r) (i := pos (sq x r) (2 * s) + 1) (k := pos (sq x r) (2 * t)) (by omega) (by omega)
            omega
        generalize evn ((sq x r).take (pos (sq x r) (2 * t))) = A at *
        generalize evn ((sq x r).take (pos (sq x r) (2 * s))) = B at *
        have hnz : ¬ nI A - nI B = 0 := by
          intro w
          have h1 := pk_sub_toInt (a := A) (b := B) (by omega) (by omega)
          rw [w, Int32.toInt_zero] at h1
          omega
        rw [if_neg hnz] at b2
        by_cases w : 0 ≤ nI A - nI B
        · rw [if_pos w] at b1 b2
          exact ⟨_, _, b1, b2, rfl, Rl_th hr⟩
        · rw [if_neg w] at b1 b2
          refine ⟨_, _, b1, b2, ?_, Rl_th hr⟩
          show (0 - (nI A - nI B)) - 1 = -(nI A - nI B) - 1
          rw [Int32.zero_sub]
    · rw [if_neg z] at g
      refine ⟨-4, (-4, mF v 0 0), ?_, ?_, rfl, Rl_th hr⟩
      · unfold f_X3_between
        rw [g, Option.bind_some, if_neg (by decide)]
      · unfold f_X4_between_
        rw [p_isThing hM' hI h6' ⟨rfl, hr8, hm⟩, Option.bind_some, if_neg (by decide), p_isThing hM' hI h6' ⟨rfl, hq8, hs⟩, Option.bind_some, if_neg (by decide), p_apart hM' hI hr8 hm hq8 hs, Option.bind_some, if_neg z, if_neg (by decide)]
/-! at -/
theorem ev_find {l : List Nat} {j : Nat} (h : j < evn l) : ∃ P, P < l.length ∧ l.getD P 0 % 2 = 0 ∧ evn (l.take P) = j := by
  have key : ∀ n, n ≤ l.length → j < evn (l.take n) → ∃ P, P < l.length ∧ l.getD P 0 % 2 = 0 ∧ evn (l.take P) = j := by
    intro n
    induction n with
    | zero => intro _ h; simp [evn] at h
    | succ n ih =>
      intro hn h
      rw [evn_s (by omega)] at h
      by_cases z : j < evn (l.take n)
      · exact ih (by omega) z
      · by_cases y : l.getD n 0 % 2 = 0
        · rw [if_pos y] at h
          exact ⟨n, by omega, y, by omega⟩
        · rw [if_neg y] at h; omega
  refine key l.length (Nat.le_refl _) ?_
  rw [List.take_length]; exact h
section ATS
variable {a : SS} {v : MS} {x : XS} {T r : Nat}
theorem q_at (hC : CA a x) (hI : Inv T x) (hr : r < 8) {j : Nat} (hj : j < 2 ^ 31) : (∀ P, P < (sq x r).length → (sq x r).getD P 0 % 2 = 0 → evn ((sq x r).take P) = j → f_X2_thingNumber (nI r) (nI j) a = some (nI ((sq x r).getD P 0 / 2))) ∧ (evn (sq x r) ≤ j → f_X2_thingNumber (nI r) (nI j) a = some (-1)) := by
  have h6 := off_le6 hI hr
  have hen := q_end hC hr
  have step : ∀ m i, i < (sq x r).length → ((sq x r).getD i 0 % 2 = 0 → evn ((sq x r).take i) ≠ j) → f_X2_thingNumber_12 (m + 1) (nI r) (nI j) (nI (evn ((sq x r).take i))) (nI (off x r + i)) a = f_X2_thingNumber_12 m (nI r) (nI j) (nI (evn ((sq x r).take (i + 1)))) (nI (off x r + (i + 1))) a := by
    intro m i hi hne
    have hd := sq_lt hI hr (getD_mem (l := sq x r) (i := i) (by omega))
    have hle := evn_le ((sq x r).take i)
    rw [List.length_take] at hle
    rw [f_X2_thingNumber_12, hen, Option.bind_some, if_neg (nI_ge (by omega) (by omega)), q_standR hC hI hr hi, Option.bind_some, isEnd_eq hd, Option.bind_some, Option.bind_some, evn_s hi]
    by_cases z : (sq x r).getD i 0 % 2 = 0
    · rw [if_pos z, if_pos rfl, if_neg (fun w => hne z ((nI_eq (by omega) (by omega)).mp w)), if_pos rfl, if_pos z, nI_1, nI_1]
      rfl
    · rw [if_neg z, if_neg (by decide), if_neg (by decide), if_neg z, nI_1]
      rfl
  constructor
  · intro P hP h1 h2
    have hd := sq_lt hI hr (getD_mem (l := sq x r) (i := P) (by omega))
    unfold f_X2_thingNumber
    rw [q_first hC hr, Option.bind_some]
    refine loopE (fun m i => f_X2_thingNumber_12 m (nI r) (nI j) (nI (evn ((sq x r).take i))) (nI (off x r + i)) a) (a := 0) (b := P) (Nat.zero_le _) (NF_lt (by omega)) (fun m i h3 h4 => ?_) (fun m => ?_)
    · refine step m i (by omega) (fun z => ?_)
      have e1 := evn_s (l := sq x r) (i := i) (by omega)
      rw [if_pos z] at e1
      have := evn_mono (l := sq x r) (i := i + 1) (k := P) (by omega) (by omega)
      omega
    · rw [f_X2_thingNumber_12, hen, Option.bind_some, if_neg (nI_ge (by omega) (by omega)), q_standR hC hI hr hP, Option.bind_some, isEnd_eq hd, Option.bind_some, if_pos h1, if_pos rfl, h2, if_pos rfl]
      unfold f_X3_thingOf
      rw [Option.bind_some, shr1 (by omega)]
  · intro h1
    unfold f_X2_thingNumber
    rw [q_first hC hr, Option.bind_some]
    refine loopE (fun m i => f_X2_thingNumber_12 m (nI r) (nI j) (nI (evn ((sq x r).take i))) (nI (off x r + i)) a) (a := 0) (b := (sq x r).length) (Nat.zero_le _) (NF_lt (by omega)) (fun m i h3 h4 => ?_) (fun m => ?_)
    · refine step m i h4 (fun z => ?_)
      have e1 := evn_s (l := sq x r) (i := i) (by omega)
      rw [if_pos z] at e1
      have := evn_mono (l := sq x r) (i := i + 1) (k := (sq x r).length) (by omega) (by omega)
      rw [List.take_length] at this
      omega
    · rw [f_X2_thingNumber_12, hen, Option.bind_some, if_pos (nI_le (Nat.le_refl _) (by omega))]
theorem p_at (hM : MA (core v) x) (hI : Inv T x) (hr : r < 8) {j : Nat} (hj : j < 2 ^ 31) : (∀ P, P < (sq x r).length → (sq x r).getD P 0 % 2 = 0 → evn ((sq x r).take P) = j → f_X4_at_25 NF (nI r) (nI j) 0 v = some (nI ((sq x r).getD P 0 / 2), v)) ∧ (evn (sq x r) ≤ j → f_X4_at_25 NF (nI r) (nI j) 0 v = some (-1, v)) := by
  have h6 := len600 hI hr
  have e4 : v.2.1 4 r = nI (sq x r).length := hM.2.1 r hr
  have step : ∀ m i, i < (sq x r).length → evn ((sq x r).take i) ≤ j → ((sq x r).getD i 0 % 2 = 0 → evn ((sq x r).take i) ≠ j) → f_X4_at_25 (m + 1) (nI r) (nI (j - evn ((sq x r).take i))) (nI i) v = f_X4_at_25 m (nI r) (nI (j - evn ((sq x r).take (i + 1)))) (nI (i + 1)) v := by
    intro m i hi hle hne
    have hd := sq_lt hI hr (getD_mem (l := sq x r) (i := i) (by omega))
    have e7 : v.2.1 7 (600 * r + i) = nI ((sq x r).getD i 0) := hM.2.2.1 r hr i (by omega)
    rw [f_X4_at_25, if_pos (ix_nI hr (by omega)), nI_clamp (by omega), e4, if_neg (nI_ge (by omega) (by omega)), ma600, if_pos (ix_nI (by omega) (by omega)), nI_clamp (by omega), e7, rem2 (by omega), evn_s hi, nI_1]
    by_cases z : (sq x r).getD i 0 % 2 = 0
    · have := hne z
      rw [z, if_pos nI_0, if_pos rfl, if_neg (nI_ne0 (by omega) (by omega)), nI_m1 (by omega), show j - evn ((sq x r).take i) - 1 = j - (evn ((sq x r).take i) + 1) from by omega]
    · rw [if_neg (nI_ne0 (by omega) (by omega)), if_neg z]
      rfl
  have hz : f_X4_at_25 NF (nI r) (nI j) 0 v = f_X4_at_25 NF (nI r) (nI (j - evn ((sq x r).take 0))) (nI 0) v := rfl
  constructor
  · intro P hP h1 h2
    have hd := sq_lt hI hr (getD_mem (l := sq x r) (i := P) (by omega))
    have e7 : v.2.1 7 (600 * r + P) = nI ((sq x r).getD P 0) := hM.2.2.1 r hr P (by omega)
    rw [hz]
    refine loopE (fun m i => f_X4_at_25 m (nI r) (nI (j - evn ((sq x r).take i))) (nI i) v) (a := 0) (b := P) (Nat.zero_le _) (NF_lt (by omega)) (fun m i h3 h4 => ?_) (fun m => ?_)
    · have hmo := evn_mono (l := sq x r) (i := i) (k := P) (by omega) (by omega)
      refine step m i (by omega) (by omega) (fun z => ?_)
      have e1 := evn_s (l := sq x r) (i := i) (by omega)
      rw [if_pos z] at e1
      have := evn_mono (l := sq x r) (i := i + 1) (k := P) (by omega) (by omega)
      omega
    · rw [f_X4_at_25, if_pos (ix_nI hr (by omega)), nI_clamp (by omega), e4, if_neg (nI_ge (by omega) (by omega)), ma600, if_pos (ix_nI (by omega) (by omega)), nI_clamp (by omega), e7, rem2 (by omega), h1, if_pos nI_0, h2, Nat.sub_self, if_pos nI_0, div2 (by omega)]
  · intro h1
    rw [hz]
    refine loopE (fun m i => f_X4_at_25 m (nI r) (nI (j - evn ((sq x r).take i))) (nI i) v) (a := 0) (b := (sq x r).length) (Nat.zero_le _) (NF_lt (by omega)) (fun m i h3 h4 => ?_) (fun m => ?_)
    · have hmo := evn_mono (l := sq x r) (i := i) (k := (sq x r).length) (by omega) (by omega)
      rw [List.take_length] at hmo
      refine step m i h4 (by omega) (fun z => ?_)
      have e1 := evn_s (l := sq x r) (i := i) (by omega)
      rw [if_pos z] at e1
      have := evn_mono (l := sq x r) (i := i + 1) (k := (sq x r).length) (by omega) (by omega)
      rw [List.take_length] at this
      omega
    · rw [f_X4_at_25, if_pos (ix_nI hr (by omega)), nI_clamp (by omega), e4, if_pos (nI_le (Nat.le_refl _) (by omega))]
end ATS
theorem st_at : Sp_at Rl := by
  intro u v x1 x2 hr
  obtain ⟨T, x, h⟩ := hr.now
  have h' := p_th h
  obtain ⟨hC, hM, hI, hN, h5, h6⟩ := id h
  obtain ⟨-, hM', -, -, -, h6'⟩ := id h'
  rcases rw_dec x x1 with ⟨r, hq⟩ | hno
  · have a1 := q_isRow hC hq
    have a2 := p_isRow hM' hq
    obtain ⟨rfl, hr8, hk⟩ := hq
    by_cases c : 0 ≤ x2
    · obtain ⟨j, hj, rfl⟩ := nI_of (Int32.not_lt.mpr c)
      have b1 : f_X3_at (nI r) (nI j) u = (f_X2_thingNumber (nI r) (nI j) u.2.2.2.2.1).bind (fun z5 => some z5) := by
        unfold f_X3_at
        rw [a1, Option.bind_some, if_neg (by decide), if_pos c]
      have b2 : f_X4_at (nI r) (nI j) v = f_X4_at_25 NF (nI r) (nI j) 0 (mF v 0 0) := by
        unfold f_X4_at
        rw [a2, Option.bind_some, if_neg (by decide), if_pos c]
      by_cases z : j < evn (sq x r)
      · obtain ⟨P, p1, p2, p3⟩ := ev_find z
        rw [(q_at hC hI hr8 hj).1 P p1 p2 p3, Option.bind_some] at b1
        rw [(p_at hM' hI hr8 hj).1 P p1 p2 p3] at b2
        exact ⟨_, _, b1, b2, rfl, Rl_th hr⟩
      · rw [(q_at hC hI hr8 hj).2 (by omega), Option.bind_some] at b1
        rw [(p_at hM' hI hr8 hj).2 (by omega)] at b2
        exact ⟨_, _, b1, b2, rfl, Rl_th hr⟩
    · refine ⟨-3, (-3, mF v 0 0), ?_, ?_, rfl, Rl_th hr⟩
      · unfold f_X3_at
        rw [a1, Option.bind_some, if_neg (by decide), if_neg c]
      · unfold f_X4_at
        rw [a2, Option.bind_some, if_neg (by decide), if_neg c]
  · refine ⟨-3, (-3, mF v 0 0), ?_, ?_, rfl, Rl_th hr⟩
    · unfold f_X3_at
      rw [q_isRow_no hC hno, Option.bind_some, if_pos rfl]
    · unfold f_X4_at
      rw [p_isRow_no hM' hno, Option.bind_some, if_pos rfl]
