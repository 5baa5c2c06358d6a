theorem st_row : Sp_row Rl := by
  intro u v x1 x2 x3 hr
  obtain ⟨T, n, N, E, h1, h2, h3, h4, h5, h6, h7, h8, h9, h10, h11, h12⟩ := id hr
  obtain ⟨x, hC, hM, hV, hNe⟩ := id h11
  have hM' : MA (core (mF v 0 0)) x := by rw [core_th]; exact hM
  have bad : f_X3_row x1 x2 x3 u = some (-3, u) → f_X4_row x1 x2 x3 v = some (-3, mF v 0 0) → ∃ z w, f_X3_row x1 x2 x3 u = some z ∧ f_X4_row x1 x2 x3 v = some w ∧ z.1 = w.1 ∧ Rl z.2 w.2 := fun a b => ⟨_, _, a, b, rfl, Rl_th hr⟩
  rcases in_dec x1 0 7 (by omega) (by omega) with ⟨i1, r, -, hr7, rfl⟩ | ⟨i1, hx⟩
  · have c1 : ¬ nI r < 0 := nI_pos (by omega)
    have c2 : ¬ (8 : Int32) ≤ nI r := nI_ge (b := 8) (by omega) (by omega)
    have i1' : f_X4_in (nI r) 0 7 = some 1 := i1
    rcases in_dec x2 0 3 (by omega) (by omega) with ⟨i2, k, -, hk3, rfl⟩ | ⟨i2, hx⟩
    · have k1 : f_X3_isKind (nI k) = some 1 := i2
      have i2' : f_X4_in (nI k) 0 3 = some 1 := i2
      rcases in_dec x3 4 40 (by omega) (by omega) with ⟨i3, w, hw4, hw40, rfl⟩ | ⟨i3, hx⟩
      · have w1 : ¬ nI w < (4 : Int32) := nI_nlt (b := 4) hw4 (by omega)
        have w2 : nI w ≤ (40 : Int32) := nI_le (b := 40) hw40 (by omega)
        have i3' : f_X4_in (nI w) 4 40 = some 1 := i3
        have e2 : (mF v 0 0).2.1 2 r = xk x r := (hM'.1 r (by omega)).1
        by_cases hk : xk x r = -1
        · obtain ⟨v1, v2, s1, s2, s3, s4, s5, s6, s7, s8, s9⟩ := save_keep (v := mF v 0 0) h4 h2 (by rw [th_1 (by decide)]; exact h10) (by rw [th_1 (by decide)]; exact h8)
          have b1 : f_X3_row (nI r) (nI k) (nI w) u = some (0, hI (hI (hN (bgn u N) (sA (sA u.2.2.2.2.1 2 r (nI k)) 3 r (nI w))) 3 (nI ((N + 1) % 9))) 4 (nI (if n < 8 then n + 1 else 8))) := by
            unfold f_X3_row
            rw [if_neg c1, if_neg c2, k1, Option.bind_some, if_neg (by decide), if_neg w1, if_pos w2, q_isRow_no hC (fun s hs => hs.2.2 (by rw [← (nI_eq (by omega) (by have := hs.2.1; omega)).mp hs.1]; exact hk)), Option.bind_some, if_pos rfl, begin_eq h3 h9, Option.bind_some, if_pos (ix_nI (by omega) (by omega)), if_pos (ix_nI (by omega) (by omega)), nI_clamp (by omega)]
            have := end_yes (w := hN (bgn u N) (sA (sA u.2.2.2.2.1 2 r (nI k)) 3 r (nI w))) h3 h2 h9 h7
            exact (congrArg (fun o => o.bind fun z15 => some ((0 : Int32), z15)) this)
          have b2 : f_X4_row (nI r) (nI k) (nI w) v = some (0, mRow v2 r (nI k) (nI w)) := by
            unfold f_X4_row
            rw [i1', Option.bind_some, if_neg (by decide), i2', Option.bind_some, if_neg (by decide), i3', Option.bind_some, if_neg (by decide), if_pos (ix_nI (by omega) (by omega)), nI_clamp (by omega), e2, if_pos hk, s1, Option.bind_some, s2, Option.bind_some, if_pos (ix_nI (by omega) (by omega)), if_pos (ix_nI (by omega) (by omega)), if_pos (ix_nI (by omega) (by omega)), if_pos (ix_nI (by omega) (by omega)), if_pos (ix_nI (by omega) (by omega))]
            rfl
          have hM2 : MA (core v2) x := by
            refine MA_CQ hV ?_ hM'
            unfold core CQ
            dsimp only
            exact ⟨fun i _ => by rw [s6 2 (by decide)], fun i _ => by rw [s6 3 (by decide)], fun i _ => by rw [s6 4 (by decide)], fun i _ => by rw [s6 5 (by decide)], fun i _ => by rw [s6 6 (by decide)], fun i _ => by rw [s6 7 (by decide)], fun i _ => by rw [s6 8 (by decide)], fun i _ => by rw [s6 11 (by decide)], fun i _ => by rw [s6 12 (by decide)], fun i _ => by rw [s6 13 (by decide)], fun i _ => by rw [s6 14 (by decide)], fun i _ => by rw [s7 9 (by decide)], fun i _ => by rw [s7 10 (by decide)], s5 15 (by decide) (by decide) (by decide)⟩
          obtain ⟨hI2, hN2⟩ := Inv_row (k := k) (w := w) hV hNe (show r < 8 by omega) hk (by omega) hw4 hw40
          refine ⟨_, _, b1, b2, rfl, Rl_change (v := v) h2 h3 h4 (Nat.le_refl T) h1 h11 h12 ?_ hI_at ?_ rfl ?_ s3 s4 ?_ (fun q hq hq2 => ?_) ⟨_, CA_row hC hV (by omega) hk, MA_row hM2 hV (by omega) hk, hI2, hN2⟩⟩
          · rw [hI_ne (by decide), hI_ne (by decide)]; exact h5
          · rw [hI_ne (by decide), hI_at]
          · exact (s5 1 (by decide) (by decide) (by decide)).trans ((th_1 (by decide)).trans h6)
          · rw [slot_mRow, ← core_th]; exact s8
          · rw [slot_mRow]; exact s9 q hq hq2
        · refine ⟨(-4, u), (-4, mF v 0 0), ?_, ?_, rfl, Rl_th hr⟩
          · unfold f_X3_row
            rw [if_neg c1, if_neg c2, k1, Option.bind_some, if_neg (by decide), if_neg w1, if_pos w2, q_isRow hC ⟨rfl, by omega, hk⟩, Option.bind_some, if_neg (by decide)]
          · unfold f_X4_row
            rw [i1', Option.bind_some, if_neg (by decide), i2', Option.bind_some, if_neg (by decide), i3', Option.bind_some, if_neg (by decide), if_pos (ix_nI (by omega) (by omega)), nI_clamp (by omega), e2, if_neg hk]
      · have i3' : f_X4_in x3 4 40 = some 0 := i3
        refine bad ?_ ?_
        · unfold f_X3_row
          rw [if_neg c1, if_neg c2, k1, Option.bind_some, if_neg (by decide)]
          rcases hx with hx | ⟨hx, hx2⟩
          · rw [if_pos (show x3 < (4 : Int32) from hx)]
          · rw [if_neg (show ¬ x3 < (4 : Int32) from hx), if_neg (show ¬ x3 ≤ (40 : Int32) from fun q => by
              rw [Int32.le_iff_toInt_le] at q
              rw [Int32.lt_iff_toInt_lt] at hx2
              exact absurd q (by have : (nI 40).toInt = (40 : Int32).toInt := rfl; omega))]
        · unfold f_X4_row
          rw [i1', Option.bind_some, if_neg (by decide), i2', Option.bind_some, if_neg (by decide), i3', Option.bind_some, if_pos rfl]
    · have i2' : f_X4_in x2 0 3 = some 0 := i2
      have k1 : f_X3_isKind x2 = some 0 := i2
      refine bad ?_ ?_
      · unfold f_X3_row
        rw [if_neg c1, if_neg c2, k1, Option.bind_some, if_pos rfl]
      · unfold f_X4_row
        rw [i1', Option.bind_some, if_neg (by decide), i2', Option.bind_some, if_pos rfl]
  · have i1' : f_X4_in x1 0 7 = some 0 := i1
    refine bad ?_ ?_
    · unfold f_X3_row
      rcases hx with hx | ⟨hx, hx2⟩
      · rw [if_pos (show x1 < 0 from hx)]
      · obtain ⟨j, hj, rfl⟩ := nI_of (show ¬ x1 < 0 from hx)
        have := (nI_ltI (by omega) hj).mp hx2
        rw [if_neg (show ¬ nI j < 0 from hx), if_pos (show (8 : Int32) ≤ nI j from nI_le (a := 8) (by omega) hj)]
    · unfold f_X4_row
      rw [i1', Option.bind_some, if_pos rfl]
