/-! ===== the beginning; marked ===== -/
def x0 : XS := (fun _ => -1, fun _ => 0, fun _ => 0, fun _ => [], fun _ => 0, fun k _ => if k = 1 then -1 else 0, 0)
theorem sq_x0 (r : Nat) : sq x0 r = [] := rfl
theorem off_x0 : ∀ r, off x0 r = 0
  | 0 => rfl
  | r + 1 => by rw [off, off_x0 r]; rfl
theorem CA_0 : CA s0 x0 := by
  refine ⟨fun r hr => ⟨rfl, rfl, rfl⟩, fun r hr => ?_, fun r hr i hi => absurd hi (Nat.not_lt_zero i), fun r hr d hd => absurd hd List.not_mem_nil, fun t ht _ => rfl, fun r hr b hb => absurd hb List.not_mem_nil, fun r hr _ d hd => absurd hd List.not_mem_nil, fun m hm => ⟨rfl, rfl, rfl⟩, rfl⟩
  rw [off_x0]; rfl
theorem MA_0 : MA (core m0) x0 := by
  refine ⟨fun r hr => ⟨rfl, rfl, rfl⟩, fun r hr => rfl, fun r hr i hi => absurd hi (Nat.not_lt_zero i), fun r hr _ b hb => absurd hb List.not_mem_nil, fun r hr h => absurd (show (2 : Int32) ≤ -1 from h) (by decide), fun r hr _ d hd => absurd hd List.not_mem_nil, fun m hm => ⟨rfl, rfl, rfl⟩, rfl⟩
theorem Inv_0 : Inv 0 x0 := ⟨by omega, fun r hr => Or.inl ⟨rfl, rfl, rfl⟩, fun r hr => List.nodup_nil, fun r s _ _ _ d hd => absurd hd List.not_mem_nil, fun r hr d hd => absurd hd List.not_mem_nil, fun r hr _ d hd => absurd hd List.not_mem_nil, fun m hm => Or.inl rfl⟩
theorem Rl_0 (an : Nat → Nat) (ak : Nat → Nat → Nat) : Rl (h0s an ak) m0 := ⟨0, 0, 0, 0, by omega, by omega, by omega, by omega, rfl, rfl, rfl, rfl, rfl, rfl, ⟨x0, CA_0, MA_0, Inv_0, fun r hr h => absurd (show (-1 : Int32) = 3 from h) (by decide)⟩, fun j hj => absurd hj (Nat.not_lt_zero j)⟩
/-- a number of a mark that is set -/
def Mk (x : XS) (y : Int32) (m : Nat) : Prop := y = nI m ∧ m < 20 ∧ xm x 1 m ≠ -1
theorem mk_dec (x : XS) (y : Int32) : (∃ m, Mk x y m) ∨ ∀ m, ¬ Mk x y m := by
  by_cases h : ∃ r, Mk x y r
  · exact Or.inl h
  · exact Or.inr fun r q => h ⟨r, q⟩
section ST2
variable {u : HS} {v : MS} {x : XS} {T : Nat}
theorem q_isSet {a : SS} (hC : CA a x) {y : Int32} {m : Nat} (h : Mk x y m) : f_X0_isSet y a.2.1 = some 1 := by
  obtain ⟨rfl, hm, hk⟩ := h
  unfold f_X0_isSet
  rw [if_neg (nI_pos (by omega)), if_neg (show ¬ (20 : Int32) ≤ nI m from nI_ge (b := 20) hm (by omega)), if_pos (ix_nI hm (by omega)), nI_clamp (by omega), (hC.2.2.2.2.2.2.2.1 m hm).1, if_neg hk]
theorem q_isSet_no {a : SS} (hC : CA a x) {y : Int32} (h : ∀ m, ¬ Mk x y m) : f_X0_isSet y a.2.1 = some 0 := by
  unfold f_X0_isSet
  rcases pk_ix y (n := 20) (by omega) with q | q | ⟨r, q, rfl⟩
  · rw [if_pos q]
  · by_cases q2 : y < 0
    · rw [if_pos q2]
    · rw [if_neg q2, if_pos (show (20 : Int32) ≤ y from q)]
  · rw [if_neg (nI_pos (by omega)), if_neg (show ¬ (20 : Int32) ≤ nI r from nI_ge (b := 20) q (by omega)), if_pos (ix_nI q (by omega)), nI_clamp (by omega), (hC.2.2.2.2.2.2.2.1 r q).1, if_pos (Decidable.byContradiction fun z => h r ⟨rfl, q, z⟩)]
theorem p_isMark (hM : MA (core v) x) {y : Int32} {m : Nat} (h : Mk x y m) : f_X4_isMark y v = some 1 := by
  obtain ⟨rfl, hm, hk⟩ := h
  have e2 : v.2.1 12 m = xm x 1 m := (hM.2.2.2.2.2.2.1 m hm).1
  unfold f_X4_isMark
  rw [show (19 : Int32) = nI 19 from rfl, (p_in7 (by omega)).2 m (by omega) rfl, Option.bind_some, if_neg (by decide), if_pos (ix_nI hm (by omega)), nI_clamp (by omega), e2, if_neg hk]
theorem p_isMark_no (hM : MA (core v) x) {y : Int32} (h : ∀ m, ¬ Mk x y m) : f_X4_isMark y v = some 0 := by
  unfold f_X4_isMark
  rw [show (19 : Int32) = nI 19 from rfl]
  rcases pk_ix y (n := 20) (by omega) with q | q | ⟨r, q, rfl⟩
  · rw [(p_in7 (by omega)).1 (Or.inl q), Option.bind_some, if_pos rfl]
  · rw [(p_in7 (by omega)).1 (Or.inr q), Option.bind_some, if_pos rfl]
  · have e2 : v.2.1 12 r = xm x 1 r := (hM.2.2.2.2.2.2.1 r q).1
    rw [(p_in7 (by omega)).2 r (by omega) rfl, Option.bind_some, if_neg (by decide), if_pos (ix_nI q (by omega)), nI_clamp (by omega), e2, if_pos (Decidable.byContradiction fun z => h r ⟨rfl, q, z⟩)]
end ST2
theorem rem2 {d : Nat} (h : d < 2 ^ 31) : nI d - nI d / 2 * 2 = nI (d % 2) := pk_rem (d := 2) h (by omega) (by omega)
theorem div2 {d : Nat} (h : d < 2 ^ 31) : nI d / 2 = nI (d / 2) := pk_div (d := 2) h (by omega) (by omega)
theorem and1 {d : Nat} (h : d < 2 ^ 32) : nI d &&& 1 = nI (d % 2) := pk_andN h 1 (by decide)
theorem isEnd_0 {d : Nat} (h : d < 2 ^ 31) (e : d % 2 = 0) : f_X3_isEnd (nI d) = some 0 := by
  unfold f_X3_isEnd
  rw [and1 (by omega), e, if_neg (by decide)]
theorem isEnd_1 {d : Nat} (h : d < 2 ^ 31) (e : d % 2 = 1) : f_X3_isEnd (nI d) = some 1 := by
  unfold f_X3_isEnd
  rw [and1 (by omega), e, if_pos (by decide)]
theorem st_marked : Sp_marked Rl := by
  intro u v x1 hr
  obtain ⟨T, x, h⟩ := hr.now
  obtain ⟨hC, hM, hI, hN, h5, h6⟩ := id h
  obtain ⟨-, hM', -, -, -, h6'⟩ := p_th h
  rcases mk_dec x x1 with ⟨m, hq⟩ | hno
  · have a1 := q_isSet hC hq
    have a2 := p_isMark hM' hq
    obtain ⟨rfl, hm, hk⟩ := hq
    have e13 : (mF v 0 0).2.1 13 m = xm x 2 m := (hM'.2.2.2.2.2.2.1 m hm).2.1
    have e2 : u.2.2.2.2.1.2.1 2 m = xm x 2 m := (hC.2.2.2.2.2.2.2.1 m hm).2.1
    have b1 : f_X3_marked (nI m) u = (if xm x 2 m = -1 then some (-1) else (f_X3_isEnd (xm x 2 m)).bind (fun z6 => (if z6 = 0 then (f_X3_thingOf (xm x 2 m)).bind (fun z9 => some z9) else (f_X3_thingOf (xm x 2 m)).bind (fun z11 => some (1000 + z11))))) := by
      unfold f_X3_marked
      rw [a1, Option.bind_some, if_neg (by decide), if_pos (ix_nI hm (by omega)), nI_clamp (by omega), e2]
    have b2 : f_X4_marked (nI m) v = (if xm x 2 m = -1 then some (-1, mF v 0 0) else (if (xm x 2 m - xm x 2 m / 2 * 2) = 0 then some (xm x 2 m / 2, mF v 0 0) else some (1000 + xm x 2 m / 2, mF v 0 0))) := by
      unfold f_X4_marked
      rw [a2, Option.bind_some, if_neg (by decide), if_pos (ix_nI hm (by omega)), nI_clamp (by omega), e13]
    rcases hI.2.2.2.2.2.2 m hm with q | ⟨⟨r, hr8, -, -, q | ⟨d, hd, q⟩⟩, -⟩
    · exact absurd q hk
    · exact ⟨-1, (-1, mF v 0 0), by rw [b1, if_pos q], by rw [b2, if_pos q], rfl, Rl_th hr⟩
    · have hd6 := sq_lt hI hr8 hd
      rw [q] at b1 b2
      rw [if_neg (ne_m1 (by omega))] at b1 b2
      rw [rem2 (by omega), div2 (by omega)] at b2
      by_cases e : d % 2 = 0
      · rw [isEnd_0 (by omega) e, Option.bind_some, if_pos rfl] at b1
        rw [e, if_pos nI_0] at b2
        unfold f_X3_thingOf at b1
        rw [Option.bind_some, shr1 (by omega)] at b1
        exact ⟨_, _, b1, b2, rfl, Rl_th hr⟩
      · have e' : d % 2 = 1 := by omega
        rw [isEnd_1 (by omega) e', Option.bind_some, if_neg (by decide)] at b1
        rw [e', if_neg (by decide)] at b2
        unfold f_X3_thingOf at b1
        rw [Option.bind_some, shr1 (by omega)] at b1
        exact ⟨_, _, b1, b2, rfl, Rl_th hr⟩
  · refine ⟨-3, (-3, mF v 0 0), ?_, ?_, rfl, Rl_th hr⟩
    · unfold f_X3_marked
      rw [q_isSet_no hC hno, Option.bind_some, if_pos rfl]
    · unfold f_X4_marked
      rw [p_isMark_no hM' hno, Option.bind_some, if_pos rfl]
