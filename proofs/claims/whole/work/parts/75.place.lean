/-! ===== places; mark ===== -/
section PLC
variable {u : HS} {v : MS} {x : XS} {T r : Nat}
/-- y, e name a stand of row r behind which one may come, or its beginning: place p, stand b -/
def Pl (x : XS) (r : Nat) (y : Int32) (e p : Nat) (b : Int32) : Prop := (y = -1 ∧ e = 0 ∧ p = 0 ∧ b = -1) ∨ ∃ t, y = nI t ∧ 2 * t ∈ sq x r ∧ 2 * t + e ∈ sq x r ∧ (e = 0 ∨ xk x r = 3) ∧ p = pos (sq x r) (2 * t + e) + 1 ∧ b = nI (2 * t + e)
theorem q_isPlace (h : Now u v T x) (hr : r < 8) (hk : xk x r ≠ -1) (y : Int32) {e : Nat} (he : e < 2) : ((∃ p b, Pl x r y e p b) → f_X3_isPlace (nI r) y (nI e) u = some 1) ∧ ((∀ p b, ¬ Pl x r y e p b) → f_X3_isPlace (nI r) y (nI e) u = some 0) := by
  obtain ⟨hC, hM, hI, hN, h5, h6⟩ := id h
  have g0 : f_X3_isPlace (nI r) y (nI e) u = (if y = ((-1) : Int32) then (if nI e = 0 then some 1 else some 0) else (f_X3_hasStand y (nI e) u).bind (fun z5 => (if z5 = 0 then some 0 else (f_X1_rowOfThing y u.2.2.2.2.1.1).bind (fun z8 => (if z8 = nI r then some 1 else some 0))))) := by
    unfold f_X3_isPlace
    rw [q_isRow hC ⟨rfl, hr, hk⟩, Option.bind_some, if_neg (by decide)]
  rw [g0]
  by_cases z : y = -1
  · rw [if_pos z]
    by_cases w : e = 0
    · subst w
      rw [if_pos nI_0]
      exact ⟨fun _ => rfl, fun q => absurd (Or.inl ⟨z, rfl, rfl, rfl⟩) (q 0 (-1))⟩
    · rw [if_neg (nI_ne0 (by omega) (by omega))]
      refine ⟨fun q => ?_, fun _ => rfl⟩
      obtain ⟨p, b, q⟩ := q
      rcases q with ⟨-, q, -⟩ | ⟨t, q1, q2, -⟩
      · exact absurd q w
      · have := sq_lt hI hr q2
        rw [z] at q1
        exact absurd q1.symm (ne_m1 (by omega))
  · rw [if_neg z]
    rcases thg_dec x y with ⟨t, q, hq⟩ | hno
    · obtain ⟨rfl, hq8, hm⟩ := hq
      have ht6 := sq_lt hI hq8 hm
      rw [q_hasStand h hq8 hm e he, Option.bind_some]
      by_cases w : e = 0 ∨ xk x q = 3
      · rw [if_pos w, if_neg (by decide), q_rowT hC hI hq8 hm, Option.bind_some]
        have hd := stand_in hI hN hq8 hm he w
        by_cases y2 : q = r
        · subst y2
          rw [if_pos rfl]
          exact ⟨fun _ => rfl, fun k => absurd (Or.inr ⟨t, rfl, hm, hd, w, rfl, rfl⟩) (k _ _)⟩
        · rw [if_neg (fun k => y2 ((nI_eq (by omega) (by omega)).mp k))]
          refine ⟨fun k => ?_, fun _ => rfl⟩
          obtain ⟨p, b, k⟩ := k
          rcases k with ⟨k, -⟩ | ⟨t', k1, k2, -⟩
          · exact absurd k z
          · have := sq_lt hI hr k2
            have e1 := (nI_eq (by omega) (by omega)).mp k1
            subst e1
            exact absurd rfl (hI.2.2.2.1 q r hq8 hr y2 _ hm _ k2)
      · rw [if_neg w, if_pos rfl]
        refine ⟨fun k => ?_, fun _ => rfl⟩
        obtain ⟨p, b, k⟩ := k
        rcases k with ⟨k, -⟩ | ⟨t', k1, k2, k3, k4, -⟩
        · exact absurd k z
        · have := sq_lt hI hr k2
          have e1 := (nI_eq (by omega) (by omega)).mp k1
          subst e1
          have : q = r := by
            by_cases y2 : q = r
            · exact y2
            · exact absurd rfl (hI.2.2.2.1 q r hq8 hr y2 _ hm _ k2)
          subst this
          exact absurd k4 w
    · have g1 : f_X3_hasStand y (nI e) u = some 0 := by
        unfold f_X3_hasStand
        rw [q_isStanding_no h hno, Option.bind_some, if_pos rfl]
      rw [g1, Option.bind_some, if_pos rfl]
      refine ⟨fun k => ?_, fun _ => rfl⟩
      obtain ⟨p, b, k⟩ := k
      rcases k with ⟨k, -⟩ | ⟨t', k1, k2, -⟩
      · exact absurd k z
      · exact absurd ⟨k1, hr, k2⟩ (hno t' r)
theorem p_behind (hM : MA (core v) x) (hI : Inv T x) (hN : Nest x) (h1 : v.1 1 = nI T) (hr : r < 8) (y : Int32) {e : Nat} (he : e < 2) : (∀ p b, Pl x r y e p b → f_X4_placeBehind (nI r) y (nI e) v = some (nI p)) ∧ ((∀ p b, ¬ Pl x r y e p b) → f_X4_placeBehind (nI r) y (nI e) v = some (-3)) := by
  have e2 : v.2.1 2 r = xk x r := (hM.1 r hr).1
  by_cases z : y = -1
  · have g0 : f_X4_placeBehind (nI r) y (nI e) v = (if nI e = 0 then some 0 else some (-3)) := by
      unfold f_X4_placeBehind
      rw [if_pos z]
    rw [g0]
    by_cases w : e = 0
    · subst w
      rw [if_pos nI_0]
      refine ⟨fun p b q => ?_, fun q => absurd (Or.inl ⟨z, rfl, rfl, rfl⟩) (q 0 (-1))⟩
      rcases q with ⟨-, -, q, -⟩ | ⟨t, q1, q2, -⟩
      · rw [q]; rfl
      · have := sq_lt hI hr q2
        rw [z] at q1
        exact absurd q1.symm (ne_m1 (by omega))
    · rw [if_neg (nI_ne0 (by omega) (by omega))]
      refine ⟨fun p b q => ?_, fun _ => rfl⟩
      rcases q with ⟨-, q, -⟩ | ⟨t, q1, q2, -⟩
      · exact absurd q w
      · have := sq_lt hI hr q2
        rw [z] at q1
        exact absurd q1.symm (ne_m1 (by omega))
  · rcases thg_dec x y with ⟨t, q, hq⟩ | hno
    · have a1 := p_isThing hM hI h1 hq
      obtain ⟨rfl, hq8, hm⟩ := hq
      have ht6 := sq_lt hI hq8 hm
      have g0 : f_X4_placeBehind (nI r) (nI t) (nI e) v = (if nI q = nI r then (if nI e = 0 then f_X4_placeBehind_52 (nI r) (nI t) (nI e) v else (if xk x r = (3 : Int32) then f_X4_placeBehind_52 (nI r) (nI t) (nI e) v else some (-3))) else some (-3)) := by
        unfold f_X4_placeBehind
        rw [if_neg z, a1, Option.bind_some, if_neg (by decide), p_rowT hM hI hq8 hm, Option.bind_some, if_pos (ix_nI hr (by omega)), nI_clamp (by omega), e2]
      rw [g0]
      by_cases y2 : q = r
      · subst y2
        rw [if_pos rfl]
        have g1 : 2 * t + e ∈ sq x q → f_X4_placeBehind_52 (nI q) (nI t) (nI e) v = some (nI (pos (sq x q) (2 * t + e) + 1)) := by
          intro hd
          unfold f_X4_placeBehind_52
          by_cases w : e = 0
          · subst w
            have e0 : (2 * nI t + 0 : Int32) = nI (2 * t + 0) := by rw [two_nI]; exact nI_add _ 0
            rw [if_pos nI_0, e0, p_placeOf hM hI hq8 hd, Option.bind_some, nI_1]
          · have : e = 1 := by omega
            subst this
            rw [if_neg (by decide), two1, p_placeOf hM hI hq8 hd, Option.bind_some, nI_1]
        by_cases w : e = 0 ∨ xk x q = 3
        · have hd := stand_in hI hN hq8 hm he w
          have g2 : (if nI e = 0 then f_X4_placeBehind_52 (nI q) (nI t) (nI e) v else (if xk x q = (3 : Int32) then f_X4_placeBehind_52 (nI q) (nI t) (nI e) v else some (-3))) = some (nI (pos (sq x q) (2 * t + e) + 1)) := by
            by_cases w0 : e = 0
            · rw [if_pos (by rw [w0]; rfl), g1 hd]
            · rw [if_neg (nI_ne0 (by omega) (by omega)), if_pos (w.elim (fun k => absurd k w0) id), g1 hd]
          rw [g2]
          refine ⟨fun p b k => ?_, fun k => absurd (Or.inr ⟨t, rfl, hm, hd, w, rfl, rfl⟩) (k _ _)⟩
          rcases k with ⟨k, -⟩ | ⟨t', k1, k2, k3, k4, k5, -⟩
          · exact absurd k z
          · have := sq_lt hI hr k2
            have e1 := (nI_eq (by omega) (by omega)).mp k1
            subst e1
            rw [k5]
        · rw [if_neg (nI_ne0 (by have : ¬ e = 0 := fun k => w (Or.inl k)
                                 omega) (by omega)), if_neg (fun k => w (Or.inr k))]
          refine ⟨fun p b k => ?_, fun _ => rfl⟩
          rcases k with ⟨k, -⟩ | ⟨t', k1, k2, k3, k4, k5, -⟩
          · exact absurd k z
          · exact absurd k4 w
      · rw [if_neg (fun k => y2 ((nI_eq (by omega) (by omega)).mp k))]
        refine ⟨fun p b k => ?_, fun _ => rfl⟩
        rcases k with ⟨k, -⟩ | ⟨t', k1, k2, -⟩
        · exact absurd k z
        · have := sq_lt hI hr k2
          have e1 := (nI_eq (by omega) (by omega)).mp k1
          subst e1
          exact absurd rfl (hI.2.2.2.1 q r hq8 hr y2 _ hm _ k2)
    · have g0 : f_X4_placeBehind (nI r) y (nI e) v = some (-3) := by
        unfold f_X4_placeBehind
        rw [if_neg z, p_isThing_no hM hI h1 hno, Option.bind_some, if_pos rfl]
      rw [g0]
      refine ⟨fun p b k => ?_, fun _ => rfl⟩
      rcases k with ⟨k, -⟩ | ⟨t', k1, k2, -⟩
      · exact absurd k z
      · exact absurd ⟨k1, hr, k2⟩ (hno t' r)
theorem pl_dec (x : XS) (r : Nat) (y : Int32) (e : Nat) : (∃ p b, Pl x r y e p b) ∨ ∀ p b, ¬ Pl x r y e p b := by
  by_cases h : ∃ p b, Pl x r y e p b
  · exact Or.inl h
  · exact Or.inr fun p b q => h ⟨p, b, q⟩
theorem standOf_pl (hI : Inv T x) (hr : r < 8) {y b : Int32} {e p : Nat} (he : e < 2) (h : Pl x r y e p b) : f_X3_standOf y (nI e) = some b := by
  rcases h with ⟨h1, h2, h3, h4⟩ | ⟨t, h1, h2, h3, h4, h5, h6⟩
  · subst h2
    unfold f_X3_standOf
    rw [if_pos h1, h4]
  · have := sq_lt hI hr h2
    rw [h1, standOf_eq (by omega) e he, h6]
theorem pl_lt (hI : Inv T x) (hr : r < 8) {y b : Int32} {e p : Nat} (h : Pl x r y e p b) : p ≤ (sq x r).length ∧ (b = -1 ∨ ∃ d ∈ sq x r, b = nI d) ∧ b = ahd x r p ∧ (b = -1 → p = 0) := by
  rcases h with ⟨h1, h2, h3, h4⟩ | ⟨t, h1, h2, h3, h4, h5, h6⟩
  · exact ⟨by omega, Or.inl h4, by rw [h3, h4]; rfl, fun _ => h3⟩
  · have := pos_lt h3
    have h7 := sq_lt hI hr h3
    refine ⟨by omega, Or.inr ⟨_, h3, h6⟩, ?_, fun z => ?_⟩
    · unfold ahd
      rw [if_neg (by omega), h5, Nat.add_sub_cancel, pos_at h3, h6]
    · rw [h6] at z
      exact absurd z (ne_m1 (by omega))
end PLC
/-! a change: how it ends on both sides -/
theorem slot_Fm {I A B : List Nat} {v w : MS} (h : Fm I A B v w) (h16 : 16 ∉ A) (h17 : 17 ∉ B) (k : Nat) : slot w k = slot v k := by
  unfold slot
  rw [h.2.1 16 h16, h.2.2 17 h17]
theorem CQ_of_core {v w : MS} (h : core v = core w) : CQ (core v) (core w) := by rw [h]; exact CQ.refl _
theorem chg_fail {u : HS} {v w : MS} {T n N E : Nat} {ub : HS} (h1 : T ≤ 300) (h2 : n ≤ 8) (h3 : N ≤ 8) (h4 : E < 8) (h11 : ST T u.2.2.2.2.1 (core v)) (h12 : ∀ j, j < n → ST T (u.2.2.2.2.2 ((N + 9 - j) % 9)) (slot v ((E + 7 - j) % 8)))
    (c5 : ub.2.2.1 5 = nI T) (c4 : ub.2.2.1 4 = nI n) (c3 : ub.2.2.1 3 = nI N) (ck : ub.2.2.2.2.2 = va_up u.2.2.2.2.2 ((N + 1) % 9) u.2.2.2.2.1)
    (m1 : w.1 1 = nI T) (m18 : w.1 18 = nI E) (m19 : w.1 19 = nI n) (mc : CQ (core w) (core v)) (ms : ∀ k, k < 8 → CQ (slot w k) (slot v k)) : Rl (hX ub ((N + 1) % 9)) w := by
  refine ⟨T, n, N, E, h1, h2, h3, h4, c5, m1, c4, m19, c3, m18, ?_, fun j hj => ?_⟩
  · have e : (hX ub ((N + 1) % 9)).2.2.2.2.1 = u.2.2.2.2.1 := by
      show ub.2.2.2.2.2 ((N + 1) % 9) = _
      rw [ck, va_up_self]
    rw [e]
    exact ST_CQ mc h11
  · have e : (hX ub ((N + 1) % 9)).2.2.2.2.2 ((N + 9 - j) % 9) = u.2.2.2.2.2 ((N + 9 - j) % 9) := by
      show va_up ub.2.2.2.2.2 ((N + 1) % 9) ub.2.2.2.2.1 ((N + 9 - j) % 9) = _
      rw [va_up_ne _ _ (by omega), ck, va_up_ne _ _ (by omega)]
    rw [e]
    exact ST_CQ (ms _ (by omega)) (h12 j hj)
/-! mark -/
def xMs (x : XS) (m : Nat) (y1 y2 y3 : Int32) : XS := (xk x, xw x, xg x, xb x, xi x, va_up (va_up (va_up (xm x) 1 (upd (xm x 1) m y1)) 2 (upd (xm x 2) m y2)) 3 (upd (xm x 3) m y3), xr x)
theorem xMs_m {x : XS} {m : Nat} {y1 y2 y3 : Int32} : xm (xMs x m y1 y2 y3) 1 = upd (xm x 1) m y1 ∧ xm (xMs x m y1 y2 y3) 2 = upd (xm x 2) m y2 ∧ xm (xMs x m y1 y2 y3) 3 = upd (xm x 3) m y3 := by
  have e : xm (xMs x m y1 y2 y3) = va_up (va_up (va_up (xm x) 1 (upd (xm x 1) m y1)) 2 (upd (xm x 2) m y2)) 3 (upd (xm x 3) m y3) := rfl
  rw [e]
  refine ⟨?_, ?_, ?_⟩
  · rw [va_up_ne _ _ (by decide), va_up_ne _ _ (by decide), va_up_self]
  · rw [va_up_ne _ _ (by decide), va_up_self]
  · rw [va_up_self]
theorem st_mark : Sp_mark Rl := by
  intro u v x1 x2 x3 x4 hr
  obtain ⟨T, n, N, E, h1, h2, h3, h4, h5, h6, h7, h8, h9, h10, h11, h12⟩ := id hr
  obtain ⟨x, hC, hM, hV, hNe⟩ := id h11
  have hnow : Now u v T x := ⟨hC, hM, hV, hNe, h5, h6⟩
  have hM' : MA (core (mF v 0 0)) x := by rw [core_th]; exact hM
  have h6' : (mF v 0 0).1 1 = nI T := by rw [th_1 (by decide)]; exact h6
  have bad : f_X3_mark x1 x2 x3 x4 u = some (-3, u) → f_X4_mark x1 x2 x3 x4 v = some (-3, mF v 0 0) → ∃ z w, f_X3_mark x1 x2 x3 x4 u = some z ∧ f_X4_mark x1 x2 x3 x4 v = some w ∧ z.1 = w.1 ∧ Rl z.2 w.2 := fun a b => ⟨_, _, a, b, rfl, Rl_th hr⟩
  rcases in_dec x1 0 19 (by omega) (by omega) with ⟨i1, m, -, hm, rfl⟩ | ⟨i1, hx⟩
  · have c1 : ¬ nI m < 0 := nI_pos (by omega)
    have c2 : ¬ (20 : Int32) ≤ nI m := nI_ge (b := 20) (by omega) (by omega)
    have i1' : f_X4_in (nI m) 0 19 = some 1 := i1
    rcases rw_dec x x2 with ⟨r, hq⟩ | hno
    · have a2 := p_isRow hM' hq
      obtain ⟨rfl, hr8, hk⟩ := hq
      rcases in_dec x4 0 1 (by omega) (by omega) with ⟨i4, l, -, hl1, rfl⟩ | ⟨i4, hx⟩
      · have i4' : f_X4_in (nI l) 0 1 = some 1 := i4
        have d1 : ¬ nI l < 0 := nI_pos (by omega)
        have d2 : ¬ (1 : Int32) < nI l := nI_nlt (a := 1) hl1 (by omega)
        rcases pl_dec x r x3 0 with ⟨p, b, hp⟩ | hno
        · have a1 : f_X3_isPlace (nI r) x3 0 u = some 1 := (q_isPlace hnow hr8 hk x3 (e := 0) (by omega)).1 ⟨p, b, hp⟩
          have a3 : f_X4_placeBehind (nI r) x3 0 (mF v 0 0) = some (nI p) := (p_behind hM' hV hNe h6' hr8 x3 (e := 0) (by omega)).1 p b hp
          have a4 : f_X3_standOf x3 0 = some b := standOf_pl hV hr8 (e := 0) (by omega) hp
          obtain ⟨hp1, hb1, hb2, hb3⟩ := pl_lt hV hr8 hp
          have hl6 := len600 hV hr8
          obtain ⟨v1, v2, s1, s2, s3, s4, s5, s6, s7, s8, s9⟩ := save_keep (v := mF v 0 0) h4 h2 (by rw [th_1 (by decide)]; exact h10) (by rw [th_1 (by decide)]; exact h8)
          have b1 : f_X3_mark (nI m) (nI r) x3 (nI l) u = some (0, hI (hI (hN (bgn u N) (sK u.2.2.2.2.1 (oA (oA (oA u.2.2.2.2.1.2.1 1 m (nI r)) 2 m b) 3 m (nI l)))) 3 (nI ((N + 1) % 9))) 4 (nI (if n < 8 then n + 1 else 8))) := by
            unfold f_X3_mark
            rw [if_neg c1, if_neg c2, if_neg d1, if_neg d2, a1, Option.bind_some, if_neg (by decide), begin_eq h3 h9, Option.bind_some, a4, Option.bind_some]
            have g1 : f_X0_set (nI m) (nI r) b (nI l) (bgn u N).2.2.2.2.1.2.1 = some (oA (oA (oA u.2.2.2.2.1.2.1 1 m (nI r)) 2 m b) 3 m (nI l)) := by
              unfold f_X0_set
              rw [if_pos (ix_nI (by omega) (by omega)), if_pos (ix_nI (by omega) (by omega)), if_pos (ix_nI (by omega) (by omega)), nI_clamp (by omega)]
              rfl
            rw [g1, Option.bind_some]
            have := end_yes (w := hN (bgn u N) (sK u.2.2.2.2.1 (oA (oA (oA u.2.2.2.2.1.2.1 1 m (nI r)) 2 m b) 3 m (nI l)))) h3 h2 h9 h7
            exact (congrArg (fun o => o.bind fun z15 => some ((0 : Int32), z15)) this)
          have b2 : f_X4_mark (nI m) (nI r) x3 (nI l) v = some (0, mA (mA (mA v2 12 m (nI r)) 13 m b) 14 m (nI l)) := by
            unfold f_X4_mark
            rw [i1', Option.bind_some, if_neg (by decide), a2, Option.bind_some, if_neg (by decide), i4', Option.bind_some, if_neg (by decide), a3, Option.bind_some, if_neg (fun z => by
              have : ¬ nI p < 0 := nI_pos (by omega)
              rw [z] at this
              exact this (by decide)), s1, Option.bind_some, s2, Option.bind_some, if_pos (ix_nI (by omega) (by omega)), if_pos (ix_nI (by omega) (by omega)), if_pos (ix_nI (by omega) (by omega)), if_pos (ix_nI (by omega) (by omega)), if_pos (ix_nI (by omega) (by omega)), nI_clamp (by omega)]
            rcases hp with ⟨k1, k2, k3, k4⟩ | ⟨t, k1, k2, k3, k4, k5, k6⟩
            · rw [if_pos k1, k4]
            · have := sq_lt hV hr8 k2
              rw [k1, if_neg (ne_m1 (by omega)), two_nI, k6]
              rfl
          have hM2 : MA (core v2) x := by
            refine MA_CQ hV ?_ hM'
            unfold core CQ
            dsimp only
            exact ⟨fun i _ => by rw [s6 2 (by decide)], fun i _ => by rw [s6 3 (by decide)], fun i _ => by rw [s6 4 (by decide)], fun i _ => by rw [s6 5 (by decide)], fun i _ => by rw [s6 6 (by decide)], fun i _ => by rw [s6 7 (by decide)], fun i _ => by rw [s6 8 (by decide)], fun i _ => by rw [s6 11 (by decide)], fun i _ => by rw [s6 12 (by decide)], fun i _ => by rw [s6 13 (by decide)], fun i _ => by rw [s6 14 (by decide)], fun i _ => by rw [s7 9 (by decide)], fun i _ => by rw [s7 10 (by decide)], s5 15 (by decide) (by decide) (by decide)⟩
          have fF : Fm [] [12, 13, 14] [] v2 (mA (mA (mA v2 12 m (nI r)) 13 m b) 14 m (nI l)) := ((Fm.rf.pA (by decide)).pA (by decide)).pA (by decide)
          obtain ⟨x1m, x2m, x3m⟩ := xMs_m (x := x) (m := m) (y1 := nI r) (y2 := b) (y3 := nI l)
          refine ⟨_, _, b1, b2, rfl, Rl_change (v := v) h2 h3 h4 (Nat.le_refl T) h1 h11 h12 ?_ hI_at ?_ rfl ?_ s3 s4 ?_ (fun q hq hq2 => ?_) ⟨xMs x m (nI r) b (nI l), ?_, ?_, ?_, ?_⟩⟩
          · rw [hI_ne (by decide), hI_ne (by decide)]; exact h5
          · rw [hI_ne (by decide), hI_at]
          · exact (s5 1 (by decide) (by decide) (by decide)).trans ((th_1 (by decide)).trans h6)
          · rw [slot_Fm fF (by decide) (by decide), ← core_th]; exact s8
          · rw [slot_Fm fF (by decide) (by decide)]; exact s9 q hq hq2
          · obtain ⟨k1, k2, k6, k7, k8, k9⟩ := CA_iff.mp hC
            refine CA_iff.mpr ⟨k1, k2, k6, k7, fun j hj => ?_, k9⟩
            rw [x1m, x2m, x3m]
            obtain ⟨j1, j2, j3⟩ := k8 j hj
            show oA (oA (oA u.2.2.2.2.1.2.1 1 m (nI r)) 2 m b) 3 m (nI l) 1 j = _ ∧ oA (oA (oA u.2.2.2.2.1.2.1 1 m (nI r)) 2 m b) 3 m (nI l) 2 j = _ ∧ oA (oA (oA u.2.2.2.2.1.2.1 1 m (nI r)) 2 m b) 3 m (nI l) 3 j = _
            by_cases e : j = m
            · subst e
              rw [oA_k (show (1 : Nat) ≠ 3 by decide), oA_k (show (1 : Nat) ≠ 2 by decide), oA_at, oA_k (show (2 : Nat) ≠ 3 by decide), oA_at, oA_at, pk_us, pk_us, pk_us]
              exact ⟨rfl, rfl, rfl⟩
            · rw [oA_k (show (1 : Nat) ≠ 3 by decide), oA_k (show (1 : Nat) ≠ 2 by decide), oA_i e, oA_k (show (2 : Nat) ≠ 3 by decide), oA_i e, oA_k (show (2 : Nat) ≠ 1 by decide), oA_i e, oA_k (show (3 : Nat) ≠ 2 by decide), oA_k (show (3 : Nat) ≠ 1 by decide), pk_un e, pk_un e, pk_un e]
              exact ⟨j1, j2, j3⟩
          · obtain ⟨k1, k2, k3, k4, k5, k6, k7, k8⟩ := hM2
            have o : ∀ f, f ∉ [12, 13, 14] → (core (mA (mA (mA v2 12 m (nI r)) 13 m b) 14 m (nI l))).1 f = v2.2.1 f := fun f hf => fF.2.1 f hf
            refine ⟨fun s hs => ?_, fun s hs => ?_, fun s hs i hi => ?_, k4, fun s hs z => ?_, fun s hs z d hd => ?_, fun j hj => ?_, k8⟩
            · rw [o 2 (by decide), o 3 (by decide), o 5 (by decide)]; exact k1 s hs
            · rw [o 4 (by decide)]; exact k2 s hs
            · rw [o 7 (by decide)]; exact k3 s hs i hi
            · rw [o 6 (by decide), o 8 (by decide)]; exact k5 s hs z
            · rw [o 11 (by decide)]; exact k6 s hs z d hd
            · rw [x1m, x2m, x3m]
              obtain ⟨j1, j2, j3⟩ := k7 j hj
              rw [core_1]
              by_cases e : j = m
              · subst e
                rw [mA_k (show (12 : Nat) ≠ 14 by decide), mA_k (show (12 : Nat) ≠ 13 by decide), mA_at, mA_k (show (13 : Nat) ≠ 14 by decide), mA_at, mA_at, pk_us, pk_us, pk_us]
                exact ⟨rfl, rfl, rfl⟩
              · rw [mA_k (show (12 : Nat) ≠ 14 by decide), mA_k (show (12 : Nat) ≠ 13 by decide), mA_i e, mA_k (show (13 : Nat) ≠ 14 by decide), mA_i e, mA_k (show (13 : Nat) ≠ 12 by decide), mA_i e, mA_k (show (14 : Nat) ≠ 13 by decide), mA_k (show (14 : Nat) ≠ 12 by decide), pk_un e, pk_un e, pk_un e]
                exact ⟨j1, j2, j3⟩
          · obtain ⟨a1', a2', a3', a4', a5', a6', a7'⟩ := id hV
            refine ⟨a1', a2', a3', a4', a5', a6', fun j hj => ?_⟩
            rw [x1m, x2m, x3m]
            by_cases e : j = m
            · subst e
              rw [pk_us, pk_us, pk_us]
              refine Or.inr ⟨⟨r, hr8, rfl, hk, hb1⟩, ?_⟩
              have : l = 0 ∨ l = 1 := by omega
              rcases this with rfl | rfl
              · exact Or.inl rfl
              · exact Or.inr rfl
            · rw [pk_un e, pk_un e, pk_un e]
              exact a7' j hj
          · exact hNe
        · have a1 : f_X3_isPlace (nI r) x3 0 u = some 0 := (q_isPlace hnow hr8 hk x3 (e := 0) (by omega)).2 hno
          have a3 : f_X4_placeBehind (nI r) x3 0 (mF v 0 0) = some (-3) := (p_behind hM' hV hNe h6' hr8 x3 (e := 0) (by omega)).2 hno
          refine bad ?_ ?_
          · unfold f_X3_mark
            rw [if_neg c1, if_neg c2, if_neg d1, if_neg d2, a1, Option.bind_some, if_pos rfl]
          · unfold f_X4_mark
            rw [i1', Option.bind_some, if_neg (by decide), a2, Option.bind_some, if_neg (by decide), i4', Option.bind_some, if_neg (by decide), a3, Option.bind_some, if_pos rfl]
      · have i4' : f_X4_in x4 0 1 = some 0 := i4
        refine bad ?_ ?_
        · unfold f_X3_mark
          rw [if_neg c1, if_neg c2]
          rcases hx with hx | ⟨hx, hx2⟩
          · rw [if_pos (show x4 < 0 from hx)]
          · rw [if_neg (show ¬ x4 < 0 from hx), if_pos (show (1 : Int32) < x4 from hx2)]
        · unfold f_X4_mark
          rw [i1', Option.bind_some, if_neg (by decide), a2, Option.bind_some, if_neg (by decide), i4', Option.bind_some, if_pos rfl]
    · refine bad ?_ ?_
      · unfold f_X3_mark
        have e : f_X3_isPlace x2 x3 0 u = some 0 := by
          unfold f_X3_isPlace
          rw [q_isRow_no hC hno, Option.bind_some, if_pos rfl]
        rw [if_neg c1, if_neg c2, e, Option.bind_some, if_pos rfl]
        by_cases d1 : x4 < 0
        · rw [if_pos d1]
        · rw [if_neg d1]
          by_cases d2 : (1 : Int32) < x4
          · rw [if_pos d2]
          · rw [if_neg d2]
      · unfold f_X4_mark
        rw [i1', Option.bind_some, if_neg (by decide), p_isRow_no hM' hno, Option.bind_some, if_pos rfl]
  · have i1' : f_X4_in x1 0 19 = some 0 := i1
    refine bad ?_ ?_
    · unfold f_X3_mark
      rcases hx with hx | ⟨hx, hx2⟩
      · rw [if_pos (show x1 < 0 from hx)]
      · obtain ⟨j, hj, rfl⟩ := nI_of (show ¬ x1 < 0 from hx)
        have := (nI_ltI (by omega) hj).mp hx2
        rw [if_neg (show ¬ nI j < 0 from hx), if_pos (show (20 : Int32) ≤ nI j from nI_le (a := 20) (by omega) hj)]
    · unfold f_X4_mark
      rw [i1', Option.bind_some, if_pos rfl]
