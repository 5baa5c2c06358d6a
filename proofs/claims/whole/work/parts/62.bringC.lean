/-! ===== the class: a block parted; how one comes in ===== -/
theorem c_fresh {r P5 x2 : Int32} {U : Nat} (hU : U ≤ 600) : ∀ (K : List Nat) (P n : Nat) (a : SS), P + K.length = U → At a P K → f_X2_partBlock_9 (n + 1 + K.length) r x2 (nI U) P5 (nI P) a = f_X2_partBlock_9 (n + 1) r x2 (nI U) P5 (nI U) (sLs a (asc a.2.2.2.1 K (-1))) := by
  intro K
  induction K with
  | nil =>
    intro P n a h1 _
    rw [asc_nil]
    rw [List.length_nil, Nat.add_zero] at h1
    rw [h1]
    rfl
  | cons d K ih =>
    intro P n a h1 h2
    rw [List.length_cons] at h1
    obtain ⟨g1, g2, g3, g4⟩ := h2.hd
    rw [List.length_cons, show n + 1 + (K.length + 1) = (n + 1 + K.length) + 1 from by omega, f_X2_partBlock_9, if_neg (nI_ge (by omega) (by omega)), c_setLabel g4 g1 g2, Option.bind_some, nI_1, ih (P + 1) n (sL a d (-1)) (by omega) (h2.tl.same rfl)]
    congr 1
    show sLs a (asc (vp_updL a.2.2.2.1 d (-1)) K (-1)) = _
    rw [asc_cL]
/-- what partBlock leaves -/
def PRes (r : Nat) (S : Nat → List Nat) (J : List Nat) (BB : BL) (a a' : SS) (R : List Nat × Nat) : Prop := a'.1 = a.1 ∧ a'.2.1 = a.2.1 ∧ (∀ f, f ≠ 4 → f ≠ 6 → a'.2.2.1 f = a.2.2.1 f) ∧ a'.2.2.1 4 = gup (gup (gup (a.2.2.1 4) r R.2) r 5) r 4 ∧ a'.2.2.2.2 = a.2.2.2.2 + nI (R.2 - 1) + 9 ∧ (∀ d, d ∉ S r → a'.2.2.2.1 d = a.2.2.2.1 d) ∧ (∀ i, i < BB.length → ∀ d ∈ (BB.getD i (0, [])).2, a'.2.2.2.1 d = lN (R.1.getD i 0)) ∧ a'.2.2.1 6 = asg (asg (a.2.2.1 6) (J.take 5) (fun i => nI (dl 0 8 5 i)) 5) (J.drop 5) (fun i => nI (dl 0 8 4 i)) 4
theorem gup_eq {a : SS} {f : Nat → Int32} {r n : Nat} (h0 : 0 < n) : (sA (s6 a f) 4 r (mxI (a.2.2.1 4 r) (nI n))).2.2.1 4 = gup (a.2.2.1 4) r n := by
  unfold gup
  rw [if_neg (by omega)]
  funext s
  by_cases z : s = r
  · subst z; rw [sA_at, pk_us]
  · rw [sA_i z, pk_un z, s6_k (by decide)]
theorem c_part {a : SS} {S : Nat → List Nat} {r w lab k : Nat} {B1 B2 : BL} {J : List Nat} (hC : CB a S r (B1 ++ (lab, J) :: B2)) (hJ : J.length = 9) (hs : (labs (B1 ++ (lab, J) :: B2)).Pairwise (· < ·)) (hL : ∀ d ∈ labs (B1 ++ (lab, J) :: B2), d < 2 ^ w) (hw : a.2.2.1 3 r = nI w) (hw4 : 4 ≤ w) (hw40 : w ≤ 40) (hk : a.2.2.1 2 r = nI k) (hk4 : k < 4) (hk2 : 2 ≤ k) :
    (plc false w (labs (B1 ++ (lab, J) :: B2)) (B1.length + 1) = none → ∃ a', f_X2_partBlock (nI r) (nI (ofS S r + (idl B1).length)) (nI (ofS S r + (idl B1).length + 9)) a = some (0, a')) ∧
    ∀ R, plc false w (labs (B1 ++ (lab, J) :: B2)) (B1.length + 1) = some R → ∃ a', f_X2_partBlock (nI r) (nI (ofS S r + (idl B1).length)) (nI (ofS S r + (idl B1).length + 9)) a = some (1, a') ∧ PRes r S J (B1 ++ [(lab, J.take 5)] ++ (FRS, J.drop 5) :: B2) a a' R := by
  obtain ⟨hO, h8, hr, hS, hn, hlt, hne, hlab⟩ := id hC
  have hdr : (J.drop 5).length = 4 := by rw [List.length_drop, hJ]
  have htk : (J.take 5).length = 5 := by rw [List.length_take, hJ]; rfl
  have hJJ : J.take 5 ++ J.drop 5 = J := List.take_append_drop 5 J
  have hidl : idl (B1 ++ [(lab, J.take 5)] ++ (FRS, J.drop 5) :: B2) = S r := by
    rw [hS, idl_app, idl_app, idl_cons, idl_nil, idl_cons, idl_app, idl_cons, List.append_nil, List.append_assoc, ← List.append_assoc (J.take 5)]
    show idl B1 ++ ((J.take 5 ++ J.drop 5) ++ idl B2) = _
    rw [hJJ]
  have hSe : S r = idl B1 ++ (J ++ idl B2) := by rw [hS, idl_app, idl_cons]
  have hle := o_le (S := S) hr
  have hSl : (S r).length = (idl B1).length + (9 + (idl B2).length) := by rw [hSe, List.length_append, List.length_append, hJ]
  have hA : At a (ofS S r) (idl B1 ++ (J ++ idl B2)) := by
    refine ⟨by rw [← hSe]; omega, by rw [← hSe]; exact hn, fun j hj => ?_, by rw [← hSe]; exact hlt⟩
    rw [← hSe] at hj ⊢
    exact hO.2.1 r hr j hj
  have hAJ : At a (ofS S r + (idl B1).length) (J.take 5 ++ J.drop 5) := by rw [hJJ]; exact hA.app.2.app.1
  have hA5 := hAJ.app.1
  have hA4 := hAJ.app.2
  rw [htk] at hA4
  -- the last four are fresh
  have hmJ : ∀ e ∈ J, a.2.2.2.1 e = lN lab := fun e he => hlab (lab, J) (by simp) e he
  have hpw := pw_le hw40
  have hgl : ∀ d ∈ labs (B1 ++ (lab, J) :: B2), d < 2 ^ 42 := fun d hd => by have := hL d hd; omega
  have hsub : ∀ e ∈ J.drop 5, e ∈ J := fun e he => List.mem_of_mem_drop he
  have hnd2 : (J.take 5 ++ J.drop 5).Nodup := hAJ.2.1
  have hdisj : ∀ b ∈ B1 ++ B2, ∀ e ∈ b.2, e ∉ J := by
    intro b hb e he hej
    have hn' := hn
    rw [hSe] at hn'
    obtain ⟨n1, n2, n3⟩ := List.nodup_append.mp hn'
    obtain ⟨n4, n5, n6⟩ := List.nodup_append.mp n2
    rcases List.mem_append.mp hb with z | z
    · exact n3 e (mem_idl z he) e (List.mem_append_left _ hej) rfl
    · exact n6 e hej e (mem_idl z he) rfl
  have hLB : LB (sLs a (asc a.2.2.2.1 (J.drop 5) (-1))) S r (B1 ++ [(lab, J.take 5)]) (J.drop 5) B2 w := by
    have hlabs : labs (B1 ++ [(lab, J.take 5)] ++ B2) = labs (B1 ++ (lab, J) :: B2) := by
      rw [List.append_assoc]
      exact labs_mid
    refine ⟨⟨hO, h8, hr, hidl.symm, hn, hlt, fun b hb => ?_, fun b hb e he => ?_⟩, by rw [hlabs]; exact hs, by rw [hlabs]; exact hL, hw, hw4, hw40⟩
    · rcases List.mem_append.mp hb with z | z
      · rcases List.mem_append.mp z with z | z
        · exact hne b (by simp [z])
        · rw [List.mem_singleton] at z
          subst z
          refine ⟨fun q => ?_, Or.inl (hgl lab (List.mem_map.mpr ⟨(lab, J), by simp, rfl⟩))⟩
          have q' : J.take 5 = [] := q
          rw [q'] at htk
          exact absurd htk (by decide)
      · rcases List.mem_cons.mp z with z | z
        · subst z
          refine ⟨fun q => ?_, Or.inr rfl⟩
          have q' : J.drop 5 = [] := q
          rw [q'] at hdr
          exact absurd hdr (by decide)
        · exact hne b (by simp [z])
    · show asc a.2.2.2.1 (J.drop 5) (-1) e = _
      rcases List.mem_append.mp hb with z | z
      · rcases List.mem_append.mp z with z | z
        · rw [asc_no (fun q => hdisj b (List.mem_append_left _ z) e he (hsub e q))]
          exact hlab b (by simp [z]) e he
        · rw [List.mem_singleton] at z
          subst z
          rw [asc_no (fun q => (List.nodup_append.mp hnd2).2.2 e he e q rfl)]
          exact hmJ e (List.mem_of_mem_take he)
      · rcases List.mem_cons.mp z with z | z
        · subst z
          rw [asc_in he, FRS_l]
        · rw [asc_no (fun q => hdisj b (List.mem_append_right _ z) e he (hsub e q))]
          exact hlab b (by simp [z]) e he
  have hlabs : labs (B1 ++ [(lab, J.take 5)] ++ B2) = labs (B1 ++ (lab, J) :: B2) := by
    rw [List.append_assoc]
    exact labs_mid
  have hlen1 : (B1 ++ [(lab, J.take 5)]).length = B1.length + 1 := by rw [List.length_append]; rfl
  have hp1 : psum (lens (B1 ++ [(lab, J.take 5)] ++ (FRS, J.drop 5) :: B2)) (B1.length + 1) = (idl B1).length + 5 := by
    rw [← hlen1, psum_app, idl_app, idl_cons, idl_nil, List.append_nil, List.length_append]
    show (idl B1).length + (J.take 5).length = _
    rw [htk]
  have hp2 : psum (lens (B1 ++ [(lab, J.take 5)] ++ (FRS, J.drop 5) :: B2)) (B1.length + 1 + 1) = (idl B1).length + 9 := by
    rw [psum_s2 (by rw [LB_len, hlen1]; omega), hp1, ← hlen1, LB_at]
    show (idl B1).length + 5 + (J.drop 5).length = _
    rw [hdr]
  obtain ⟨l1, l2⟩ := l_run hLB (k := k) hk hk4 (fun z => absurd z (by omega))
  have hkb : (k == 0) = false := by
    have : k ≠ 0 := by omega
    simpa using this
  rw [hkb, hlabs, hlen1, hp1, hp2] at l1 l2
  obtain ⟨n, hn1⟩ : ∃ n, NF = n + 1 + (J.drop 5).length := ⟨19995, by rw [NF_eq, hdr]⟩
  have g0 := c_fresh (r := nI r) (P5 := nI (ofS S r + (idl B1).length + 5)) (x2 := nI (ofS S r + (idl B1).length)) (U := ofS S r + (idl B1).length + 9) (by omega) (J.drop 5) (ofS S r + (idl B1).length + 5) n a (by omega) hA4
  rw [← hn1] at g0
  have g1 : f_X2_partBlock (nI r) (nI (ofS S r + (idl B1).length)) (nI (ofS S r + (idl B1).length + 9)) a = (f_X2_labelRun (nI r) (nI (ofS S r + ((idl B1).length + 5))) (nI (ofS S r + ((idl B1).length + 9))) (sLs a (asc a.2.2.2.1 (J.drop 5) (-1)))).bind (fun z2 => (if z2.1 = 0 then some (0, z2.2) else (f_X2_dealInners (nI r) (nI (ofS S r + (idl B1).length)) (nI (ofS S r + (idl B1).length + 5)) z2.2).bind (fun z5 => (f_X2_dealInners (nI r) (nI (ofS S r + (idl B1).length + 5)) (nI (ofS S r + (idl B1).length + 9)) z5).bind (fun z7 => some (1, (sR z7 (z7.2.2.2.2 + 9))))))) := by
    unfold f_X2_partBlock
    have e5 : nI (ofS S r + (idl B1).length) + 5 = nI (ofS S r + (idl B1).length + 5) := nI_add _ 5
    have e9 : nI (ofS S r + (idl B1).length + 9) - nI (ofS S r + (idl B1).length) = 9 := by
      rw [pk_sub (by omega), Nat.add_sub_cancel_left]
      rfl
    rw [e5, g0, f_X2_partBlock_9, if_pos (nI_le (Nat.le_refl _) (by omega)), e9]
    rfl
  refine ⟨fun h => ⟨sLs a (asc a.2.2.2.1 (J.drop 5) (-1)), ?_⟩, fun R h => ?_⟩
  · rw [g1, l1 h, Option.bind_some, if_pos rfl]
  · obtain ⟨a1, e1, r1, r2, r3, r4, r5, r6, r7⟩ := l2 R h
    have hA5' : At a1 (ofS S r + (idl B1).length) (J.take 5) := hA5.same (by rw [r1]; rfl)
    have d1 := c_dealInners (a := a1) hr hA5' (by omega)
    rw [htk] at d1
    have hA4' : At (sA (s6 a1 (asg (a1.2.2.1 6) (J.take 5) (fun i => nI (dl 0 8 5 i)) 5)) 4 r (mxI (a1.2.2.1 4 r) (nI 5))) (ofS S r + (idl B1).length + 5) (J.drop 5) := hA4.same (by show a1.1 = a.1; rw [r1]; rfl)
    have d2 := c_dealInners (a := sA (s6 a1 (asg (a1.2.2.1 6) (J.take 5) (fun i => nI (dl 0 8 5 i)) 5)) 4 r (mxI (a1.2.2.1 4 r) (nI 5))) hr hA4' (by omega)
    rw [hdr] at d2
    refine ⟨_, by rw [g1, e1, Option.bind_some, if_neg (show ¬ (1 : Int32) = 0 by decide), d1, Option.bind_some, show ofS S r + (idl B1).length + 9 = ofS S r + (idl B1).length + 5 + 4 from by omega, d2, Option.bind_some], ?_, ?_, ?_, ?_, ?_, ?_, ?_, ?_⟩
    · show a1.1 = a.1; rw [r1]; rfl
    · show a1.2.1 = a.2.1; rw [r2]; rfl
    · intro f f4 f6
      rw [sR_221, sA_k f4, s6_k f6, sA_k f4, s6_k f6, r3 f f4]
      rfl
    · rw [sR_221, gup_eq (by omega), gup_eq (by omega), r4]
      rfl
    · show a1.2.2.2.2 + 9 = _
      rw [r5]
      rfl
    · intro e he
      show a1.2.2.2.1 e = _
      rw [r6 e he]
      show asc a.2.2.2.1 (J.drop 5) (-1) e = _
      rw [asc_no (fun q => he (by rw [hSe]; simp [hsub e q]))]
    · exact r7
    · rw [sR_221, sA_k (by decide), s6_6, sA_k (by decide), s6_6, r3 6 (by decide)]
      rfl
/-- the state when one has come in, before it is labelled -/
def En (x : XS) (r p d : Nat) (a aE : SS) : Prop := OR aE.1 (va_up (sq x) r (ins (sq x r) p d)) ∧ (∀ m, m < 20 → aE.2.1 1 m = xm x 1 m ∧ aE.2.1 2 m = mkm x r (ahd x r p) d m ∧ aE.2.1 3 m = xm x 3 m) ∧ (∀ f, f ≠ 6 → aE.2.2.1 f = a.2.2.1 f) ∧ aE.2.2.1 6 = upd (a.2.2.1 6) d 128 ∧ aE.2.2.2.1 = vp_updL a.2.2.2.1 d (-1) ∧ aE.2.2.2.2 = a.2.2.2.2
section ENTER
variable {a : SS} {x : XS} {T r : Nat}
theorem c_follow (h : ∀ m, m < 20 → a.2.1 1 m = xm x 1 m ∧ a.2.1 2 m = xm x 2 m ∧ a.2.1 3 m = xm x 3 m) (b : Int32) (d : Nat) : f_X0_follow (nI r) b (nI d) a.2.1 = some (va_up a.2.1 2 (pt (a.2.1 2) (mkm x r b d) 0 20)) := by
  unfold f_X0_follow
  have e0 : a.2.1 = va_up a.2.1 2 (pt (a.2.1 2) (mkm x r b d) 0 0) := by rw [pt_0, up_id rfl]
  refine Eq.trans (congrArg (f_X0_follow_3 NF (nI r) b (nI d) 0) e0) ?_
  refine loopE (fun m i => f_X0_follow_3 m (nI r) b (nI d) (nI i) (va_up a.2.1 2 (pt (a.2.1 2) (mkm x r b d) 0 i))) (a := 0) (b := 20) (Nat.zero_le _) (NF_lt (by omega)) (fun m i h1 h2 => ?_) (fun m => ?_)
  · obtain ⟨m1, m2, m3⟩ := h i h2
    have hs := pt_s (a.2.1 2) (mkm x r b d) 0 i
    rw [Nat.zero_add] at hs
    have hk : pt (a.2.1 2) (mkm x r b d) 0 i i = xm x 2 i := by rw [pt_out (by omega), m2]
    have hid : ∀ y, mkm x r b d i = y → y = xm x 2 i → pt (a.2.1 2) (mkm x r b d) 0 i = pt (a.2.1 2) (mkm x r b d) 0 (i + 1) := by
      intro y e1 e2
      rw [← hs, e1, e2, ← hk]
      funext z
      by_cases q : z = i
      · subst q; rw [pk_us]
      · rw [pk_un q]
    rw [f_X0_follow_3, if_neg (show ¬ (20 : Int32) ≤ nI i from nI_ge (b := 20) h2 (by omega)), if_pos (ix_nI h2 (by omega)), if_pos (ix_nI h2 (by omega)), if_pos (ix_nI h2 (by omega)), if_pos (ix_nI h2 (by omega)), nI_clamp (by omega), va_up_ne _ _ (show (1 : Nat) ≠ 2 by decide), va_up_self, va_up_ne _ _ (show (3 : Nat) ≠ 2 by decide), m1, m3, hk, nI_1]
    by_cases c1 : xm x 1 i = nI r
    · by_cases c2 : xm x 2 i = b
      · by_cases c3 : xm x 3 i = 1
        · have e : mkm x r b d i = nI d := if_pos ⟨c1, c2, c3⟩
          rw [if_pos c1, if_pos c2, if_pos c3, ← hs, e]
          unfold oA
          rw [up_up, va_up_self]
        · have e : mkm x r b d i = xm x 2 i := if_neg (fun z => c3 z.2.2)
          rw [if_pos c1, if_pos c2, if_neg c3, hid _ e rfl]
      · have e : mkm x r b d i = xm x 2 i := if_neg (fun z => c2 z.2.1)
        rw [if_pos c1, if_neg c2, hid _ e rfl]
    · have e : mkm x r b d i = xm x 2 i := if_neg (fun z => c1 z.1)
      rw [if_neg c1, hid _ e rfl]
  · rw [f_X0_follow_3, if_pos (show (20 : Int32) ≤ nI 20 by decide)]
theorem c_hasB {k : Nat} (hr : r < 8) (hk : a.2.2.1 2 r = nI k) (hk4 : k < 4) : f_X2_hasBlocks (nI r) a = some (if k < 2 then 0 else 1) := by
  unfold f_X2_hasBlocks f_X2_isRow
  rw [if_neg (nI_pos (by omega)), if_neg (show ¬ (8 : Int32) ≤ nI r from nI_ge (b := 8) hr (by omega)), if_pos (ix_nI hr (by omega)), if_pos (ix_nI hr (by omega)), nI_clamp (by omega), hk, if_neg (ne_m1 (by omega)), Option.bind_some, if_neg (show ¬ (1 : Int32) = 0 by decide)]
  by_cases h : k < 2
  · rw [if_pos h, if_pos (show nI k < 2 from nI_lt (b := 2) h (by omega))]
  · rw [if_neg h, if_neg (show ¬ nI k < 2 from nI_nlt (b := 2) (by omega) (by omega))]
theorem c_enter (hC : CA a x) (hI : Inv T x) (hr : r < 8) {k p d : Nat} (hk : xk x r = nI k) (hk4 : k < 4) (hp : p ≤ (sq x r).length) (hd : Out x d) (hx : ∀ s, s < 8 → s ≠ r → ∀ e ∈ sq x s, e / 2 ≠ d / 2) (h8 : ofS (sq x) 8 < 600) :
    ∃ aE, En x r p d a aE ∧ f_X2_bring (nI r) (nI (ofS (sq x) r + p)) (nI d) a = (if k < 2 ∨ (sq x r).length = 0 then (f_X2_labelRun (nI r) (nI (ofS (sq x) r + p)) (nI (ofS (sq x) r + p + 1)) aE).bind (fun z => (if zb z.1 = true then some (z.1, z.2) else none))
      else (if p = 0 then f_X2_labelAt (nI (ofS (sq x) r + p + 1)) aE else f_X2_labelAt (nI (ofS (sq x) r + p - 1)) aE).bind (fun z => f_X2_bring_139 NF (nI r) (nI (ofS (sq x) r + p)) z (nI (ofS (sq x) r + p)) (sL aE d z))) := by
  obtain ⟨c1, hO, c6, c7, c8, c9⟩ := CA_iff.mp hC
  obtain ⟨o', g1, hO'⟩ := o_insert hO h8 hr hp hd.1 hx
  have hle := o_le (S := sq x) hr
  have hd6 := hd.1
  have g2 := c_follow (a := a) (x := x) (r := r) c8 (ahd x r p) d
  have hup := (ofS_up (S := sq x) (r := r) (l := ins (sq x r) p d) r).1 (Nat.le_refl _)
  refine ⟨sA (sL (sK (sO a o') (va_up a.2.1 2 (pt (a.2.1 2) (mkm x r (ahd x r p) d) 0 20))) d (-1)) 6 d 128, ⟨hO', fun m hm => ?_, fun f hf => sA_k hf, ?_, rfl, rfl⟩, ?_⟩
  · refine ⟨?_, ?_, ?_⟩
    · show va_up a.2.1 2 (pt (a.2.1 2) (mkm x r (ahd x r p) d) 0 20) 1 m = _
      rw [va_up_ne _ _ (by decide)]; exact (c8 m hm).1
    · show va_up a.2.1 2 (pt (a.2.1 2) (mkm x r (ahd x r p) d) 0 20) 2 m = _
      rw [va_up_self, pt_in (by omega) (by omega), Nat.sub_zero]
    · show va_up a.2.1 2 (pt (a.2.1 2) (mkm x r (ahd x r p) d) 0 20) 3 m = _
      rw [va_up_ne _ _ (by decide)]; exact (c8 m hm).2.2
  · funext e
    by_cases q : e = d
    · subst q; rw [sA_at, pk_us]
    · rw [sA_i q, pk_un q]; rfl
  · have hkE : (sA (sL (sK (sO a o') (va_up a.2.1 2 (pt (a.2.1 2) (mkm x r (ahd x r p) d) 0 20))) d (-1)) 6 d 128).2.2.1 2 r = nI k := by
      rw [sA_k (by decide), ← hk]; exact (c1 r hr).1
    have hB := c_hasB hr hkE hk4
    have hlenE := o_length hO' hr
    have hfiE := o_first hO' hr
    rw [va_up_self, ins_len hp] at hlenE
    rw [hup] at hfiE
    have g3 : f_X2_bring (nI r) (nI (ofS (sq x) r + p)) (nI d) a = f_X2_bring_26 (nI r) (nI (ofS (sq x) r + p)) (nI d) (ahd x r p) a := by
      unfold f_X2_bring ahd
      rw [o_first hO hr, Option.bind_some]
      by_cases q : p = 0
      · rw [if_pos q, if_pos (nI_le (by omega) (by omega))]
      · have e1 : nI (ofS (sq x) r + p) - 1 = nI (ofS (sq x) r + (p - 1)) := by
          refine Eq.trans (pk_sub (a := ofS (sq x) r + p) (b := 1) (by omega)) ?_
          congr 1
          omega
        rw [if_neg q, if_neg (nI_ge (by omega) (by omega)), e1, o_standAt hO (by omega) hr (by omega), Option.bind_some]
    rw [g3]
    unfold f_X2_bring_26
    have g2' : f_X0_follow (nI r) (ahd x r p) (nI d) (sO a o').2.1 = some (va_up a.2.1 2 (pt (a.2.1 2) (mkm x r (ahd x r p) d) 0 20)) := g2
    rw [g1, Option.bind_some, g2', Option.bind_some, if_pos (ix_nI hd6 (by omega)), if_pos (ix_nI hd6 (by omega)), nI_clamp (by omega), hB, Option.bind_some, nI_1]
    by_cases hk2 : k < 2
    · rw [if_pos hk2, if_pos rfl, if_pos (Or.inl hk2)]
    · rw [if_neg hk2, if_neg (show ¬ (1 : Int32) = 0 by decide)]
      have hlenE' : f_X1_length (nI r) (sA (sL (sK (sO a o') (va_up a.2.1 2 (pt (a.2.1 2) (mkm x r (ahd x r p) d) 0 20))) d (-1)) 6 d 128).1 = some (nI ((sq x r).length + 1)) := hlenE
      have hfiE' : f_X1_first (nI r) (sA (sL (sK (sO a o') (va_up a.2.1 2 (pt (a.2.1 2) (mkm x r (ahd x r p) d) 0 20))) d (-1)) 6 d 128).1 = some (nI (ofS (sq x) r)) := hfiE
      rw [hlenE', Option.bind_some]
      by_cases h0 : (sq x r).length = 0
      · rw [if_pos (show nI ((sq x r).length + 1) = 1 by rw [h0]; rfl), if_pos (Or.inr h0)]
      · rw [if_neg (show ¬ nI ((sq x r).length + 1) = 1 from fun z => h0 (by have := (nI_eq (a := (sq x r).length + 1) (b := 1) (by omega) (by omega)).mp z; omega)), if_neg (by omega), hfiE', Option.bind_some]
        by_cases q : p = 0
        · rw [if_pos (nI_le (by omega) (by omega)), if_pos q]
          congr 1
          funext z
          rw [if_pos (ix_nI hd6 (by omega))]
        · have e1 : nI (ofS (sq x) r + p) - 1 = nI (ofS (sq x) r + p - 1) := pk_sub (a := ofS (sq x) r + p) (b := 1) (by omega)
          rw [if_neg (nI_ge (by omega) (by omega)), if_neg q, e1]
          congr 1
          funext z
          rw [if_pos (ix_nI hd6 (by omega))]
end ENTER
