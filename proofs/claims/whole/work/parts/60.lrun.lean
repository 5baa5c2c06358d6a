/-! ===== the class: labelRun ===== -/
section LRW
variable {a : SS} {S : Nat → List Nat} {r w : Nat} {B1 B2 : BL} {F : List Nat}
theorem l_neg {x y : Int64} : (lg_cmp x y < 0) ↔ ¬ 0 ≤ lg_cmp x y := by
  rw [lg_cmp_lt, lg_cmp_ge]
  exact Int64.not_le.symm
theorem l_prev (h : LB a S r B1 F B2 w) (h1 : 0 < B1.length) : f_X2_labelAt (nI (ofS S r + psum (lens (B1 ++ (FRS, F) :: B2)) B1.length) - 1) a = some (lN ((labs (B1 ++ B2)).getD (B1.length - 1) 0)) ∧ 0 < psum (lens (B1 ++ (FRS, F) :: B2)) B1.length := by
  have hC := h.1
  have hlen := LB_len (B1 := B1) (F := F) (B2 := B2)
  have hps := psum_s2 (BB := B1 ++ (FRS, F) :: B2) (i := B1.length - 1) (by omega)
  rw [Nat.sub_add_cancel (by omega)] at hps
  have hl0 := CB_len hC (i := B1.length - 1) (by omega)
  have hla := CB_labelAt hC (i := B1.length - 1) (t := ((B1 ++ (FRS, F) :: B2).getD (B1.length - 1) (0, [])).2.length - 1) (by omega) (by omega)
  rw [LB_lt (by omega)] at hla
  refine ⟨?_, by omega⟩
  rw [← hla]
  congr 1
  refine Eq.trans (pk_sub (a := ofS S r + psum (lens (B1 ++ (FRS, F) :: B2)) B1.length) (b := 1) (by omega)) ?_
  congr 1
  omega
theorem l_next (h : LB a S r B1 F B2 w) (h1 : 0 < B2.length) : f_X2_labelAt (nI (ofS S r + psum (lens (B1 ++ (FRS, F) :: B2)) (B1.length + 1))) a = some (lN ((labs (B1 ++ B2)).getD B1.length 0)) ∧ psum (lens (B1 ++ (FRS, F) :: B2)) (B1.length + 1) < (S r).length := by
  have hC := h.1
  have hlen := LB_len (B1 := B1) (F := F) (B2 := B2)
  have hps := psum_s2 (BB := B1 ++ (FRS, F) :: B2) (i := B1.length + 1) (by omega)
  have hpl := psum_le (BB := B1 ++ (FRS, F) :: B2) (i := B1.length + 1 + 1) (by omega)
  have hl0 := CB_len hC (i := B1.length + 1) (by omega)
  have hla := CB_labelAt hC (i := B1.length + 1) (t := 0) (by omega) hl0
  rw [LB_gt (by omega) (by omega), Nat.add_zero, Nat.add_sub_cancel] at hla
  exact ⟨hla, by rw [hC.2.2.2.1]; omega⟩
theorem l_last (h : LB a S r B1 F B2 w) (h1 : B2.length = 0) : psum (lens (B1 ++ (FRS, F) :: B2)) (B1.length + 1) = (S r).length := by
  rw [h.1.2.2.2.1, ← psum_all, LB_len]
  congr 1
  omega
theorem l_set {l : Nat} {x6 x8 : Int64} (hm : (x6 + x8) / 2 = lN l) {U : Nat} (hU : U ≤ 600) : ∀ (K : List Nat) (P n : Nat) (a : SS), P + K.length = U → At a P K → f_X2_labelRun_76 (n + 1 + K.length) (nI U) x6 x8 (nI P) a = some (1, sLs a (asc a.2.2.2.1 K (lN l))) := by
  intro K
  induction K with
  | nil =>
    intro P n a h1 _
    rw [asc_nil, List.length_nil, Nat.add_zero, f_X2_labelRun_76, if_pos (nI_le (by rw [List.length_nil] at h1; omega) (by rw [List.length_nil] at h1; omega))]
    rfl
  | cons d K ih =>
    intro P n a h1 h2
    rw [List.length_cons] at h1
    obtain ⟨g1, g2, g3, g4⟩ := h2.hd
    rw [List.length_cons, show n + 1 + (K.length + 1) = (n + 1 + K.length) + 1 from by omega, f_X2_labelRun_76, if_neg (nI_ge (by omega) (by omega)), hm, c_setLabel g4 g1 g2, Option.bind_some, nI_1, ih (P + 1) n (sL a d (lN l)) (by omega) (h2.tl.same rfl)]
    congr 2
    show sLs a (asc (vp_updL a.2.2.2.1 d (lN l)) K (lN l)) = _
    rw [asc_cL]
theorem l_run (h : LB a S r B1 F B2 w) {k : Nat} (hk : a.2.2.1 2 r = nI k) (hk4 : k < 4) (ht : k = 0 → ∀ b ∈ B1 ++ (FRS, F) :: B2, b.2.length = 1) :
    (plc (k == 0) w (labs (B1 ++ B2)) B1.length = none → f_X2_labelRun (nI r) (nI (ofS S r + psum (lens (B1 ++ (FRS, F) :: B2)) B1.length)) (nI (ofS S r + psum (lens (B1 ++ (FRS, F) :: B2)) (B1.length + 1))) a = some (0, a)) ∧
    ∀ R, plc (k == 0) w (labs (B1 ++ B2)) B1.length = some R → ∃ a', f_X2_labelRun (nI r) (nI (ofS S r + psum (lens (B1 ++ (FRS, F) :: B2)) B1.length)) (nI (ofS S r + psum (lens (B1 ++ (FRS, F) :: B2)) (B1.length + 1))) a = some (1, a') ∧ LRes r S (B1 ++ (FRS, F) :: B2) a a' R := by
  have hC := h.1
  have hr := hC.2.2.1
  have hlen := LB_len (B1 := B1) (F := F) (B2 := B2)
  have hll := LB_labs (B1 := B1) (B2 := B2)
  have hlim := LB_lim h
  obtain ⟨-, hs, hM, hw, hw4, hw40⟩ := id h
  have hpw := pw_le hw40
  have hbd := CB_bd hC (i := B1.length + 1) (by omega)
  have hfi := o_first hC.1 hr
  have hen := o_end hC.1 hr
  have hps := psum_s2 (BB := B1 ++ (FRS, F) :: B2) (i := B1.length) (by omega)
  rw [LB_at] at hps
  have hF0 := CB_len hC (i := B1.length) (by omega)
  rw [LB_at] at hF0
  -- the two neighbours
  have g0 : f_X2_labelRun (nI r) (nI (ofS S r + psum (lens (B1 ++ (FRS, F) :: B2)) B1.length)) (nI (ofS S r + psum (lens (B1 ++ (FRS, F) :: B2)) (B1.length + 1))) a = f_X2_labelRun_59 (nI r) (nI (ofS S r + psum (lens (B1 ++ (FRS, F) :: B2)) B1.length)) (nI (ofS S r + psum (lens (B1 ++ (FRS, F) :: B2)) (B1.length + 1))) (lN (2 ^ w)) (lN (lo (labs (B1 ++ B2)) B1.length) - 1) (lN (hi (labs (B1 ++ B2)) (2 ^ w) B1.length)) a := by
    unfold f_X2_labelRun
    rw [if_pos (ix_nI hr (by omega)), nI_clamp (by omega), hw, l_shl1 (by omega), hfi, Option.bind_some, hen, Option.bind_some]
    have hhi : ∀ x6 : Int64, (if nI (ofS S r + (S r).length) ≤ nI (ofS S r + psum (lens (B1 ++ (FRS, F) :: B2)) (B1.length + 1)) then f_X2_labelRun_59 (nI r) (nI (ofS S r + psum (lens (B1 ++ (FRS, F) :: B2)) B1.length)) (nI (ofS S r + psum (lens (B1 ++ (FRS, F) :: B2)) (B1.length + 1))) (lN (2 ^ w)) x6 (lN (2 ^ w)) a else (f_X2_labelAt (nI (ofS S r + psum (lens (B1 ++ (FRS, F) :: B2)) (B1.length + 1))) a).bind (fun z => f_X2_labelRun_59 (nI r) (nI (ofS S r + psum (lens (B1 ++ (FRS, F) :: B2)) B1.length)) (nI (ofS S r + psum (lens (B1 ++ (FRS, F) :: B2)) (B1.length + 1))) (lN (2 ^ w)) x6 z a)) = f_X2_labelRun_59 (nI r) (nI (ofS S r + psum (lens (B1 ++ (FRS, F) :: B2)) B1.length)) (nI (ofS S r + psum (lens (B1 ++ (FRS, F) :: B2)) (B1.length + 1))) (lN (2 ^ w)) x6 (lN (hi (labs (B1 ++ B2)) (2 ^ w) B1.length)) a := by
      intro x6
      rcases Nat.eq_zero_or_pos B2.length with q | q
      · have e1 := l_last h q
        have e2 : hi (labs (B1 ++ B2)) (2 ^ w) B1.length = 2 ^ w := if_pos (by omega)
        rw [e1, e2, if_pos (nI_le (Nat.le_refl _) (by omega))]
      · obtain ⟨e1, e2⟩ := l_next h q
        have e3 : hi (labs (B1 ++ B2)) (2 ^ w) B1.length = (labs (B1 ++ B2)).getD B1.length 0 := if_neg (by omega)
        rw [if_neg (nI_ge (by omega) (by omega)), e1, Option.bind_some, e3]
    rcases Nat.eq_zero_or_pos B1.length with q | q
    · have e1 : psum (lens (B1 ++ (FRS, F) :: B2)) B1.length = 0 := by rw [q]; rfl
      have e2 : lo (labs (B1 ++ B2)) B1.length = 0 := if_pos q
      have e3 : (lN 0 - 1 : Int64) = -1 := by decide
      have hh := hhi (-1)
      rw [if_pos (by rw [e1, Nat.add_zero]; exact nI_le (Nat.le_refl _) (by omega)), hh, e2, e3]
    · obtain ⟨e1, e2⟩ := l_prev h q
      have e3 : lo (labs (B1 ++ B2)) B1.length = (labs (B1 ++ B2)).getD (B1.length - 1) 0 + 1 := if_neg (by omega)
      rw [if_neg (nI_ge (by omega) (by omega)), e1, Option.bind_some, Option.bind_some, hhi, e3, lm1]
  rw [g0]
  unfold f_X2_labelRun_59 plc
  have hlo := lo_lt hlim (p := B1.length) (by omega)
  have hhi := hi_lt hlim (M := 2 ^ w) (p := B1.length) (by omega) (by omega)
  by_cases hc : lo (labs (B1 ++ B2)) B1.length < hi (labs (B1 ++ B2)) (2 ^ w) B1.length
  · rw [if_pos hc, if_neg (fun z => l_neg.mp z ((lt2 hlo hhi).mpr hc))]
    refine ⟨fun q => (by cases q), fun R q => ?_⟩
    cases q
    obtain ⟨hat, hml⟩ := CB_at hC (i := B1.length) (k := B1.length + 1) (by omega) (by omega)
    have hFl : idl (((B1 ++ (FRS, F) :: B2).drop B1.length).take (B1.length + 1 - B1.length)) = F := by
      rw [List.drop_left, Nat.add_sub_cancel_left, List.take_succ_cons, List.take_zero, idl_cons, idl_nil, List.append_nil]
    rw [hFl] at hat
    obtain ⟨n, hn⟩ : ∃ n, NF = n + 1 + F.length := ⟨19999 - F.length, by have := hat.1; rw [NF_eq]; omega⟩
    have hps' : psum (lens (B1 ++ (FRS, F) :: B2)) (B1.length + 1) = psum (lens (B1 ++ (FRS, F) :: B2)) B1.length + F.length := hps
    have e := l_set (mid_l hlo hhi hc) (U := ofS S r + psum (lens (B1 ++ (FRS, F) :: B2)) (B1.length + 1)) (by omega) F (ofS S r + psum (lens (B1 ++ (FRS, F) :: B2)) B1.length) n a (by omega) hat
    rw [← hn] at e
    refine ⟨_, e, rfl, rfl, fun f _ => rfl, rfl, (Int32.add_zero _).symm, fun d hd => ?_, fun i hi d hd => ?_⟩
    · refine asc_no (fun z => hd ?_)
      rw [hC.2.2.2.1]
      exact mem_idl (b := (FRS, F)) (by simp) z
    · show asc a.2.2.2.1 F _ d = _
      have hnd : (idl (B1 ++ (FRS, F) :: B2)).Nodup := by rw [← hC.2.2.2.1]; exact hC.2.2.2.2.1
      have hlabd : a.2.2.2.1 d = lN ((B1 ++ (FRS, F) :: B2).getD i (0, [])).1 := hC.2.2.2.2.2.2.2 _ (getD_mem2 hi) d hd
      have hno : i ≠ B1.length → d ∉ F := fun hne z => hne (nodup_blk hnd hi (by omega) hd (by rw [LB_at]; exact z))
      rcases Nat.lt_trichotomy i B1.length with q | q | q
      · rw [asc_no (hno (by omega)), hlabd, LB_lt q, ins_lt (by omega) q]
      · subst q
        rw [LB_at] at hd
        rw [asc_in hd, ins_at (by omega)]
        rfl
      · rw [asc_no (hno (by omega)), hlabd, LB_gt q hi, ins_gt (by omega) q]
  · have h0 : 0 < B1.length + B2.length := by
      rcases Nat.eq_zero_or_pos (B1.length + B2.length) with e | e
      · exfalso
        apply hc
        have h1 : lo (labs (B1 ++ B2)) B1.length = 0 := if_pos (by omega)
        have h2 : hi (labs (B1 ++ B2)) (2 ^ w) B1.length = 2 ^ w := if_pos (by omega)
        rw [h1, h2]
        exact pw_pos w
      · exact e
    rw [if_neg hc, if_pos (l_neg.mpr (fun z => hc ((lt2 hlo hhi).mp z))), if_pos (ix_nI hr (by omega)), nI_clamp (by omega), hk]
    by_cases k0 : k = 0
    · subst k0
      rw [if_pos nI_0, o_length hC.1 hr, Option.bind_some, if_pos (show (0 == 0) = true from rfl)]
      have hone := one_len (ht rfl)
      have hSl : (S r).length = B1.length + 1 + B2.length := by rw [hC.2.2.2.1, hone, hlen]
      have hsz : (S r).length ≤ 600 := by omega
      have hnl : (labs (B1 ++ B2)).length ≤ 2 ^ w := nd_len (hs.imp (fun h => Nat.ne_of_lt h)) hM
      have hcm : (lg_cmp (nI (S r).length).toInt64 (lN (2 ^ w)) ≤ 0) ↔ (S r).length ≤ 2 ^ w := by
        rw [lg_cmp_le, nI_l (by omega), pk_lLE (by omega) (by omega)]
      by_cases hfull : (labs (B1 ++ B2)).length = 2 ^ w
      · rw [if_pos hfull, if_neg (fun z => by have := hcm.mp z; omega)]
        exact ⟨fun _ => rfl, fun R q => (by cases q)⟩
      · rw [if_neg hfull, if_pos (hcm.mpr (by omega)), hfi, Option.bind_some, hen, Option.bind_some, if_pos (ix_nI hr (by omega)), Option.bind_some, hw]
        refine ⟨fun q => (by cases q), fun R q => ?_⟩
        cases q
        obtain ⟨a', e, he⟩ := l_deal h (i0 := 0) (i1 := B1.length + 1 + B2.length) (X := 0) (j := w) (by omega) (by omega) (by omega) (by omega) hw40
        have e0 : psum (lens (B1 ++ (FRS, F) :: B2)) 0 = 0 := rfl
        have e1 : psum (lens (B1 ++ (FRS, F) :: B2)) (B1.length + 1 + B2.length) = (S r).length := by rw [← hlen, psum_all, hC.2.2.2.1]
        rw [e0, e1, Nat.add_zero, Nat.sub_zero, ← hSl] at e
        have e' : f_X2_dealLabels (nI r) (nI (ofS S r)) (nI (ofS S r + (S r).length)) 0 (nI w) (nI (S r).length) a = some a' := e
        refine ⟨a', by rw [e', Option.bind_some], ?_⟩
        rw [List.take_zero, List.nil_append, Nat.sub_zero, Nat.zero_add, show B1.length + 1 + B2.length - 1 = (labs (B1 ++ B2)).length from by omega, List.drop_length, List.append_nil, show B1.length + 1 + B2.length = (labs (B1 ++ B2)).length + 1 from by omega] at he
        exact he
    · have hkb : (k == 0) = false := by simpa using k0
      rw [if_neg (nI_ne0 (by omega) (by omega)), hkb, if_neg (by decide)]
      have g1 : f_X2_spreadRuns (nI r) (nI (ofS S r + psum (lens (B1 ++ (FRS, F) :: B2)) B1.length)) (nI (ofS S r + psum (lens (B1 ++ (FRS, F) :: B2)) (B1.length + 1))) a = f_X2_spreadRuns_49 NF (nI r) (nI w) (lN ((labs (B1 ++ B2)).getD (B1.length - 1) 0)) (nI (ofS S r + psum (lens (B1 ++ (FRS, F) :: B2)) B1.length)) (nI (ofS S r + psum (lens (B1 ++ (FRS, F) :: B2)) (B1.length + 1))) 1 1 a := by
        unfold f_X2_spreadRuns
        rw [if_pos (ix_nI hr (by omega)), nI_clamp (by omega), hw, hfi, Option.bind_some]
        rcases Nat.eq_zero_or_pos B1.length with q | q
        · have e1 : psum (lens (B1 ++ (FRS, F) :: B2)) B1.length = 0 := by rw [q]; rfl
          obtain ⟨e2, e3⟩ := l_next h (by omega)
          rw [if_pos (by rw [e1, Nat.add_zero]; exact nI_le (Nat.le_refl _) (by omega)), e2, Option.bind_some, q]
        · obtain ⟨e1, e2⟩ := l_prev h q
          rw [if_neg (nI_ge (by omega) (by omega)), e1, Option.bind_some]
      obtain ⟨s1, s2⟩ := l_spread h h0 w NF 1 B1.length 0 (Nat.le_refl _) (by omega) (NF_lt (by omega)) (Nat.le_refl _) (by have := sf_le (labs B1) (sx (labs (B1 ++ B2)) B1.length 1); rw [labs_len] at this; exact this) (Nat.zero_le _) (Nat.zero_le _)
      rw [Nat.sub_self, Nat.add_zero] at s1 s2
      refine ⟨fun q => ?_, fun R q => ?_⟩
      · have := s1 q
        have g2 : f_X2_spreadRuns_49 NF (nI r) (nI w) (lN ((labs (B1 ++ B2)).getD (B1.length - 1) 0)) (nI (ofS S r + psum (lens (B1 ++ (FRS, F) :: B2)) B1.length)) (nI (ofS S r + psum (lens (B1 ++ (FRS, F) :: B2)) (B1.length + 1))) 1 1 a = some (0, a) := this
        rw [g1, g2, Option.bind_some, if_pos (show zb 0 = true by decide)]
      · obtain ⟨a', e, he⟩ := s2 R q
        have g2 : f_X2_spreadRuns_49 NF (nI r) (nI w) (lN ((labs (B1 ++ B2)).getD (B1.length - 1) 0)) (nI (ofS S r + psum (lens (B1 ++ (FRS, F) :: B2)) B1.length)) (nI (ofS S r + psum (lens (B1 ++ (FRS, F) :: B2)) (B1.length + 1))) 1 1 a = some (1, a') := e
        refine ⟨a', ?_, he⟩
        rw [g1, g2, Option.bind_some, if_pos (show zb 1 = true by decide)]
end LRW
