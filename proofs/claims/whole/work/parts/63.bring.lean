/-! ===== the class: bring ===== -/
theorem CA_set {a a' : SS} {x x' : XS} {r : Nat} (hC : CA a x) (hk : xk x' = xk x) (hw : xw x' = xw x) (h2 : a'.2.2.1 2 = a.2.2.1 2) (h3 : a'.2.2.1 3 = a.2.2.1 3) (hg : ∀ s, s < 8 → a'.2.2.1 4 s = xg x' s) (hb : ∀ s, s ≠ r → xb x' s = xb x s) (hO : OR a'.1 (sq x'))
    (hoth : ∀ s, s < 8 → s ≠ r → ∀ e ∈ sq x s, a'.2.2.2.1 e = a.2.2.2.1 e ∧ a'.2.2.1 6 e = a.2.2.1 6 e ∧ xi x' e = xi x e) (hl : ∀ b ∈ xb x' r, ∀ e ∈ b.2, a'.2.2.2.1 e = lN b.1) (hi : 2 ≤ xk x r → ∀ e ∈ sq x' r, a'.2.2.1 6 e = nI (xi x' e)) (hm : ∀ m, m < 20 → a'.2.1 1 m = xm x' 1 m ∧ a'.2.1 2 m = xm x' 2 m ∧ a'.2.1 3 m = xm x' 3 m) (hren : a'.2.2.2.2 = xr x') : CA a' x' := by
  obtain ⟨c1, hO1, c6, c7, c8, c9⟩ := CA_iff.mp hC
  refine CA_iff.mpr ⟨fun s hs => ⟨by rw [h2, hk]; exact (c1 s hs).1, by rw [h3, hw]; exact (c1 s hs).2.1, hg s hs⟩, hO, fun s hs b hbs e he => ?_, fun s hs h e he => ?_, hm, hren⟩
  · by_cases q : s = r
    · subst q; exact hl b hbs e he
    · rw [hb s q] at hbs
      rw [(hoth s hs q e (mem_idl hbs he)).1]
      exact c6 s hs b hbs e he
  · by_cases q : s = r
    · subst q
      rw [hk] at h
      exact hi h e he
    · have e1 : sq x' s = sq x s := by unfold sq; rw [hb s q]
      rw [e1] at he
      obtain ⟨-, e2, e3⟩ := hoth s hs q e he
      rw [hk] at h
      rw [e2, e3]
      exact c7 s hs h e he
theorem idss_ins {B1 B2 : BL} {l : Nat} {F : List Nat} : idss (B1 ++ (l, F) :: B2) = ins (idss (B1 ++ B2)) B1.length F := by
  unfold idss ins
  rw [List.map_append, List.map_append, List.map_cons]
  have e : (B1.map Prod.snd).length = B1.length := List.length_map _
  rw [List.take_append_of_le_length (by omega), List.take_of_length_le (by omega), List.drop_append_of_le_length (by omega), List.drop_of_length_le (by omega), List.nil_append]
theorem lab_nbl {B1 B2 : BL} {l : Nat} {F L : List Nat} {g : Nat → Int64} (hL : L.length = (B1 ++ B2).length + 1) (h : ∀ i, i < (B1 ++ (l, F) :: B2).length → ∀ e ∈ ((B1 ++ (l, F) :: B2).getD i (0, [])).2, g e = lN (L.getD i 0)) : ∀ b ∈ nbl (B1 ++ B2) B1.length F L, ∀ e ∈ b.2, g e = lN b.1 := by
  intro b hb e he
  have hp : B1.length ≤ (B1 ++ B2).length := by rw [List.length_append]; omega
  have hlen : (B1 ++ (l, F) :: B2).length = (B1 ++ B2).length + 1 := by rw [List.length_append, List.length_append, List.length_cons]; omega
  obtain ⟨i, hi, rfl⟩ := List.mem_iff_getElem.mp hb
  have hi2 : i < (B1 ++ B2).length + 1 := by rw [nbl_len hp hL] at hi; exact hi
  have e1 := nbl_gD (ids := F) hp hL hi2
  rw [gD hi] at e1
  rw [e1] at he ⊢
  refine h i (by omega) e ?_
  rw [← idss_gD (by omega), idss_ins]
  exact he
theorem xMk_m {x x' : XS} {r d : Nat} {b : Int32} (h : xm x' = xm x) : ∀ m, xm (xMk x' r b d) 1 m = xm x 1 m ∧ xm (xMk x' r b d) 2 m = mkm x r b d m ∧ xm (xMk x' r b d) 3 m = xm x 3 m := by
  intro m
  have e : xm (xMk x' r b d) = va_up (xm x') 2 (mkm x' r b d) := rfl
  rw [e, va_up_ne _ _ (by decide), va_up_self, va_up_ne _ _ (by decide), h]
  refine ⟨rfl, ?_, rfl⟩
  unfold mkm
  rw [h]
section BRG
variable {a aE : SS} {x : XS} {T r p d w : Nat}
theorem S8 (hp : p ≤ (sq x r).length) (hr : r < 8) (h8 : ofS (sq x) 8 < 600) : ofS (va_up (sq x) r (ins (sq x r) p d)) 8 ≤ 600 := by
  have := (ofS_up (S := sq x) (r := r) (l := ins (sq x r) p d) 8).2 hr
  rw [ins_len hp] at this
  omega
theorem En_g (hC : CA a x) (hE : En x r p d a aE) : (∀ s, s < 8 → aE.2.2.1 2 s = xk x s ∧ aE.2.2.1 3 s = xw x s ∧ aE.2.2.1 4 s = xg x s) ∧ aE.2.2.2.2 = xr x := by
  obtain ⟨c1, hO1, c6, c7, c8, c9⟩ := CA_iff.mp hC
  obtain ⟨e1, e2, e3, e4, e5, e6⟩ := hE
  exact ⟨fun s hs => ⟨by rw [e3 2 (by decide)]; exact (c1 s hs).1, by rw [e3 3 (by decide)]; exact (c1 s hs).2.1, by rw [e3 4 (by decide)]; exact (c1 s hs).2.2⟩, by rw [e6, c9]⟩
theorem c_fr (hC : CA a x) (hI : Inv T x) (hr : r < 8) (hE : En x r p d a aE) (hp : p ≤ (sq x r).length) (hd : Out x d) (h8 : ofS (sq x) 8 < 600) {k : Nat} (hk : xk x r = nI k) (hk4 : k < 4) (hw : xw x r = nI w) (hw4 : 4 ≤ w) (hw40 : w ≤ 40) {B1 B2 : BL} (hB : xb x r = B1 ++ B2) (hpe : (idl B1).length = p) (hs : (labs (xb x r)).Pairwise (· < ·)) (hL : ∀ d ∈ labs (xb x r), d < 2 ^ w) (hne : ∀ b ∈ xb x r, b.2 ≠ []) (h1 : k = 0 → ∀ b ∈ xb x r, b.2.length = 1) {f : Nat → Nat} (hf : ∀ e, e ≠ d → f e = xi x e) (hfd : 2 ≤ k → f d = 128) :
    (plc (k == 0) w (labs (xb x r)) B1.length = none → ∃ a', (f_X2_labelRun (nI r) (nI (ofS (sq x) r + p)) (nI (ofS (sq x) r + p + 1)) aE).bind (fun z => (if zb z.1 = true then some (z.1, z.2) else none)) = some (0, a')) ∧
    ∀ R, plc (k == 0) w (labs (xb x r)) B1.length = some R → ∃ a', (f_X2_labelRun (nI r) (nI (ofS (sq x) r + p)) (nI (ofS (sq x) r + p + 1)) aE).bind (fun z => (if zb z.1 = true then some (z.1, z.2) else none)) = some (1, a') ∧ CA a' (xMk (xBlk x r (nbl (xb x r) B1.length [d] R.1) f R.2 (nI (R.2 - 1))) r (ahd x r p) d) := by
  obtain ⟨g1, g2⟩ := En_g hC hE
  obtain ⟨c1, hO1, c6, c7, c8, c9⟩ := CA_iff.mp hC
  obtain ⟨e1, e2, e3, e4, e5, e6⟩ := hE
  have hsq : sq x r = idl B1 ++ idl B2 := by unfold sq; rw [hB, idl_app]
  have hins : ins (sq x r) p d = idl B1 ++ (d :: idl B2) := by
    unfold ins
    rw [hsq, ← hpe, List.take_left, List.drop_left]
  have hpw := pw_le hw40
  have hdn : ∀ s, s < 8 → ∀ e ∈ sq x s, e ≠ d := fun s hs e he z => hd.2 s hs (z ▸ he)
  have hup := (ofS_up (S := sq x) (r := r) (l := ins (sq x r) p d) r).1 (Nat.le_refl _)
  have hLB : LB aE (va_up (sq x) r (ins (sq x r) p d)) r B1 [d] B2 w := by
    refine ⟨⟨e1, S8 hp hr h8, hr, ?_, ?_, fun e he => ?_, fun b hb => ?_, fun b hb e he => ?_⟩, by rw [← hB]; exact hs, by rw [← hB]; exact hL, by rw [← hw]; exact (g1 r hr).2.1, hw4, hw40⟩
    · rw [va_up_self, hins, idl_app, idl_cons]
      rfl
    · rw [va_up_self]; exact ins_nd (hI.2.2.1 r hr) (hd.2 r hr)
    · rw [va_up_self] at he
      rcases ins_mem.mp he with z | z
      · rw [z]; exact hd.1
      · exact sq_lt hI hr z
    · rcases List.mem_append.mp hb with z | z
      · have hm : b ∈ xb x r := by rw [hB]; exact List.mem_append_left _ z
        exact ⟨hne b hm, Or.inl (by have := hL b.1 (List.mem_map.mpr ⟨b, hm, rfl⟩); omega)⟩
      · rcases List.mem_cons.mp z with z | z
        · subst z; exact ⟨List.cons_ne_nil _ _, Or.inr rfl⟩
        · have hm : b ∈ xb x r := by rw [hB]; exact List.mem_append_right _ z
          exact ⟨hne b hm, Or.inl (by have := hL b.1 (List.mem_map.mpr ⟨b, hm, rfl⟩); omega)⟩
    · rw [e5]
      rcases List.mem_append.mp hb with z | z
      · have hm : b ∈ xb x r := by rw [hB]; exact List.mem_append_left _ z
        rw [pk_uLn (hdn r hr e (mem_idl hm he))]
        exact c6 r hr b hm e he
      · rcases List.mem_cons.mp z with z | z
        · subst z
          rw [List.mem_singleton] at he
          rw [he, pk_uLs, FRS_l]
        · have hm : b ∈ xb x r := by rw [hB]; exact List.mem_append_right _ z
          rw [pk_uLn (hdn r hr e (mem_idl hm he))]
          exact c6 r hr b hm e he
  have hps : psum (lens (B1 ++ (FRS, [d]) :: B2)) B1.length = p := by rw [psum_app, hpe]
  have hps1 : psum (lens (B1 ++ (FRS, [d]) :: B2)) (B1.length + 1) = p + 1 := by
    rw [psum_s2 (by rw [LB_len]; omega), hps, LB_at]
    rfl
  obtain ⟨l1, l2⟩ := l_run hLB (k := k) (by rw [← hk]; exact (g1 r hr).1) hk4 (fun z b hb => by
    rcases List.mem_append.mp hb with q | q
    · exact h1 z b (by rw [hB]; exact List.mem_append_left _ q)
    · rcases List.mem_cons.mp q with q | q
      · subst q; rfl
      · exact h1 z b (by rw [hB]; exact List.mem_append_right _ q))
  rw [hps, hps1, hup, ← hB] at l1 l2
  refine ⟨fun h => ⟨aE, ?_⟩, fun R h => ?_⟩
  · have := l1 h
    rw [Nat.add_assoc, this, Option.bind_some, if_pos (show zb 0 = true by decide)]
  · obtain ⟨a', e, r1, r2, r3, r4, r5, r6, r7⟩ := l2 R h
    obtain ⟨-, -, hRl⟩ := plc_ok (by omega) hs hL (by rw [labs_len, hB, List.length_append]; omega) h
    rw [labs_len] at hRl
    refine ⟨a', by rw [Nat.add_assoc, e, Option.bind_some, if_pos (show zb 1 = true by decide)], ?_⟩
    have hS' : sq (xMk (xBlk x r (nbl (xb x r) B1.length [d] R.1) f R.2 (nI (R.2 - 1))) r (ahd x r p) d) = va_up (sq x) r (ins (sq x r) p d) := by
      funext s
      show sq (xBlk x r (nbl (xb x r) B1.length [d] R.1) f R.2 (nI (R.2 - 1))) s = _
      by_cases q : s = r
      · subst q
        rw [xBlk_sq, va_up_self, hins, nbl_idl (by rw [hB, List.length_append]; omega) hRl, hB]
        unfold idss
        have el : (B1.map Prod.snd).length = B1.length := List.length_map _
        rw [List.map_append, List.take_append_of_le_length (by omega), List.take_of_length_le (by omega), List.drop_append_of_le_length (by omega), List.drop_of_length_le (by omega), List.nil_append]
        rfl
      · rw [xBlk_sq_ne q, va_up_ne _ _ q]
    have hSr : ∀ s, s < 8 → s ≠ r → ∀ e ∈ sq x s, e ∉ va_up (sq x) r (ins (sq x r) p d) r := by
      intro s hs8 hsr e he z
      rw [va_up_self] at z
      rcases ins_mem.mp z with q | q
      · exact hdn s hs8 e he q
      · exact hI.2.2.2.1 r s hr hs8 (Ne.symm hsr) e q e he rfl
    refine CA_set (r := r) hC rfl rfl (by rw [r3 2 (by decide), e3 2 (by decide)]) (by rw [r3 3 (by decide), e3 3 (by decide)]) (fun s hs8 => ?_) (fun s hsr => va_up_ne _ _ hsr) (by rw [hS', r1]; exact e1) (fun s hs8 hsr e he => ?_) ?_ (fun hkk e he => ?_) (fun m hm => ?_) ?_
    · rw [r4]
      show gup (aE.2.2.1 4) r R.2 s = gup (xg x) r R.2 s
      by_cases q : s = r
      · subst q; exact gup_at (g1 s hs8).2.2
      · rw [gup_ne q, gup_ne q]; exact (g1 s hs8).2.2
    · have hed := hdn s hs8 e he
      refine ⟨by rw [r6 e (hSr s hs8 hsr e he), e5, pk_uLn hed], by rw [r3 6 (by decide), e4, pk_un hed], hf e hed⟩
    · have hb' : xb (xMk (xBlk x r (nbl (xb x r) B1.length [d] R.1) f R.2 (nI (R.2 - 1))) r (ahd x r p) d) r = nbl (B1 ++ B2) B1.length [d] R.1 := by
        rw [← hB]; exact va_up_self _ _ _
      rw [hb']
      exact lab_nbl (by rw [← hB]; exact hRl) r7
    · have hk2 : 2 ≤ k := by
        rw [hk] at hkk
        exact (nI_leI (a := 2) (by omega) (by omega)).mp hkk
      rw [hS', va_up_self] at he
      rw [r3 6 (by decide), e4]
      show upd (a.2.2.1 6) d 128 e = nI (f e)
      rcases ins_mem.mp he with q | q
      · rw [q, pk_us, hfd hk2]; rfl
      · have hed := hdn r hr e q
        rw [pk_un hed, hf e hed]
        exact c7 r hr hkk e q
    · obtain ⟨m1, m2, m3⟩ := e2 m hm
      obtain ⟨n1, n2, n3⟩ := xMk_m (x := x) (x' := xBlk x r (nbl (xb x r) B1.length [d] R.1) f R.2 (nI (R.2 - 1))) (r := r) (d := d) (b := ahd x r p) rfl m
      rw [r2, n1, n2, n3]
      exact ⟨m1, m2, m3⟩
    · rw [r5, g2]; rfl
theorem c_scan {S : Nat → List Nat} {B1 B2 : BL} {lab q : Nat} {J : List Nat} (hC : CB a S r (B1 ++ (lab, J) :: B2)) (hs : (labs (B1 ++ (lab, J) :: B2)).Pairwise (· < ·)) (hL : ∀ d ∈ labs (B1 ++ (lab, J) :: B2), d < 2 ^ 42) (hq : q < J.length) (x2 : Int32) (hx2 : x2 = nI (ofS S r + psum (lens (B1 ++ (lab, J) :: B2)) B1.length + q)) :
    f_X2_bring_139 NF (nI r) x2 (lN lab) x2 a = f_X2_bring_208 (nI r) x2 (nI (ofS S r + psum (lens (B1 ++ (lab, J) :: B2)) B1.length)) (nI (ofS S r + psum (lens (B1 ++ (lab, J) :: B2)) (B1.length + 1))) a := by
  have hr := hC.2.2.1
  have hfi := o_first hC.1 hr
  have hen := o_end hC.1 hr
  have hlen : (B1 ++ (lab, J) :: B2).length = B1.length + 1 + B2.length := by rw [List.length_append, List.length_cons]; omega
  have hmid : (B1 ++ (lab, J) :: B2).getD B1.length (0, []) = (lab, J) := gD_mid
  have hps := psum_s2 (BB := B1 ++ (lab, J) :: B2) (i := B1.length) (by omega)
  rw [hmid] at hps
  have hps' : psum (lens (B1 ++ (lab, J) :: B2)) (B1.length + 1) = psum (lens (B1 ++ (lab, J) :: B2)) B1.length + J.length := hps
  have hbd := CB_bd hC (i := B1.length + 1) (by omega)
  have hAt : ∀ t, t < J.length → f_X2_labelAt (nI (ofS S r + psum (lens (B1 ++ (lab, J) :: B2)) B1.length + t)) a = some (lN lab) := by
    intro t ht
    have := CB_labelAt hC (i := B1.length) (t := t) (by omega) (by rw [hmid]; exact ht)
    rw [hmid] at this
    exact this
  have hdist : ∀ i, i < (B1 ++ (lab, J) :: B2).length → i ≠ B1.length → ¬ lN ((B1 ++ (lab, J) :: B2).getD i (0, [])).1 = lN lab := by
    intro i hi hne z
    have e1 : ((B1 ++ (lab, J) :: B2).getD i (0, [])).1 = (labs (B1 ++ (lab, J) :: B2)).getD i 0 := (labs_gD hi).symm
    have e2 : lab = (labs (B1 ++ (lab, J) :: B2)).getD B1.length 0 := by rw [labs_gD (by omega), hmid]
    have l1 := hL _ (getD_mem (i := i) (l := labs (B1 ++ (lab, J) :: B2)) (by rw [labs_len]; exact hi))
    have l2 := hL _ (getD_mem (i := B1.length) (l := labs (B1 ++ (lab, J) :: B2)) (by rw [labs_len]; omega))
    rw [← e2] at l2
    rw [e1, pk_lEQ (by omega) (by omega)] at z
    rcases Nat.lt_or_gt_of_ne hne with w | w
    · have := lt_pair hs (i := i) (k := B1.length) w (by rw [labs_len]; omega)
      omega
    · have := lt_pair hs (i := B1.length) (k := i) w (by rw [labs_len]; omega)
      omega
  generalize hP : ofS S r + psum (lens (B1 ++ (lab, J) :: B2)) B1.length = P at *
  have hP1 : ofS S r + psum (lens (B1 ++ (lab, J) :: B2)) (B1.length + 1) = P + J.length := by omega
  -- to the right
  have right : f_X2_bring_177 NF (nI r) x2 (lN lab) (nI P) (nI (P + (q + 1))) a = f_X2_bring_208 (nI r) x2 (nI P) (nI (P + J.length)) a := by
    refine loopE (fun m i => f_X2_bring_177 m (nI r) x2 (lN lab) (nI P) (nI (P + i)) a) (a := q + 1) (b := J.length) (by omega) (NF_lt (by omega)) (fun m i h1 h2 => ?_) (fun m => ?_)
    · rw [f_X2_bring_177, hen, Option.bind_some, if_neg (nI_ge (by omega) (by omega)), hAt i h2, Option.bind_some, if_pos ((lg_cmp_eq _ _).mpr rfl), nI_1]
      rfl
    · rw [f_X2_bring_177, hen, Option.bind_some]
      rcases Nat.eq_zero_or_pos B2.length with z | z
      · have e1 : P + J.length = ofS S r + (S r).length := by
          rw [← hP1, hC.2.2.2.1, ← psum_all, hlen, z]
        rw [← e1, if_pos (nI_le (Nat.le_refl _) (by omega))]
      · have hpl := psum_le (BB := B1 ++ (lab, J) :: B2) (i := B1.length + 1 + 1) (by omega)
        have hps2 := psum_s2 (BB := B1 ++ (lab, J) :: B2) (i := B1.length + 1) (by omega)
        have hl0 := CB_len hC (i := B1.length + 1) (by omega)
        have hla := CB_labelAt hC (i := B1.length + 1) (t := 0) (by omega) hl0
        rw [hP1, Nat.add_zero] at hla
        have hSl : (S r).length = (idl (B1 ++ (lab, J) :: B2)).length := by rw [hC.2.2.2.1]
        rw [if_neg (nI_ge (by omega) (by omega)), hla, Option.bind_some, if_neg (fun w => hdist (B1.length + 1) (by omega) (by omega) ((lg_cmp_eq _ _).mp w))]
  -- to the left
  rw [hP1, ← right]
  subst hx2
  have e1 : nI (P + q) + 1 = nI (P + (q + 1)) := nI_1 _
  refine loopD (fun m i => f_X2_bring_139 m (nI r) (nI (P + q)) (lN lab) (nI (P + i)) a) (a := q) (b := 0) (Nat.zero_le _) (NF_lt (by omega)) (fun m i h1 h2 => ?_) (fun m => ?_)
  · have e2 : nI (P + (i + 1)) - 1 = nI (P + i) := nI_pred _
    have e3 : nI (P + (i + 1)) + (-1) = nI (P + i) := pk_m1 _
    rw [f_X2_bring_139, hfi, Option.bind_some, if_neg (nI_ge (by omega) (by omega)), e2, hAt i (by omega), Option.bind_some, if_pos ((lg_cmp_eq _ _).mpr rfl), e3]
  · rw [f_X2_bring_139, hfi, Option.bind_some, Nat.add_zero, e1]
    rcases Nat.eq_zero_or_pos B1.length with z | z
    · have e4 : psum (lens (B1 ++ (lab, J) :: B2)) B1.length = 0 := by rw [z]; rfl
      rw [if_pos (nI_le (by omega) (by omega))]
    · have hps2 := psum_s2 (BB := B1 ++ (lab, J) :: B2) (i := B1.length - 1) (by omega)
      rw [Nat.sub_add_cancel (by omega)] at hps2
      have hl0 := CB_len hC (i := B1.length - 1) (by omega)
      have hla := CB_labelAt hC (i := B1.length - 1) (t := ((B1 ++ (lab, J) :: B2).getD (B1.length - 1) (0, [])).2.length - 1) (by omega) (by omega)
      have e5 : nI P - 1 = nI (ofS S r + psum (lens (B1 ++ (lab, J) :: B2)) (B1.length - 1) + (((B1 ++ (lab, J) :: B2).getD (B1.length - 1) (0, [])).2.length - 1)) := by
        refine Eq.trans (pk_sub (a := P) (b := 1) (by omega)) ?_
        congr 1
        omega
      rw [if_neg (nI_ge (by omega) (by omega)), e5, hla, Option.bind_some, if_neg (fun w => hdist (B1.length - 1) (by omega) (by omega) ((lg_cmp_eq _ _).mp w))]
end BRG
