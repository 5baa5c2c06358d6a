/-! ===== what comes keeps the hall in order ===== -/
theorem Row_fr {x x' : XS} {s : Nat} (h : RowOk x s) (hk : xk x' s = xk x s) (hw : xw x' s = xw x s) (hg : xg x' s = xg x s) (hb : xb x' s = xb x s) (hi : ∀ e ∈ sq x s, xi x' e = xi x e) : RowOk x' s := by
  unfold RowOk at h ⊢
  rw [hk, hw, hg, hb]
  rcases h with h | ⟨h1, w, h2, h3, h4, h5, h6, h7, h8⟩
  · exact Or.inl h
  · refine Or.inr ⟨h1, w, h2, h3, h4, h5, h6, h7, fun z b hbm => ?_⟩
    obtain ⟨q1, q2, q3⟩ := h8 z b hbm
    refine ⟨q1, ?_, fun d hd => by rw [hi d (mem_sq hbm hd)]; exact q3 d hd⟩
    exact q2.imp_of_mem (fun ha hb h => by rw [hi _ (mem_sq hbm ha), hi _ (mem_sq hbm hb)]; exact h)
/-- blocks that may stand in a row -/
theorem Row_mk {x : XS} {r k w : Nat} {B : BL} (hb : xb x r = B) (hk : xk x r = nI k) (hk4 : k < 4) (hw : xw x r = nI w) (hw4 : 4 ≤ w) (hw40 : w ≤ 40) (hs : (labs B).Pairwise (· < ·)) (hL : ∀ d ∈ labs B, d < 2 ^ w) (hne : ∀ b ∈ B, b.2 ≠ []) (h1 : k < 2 → ∀ b ∈ B, b.2.length = 1) (h2 : 2 ≤ k → ∀ b ∈ B, b.2.length ≤ 8 ∧ b.2.Pairwise (fun p q => xi x p < xi x q) ∧ ∀ d ∈ b.2, xi x d < 256) : RowOk x r := by
  refine Or.inr ⟨⟨k, hk4, hk⟩, w, hw4, hw40, hw, ?_, ?_, fun z => ?_, fun z => ?_⟩
  · rw [hb]; exact List.pairwise_map.mp hs
  · rw [hb]; exact fun b hbm => ⟨hL b.1 (List.mem_map.mpr ⟨b, hbm, rfl⟩), hne b hbm⟩
  · rw [hb]
    refine h1 ?_
    rw [hk, le_L (by omega) (by decide)] at z
    omega
  · rw [hb]
    refine h2 ?_
    rw [hk, le_L (by omega) (by decide)] at z
    exact z
theorem pair_idx {J : List Nat} {g : Nat → Nat} (h : ∀ i k, i < k → k < J.length → g (J.getD i 0) < g (J.getD k 0)) : J.Pairwise (fun p q => g p < g q) := by
  rw [List.pairwise_iff_getElem]
  intro i k hi hk hik
  have := h i k hik hk
  rw [gD hi, gD hk] at this
  exact this
theorem asg_pair {J : List Nat} {f : Nat → Nat} {L : List Nat} {n : Nat} (hn : J.Nodup) (hl : J.length = n) (hL : L.length = n) (hs : L.Pairwise (· < ·)) : J.Pairwise (fun p q => asg f J (fun i => L.getD i 0) n p < asg f J (fun i => L.getD i 0) n q) := by
  subst hl
  refine pair_idx (fun i k hik hk => ?_)
  rw [asg_at (getD_mem (by omega)), asg_at (getD_mem hk), pos_of hn (by omega), pos_of hn hk]
  exact lt_pair hs hik (by omega)
theorem nodup_sub {A J C : List Nat} (h : (A ++ (J ++ C)).Nodup) : J.Nodup ∧ (∀ e ∈ A, e ∉ J) ∧ ∀ e ∈ C, e ∉ J := by
  obtain ⟨n1, n2, n3⟩ := List.nodup_append.mp h
  obtain ⟨n4, n5, n6⟩ := List.nodup_append.mp n2
  exact ⟨n4, fun e he hj => n3 e he e (List.mem_append_left _ hj) rfl, fun e he hj => n6 e hj e he rfl⟩
section CI
variable {x x' : XS} {T r p d : Nat}
/-- what every coming does -/
def CRes (x : XS) (r p d : Nat) (x' : XS) : Prop := xk x' = xk x ∧ xw x' = xw x ∧ xm x' = xm x ∧ (∀ s, s ≠ r → xg x' s = xg x s ∧ xb x' s = xb x s) ∧ sq x' = va_up (sq x) r (ins (sq x r) p d) ∧ (∀ s, s < 8 → s ≠ r → ∀ e ∈ sq x s, xi x' e = xi x e) ∧ RowOk x' r
theorem Cm_res (hI : Inv T x) (hr : r < 8) (hp : p ≤ (sq x r).length) (hd : Out x d) (hC : Cm x r p d (some x')) : CRes x r p d x' := by
  obtain ⟨k, w, ek, k4, ew, w4, w40, hs, hL, hC⟩ := hC
  have hne := bl_ne hI hr
  rcases hC with ⟨hk2, h1, ho⟩ | ⟨hk2, hB0, hp0, ho⟩ | ⟨hk2, B1, lab, ids, B2, q, hBO, hpe, hc⟩
  · cases hpl : plc (k == 0) w (labs (xb x r)) p with
    | none => rw [hpl] at ho; cases ho
    | some R =>
      rw [hpl] at ho
      have ho' : x' = xNew x r p [d] R := Option.some.inj ho
      obtain ⟨p1, p2, p3⟩ := plc_ok (by omega) hs hL (by rw [labs_len, ← one_len h1]; exact hp) hpl
      have hl : (sq x r).length = (xb x r).length := one_len h1
      rw [labs_len] at p3
      obtain ⟨n1, n2⟩ := one_nbl (d := d) h1 (show p ≤ (xb x r).length by omega) p3
      have hb : xb (xNew x r p [d] R) r = nbl (xb x r) p [d] R.1 := va_up_self _ _ _
      have hbn : ∀ s, s ≠ r → xb (xNew x r p [d] R) s = xb x s := fun s hsr => va_up_ne _ _ hsr
      subst ho'
      refine ⟨rfl, rfl, rfl, fun s hsr => ⟨gup_ne hsr, hbn s hsr⟩, ?_, fun _ _ _ _ _ => rfl, ?_⟩
      · funext s
        by_cases z : s = r
        · subst z; unfold sq; rw [hb, va_up_self, n1]
        · rw [va_up_ne _ _ z]; unfold sq; rw [hbn s z]
      · refine Row_mk hb ek k4 ew w4 w40 ?_ ?_ ?_ (fun _ => n2) (fun z => absurd z (by omega))
        · rw [nbl_labs (by omega) p3]; exact p1
        · rw [nbl_labs (by omega) p3]; exact p2
        · intro b hbm z
          have := n2 b hbm
          rw [z] at this
          exact absurd this (by decide)
  · cases hpl : plc false w [] 0 with
    | none => rw [hpl] at ho; cases ho
    | some R =>
      rw [hpl] at ho
      have ho' : x' = xEmp x r d R := Option.some.inj ho
      obtain ⟨p1, p2, p3⟩ := plc_ok (w := w) (by omega) List.Pairwise.nil (fun d h => absurd h List.not_mem_nil) (Nat.zero_le _) hpl
      have p3' : R.1.length = 1 := p3
      obtain ⟨l, hl⟩ := List.length_eq_one_iff.mp p3'
      have hnb : nbl [] 0 [d] R.1 = [(l, [d])] := by rw [hl]; rfl
      have hb : xb (xEmp x r d R) r = [(l, [d])] := by rw [← hnb]; exact va_up_self _ _ _
      have hbn : ∀ s, s ≠ r → xb (xEmp x r d R) s = xb x s := fun s hsr => va_up_ne _ _ hsr
      have hsq0 : sq x r = [] := by unfold sq; rw [hB0]; rfl
      have hxi : xi (xEmp x r d R) = va_up (xi x) d 128 := rfl
      subst ho'
      refine ⟨rfl, rfl, rfl, fun s hsr => ⟨gup_ne hsr, hbn s hsr⟩, ?_, fun s hs8 _ e he => ?_, ?_⟩
      · funext s
        by_cases z : s = r
        · subst z
          rw [va_up_self, hsq0, hp0]
          unfold sq
          rw [hb]
          rfl
        · rw [va_up_ne _ _ z]; unfold sq; rw [hbn s z]
      · rw [hxi]; exact va_up_ne _ _ (fun z => hd.2 s hs8 (z ▸ he))
      · refine Row_mk hb ek k4 ew w4 w40 ?_ ?_ ?_ (fun z => absurd z (by omega)) (fun _ b hbm => ?_)
        · show [l].Pairwise (· < ·)
          rw [← hl]; exact p1
        · show ∀ d ∈ [l], d < 2 ^ w
          rw [← hl]; exact p2
        · intro b hbm
          rw [List.mem_singleton] at hbm
          subst hbm
          exact List.cons_ne_nil _ _
        · rw [List.mem_singleton] at hbm
          subst hbm
          refine ⟨(show (1 : Nat) ≤ 8 by decide), List.pairwise_singleton _ _, fun e he => ?_⟩
          rw [List.mem_singleton] at he
          rw [he, hxi, va_up_self]
          decide
  · have hsq := BOk_sq hBO
    obtain ⟨b1, b2, b3, b4, b5, b6, b7, b8⟩ := id hBO
    have hins : ins (sq x r) p d = idl B1 ++ (ins ids q d ++ idl B2) := by rw [hsq, hpe, ins_mid b2]
    have hnd := ins_nd (p := p) (hI.2.2.1 r hr) (hd.2 r hr)
    rw [hins] at hnd
    obtain ⟨nJ, nA, nC⟩ := nodup_sub hnd
    have hJl : (ins ids q d).length = ids.length + 1 := ins_len b2
    have hml : (ids.map (xi x)).length = ids.length := List.length_map _
    obtain ⟨i1, i2, i3⟩ := inr_ok (q := q) (I := ids.map (xi x)) (by omega) (by omega) (List.pairwise_map.mpr b6) (fun z hz => by
      obtain ⟨e, he, rfl⟩ := List.mem_map.mp hz
      exact b7 e he)
    have hxiI : ∀ e, e ∉ ins ids q d → xi (xIn x r B1 lab ids B2 q d) e = xi x e := fun e he => by rw [xIn_i]; exact asg_no he
    have hoth : ∀ s, s < 8 → s ≠ r → ∀ e ∈ sq x s, e ∉ ins ids q d := by
      intro s hs8 hsr e he z
      rcases ins_mem.mp z with w | w
      · exact hd.2 s hs8 (w ▸ he)
      · exact hI.2.2.2.1 r s hr hs8 (Ne.symm hsr) e (by rw [hsq]; simp [w]) e he rfl
    obtain ⟨-, -, -, -, -, -, -, -, -, -, -, hblk⟩ := row_ok hI hr (by rw [ek]; exact ne_m1 (by omega))
    have hblkB : ∀ b ∈ xb x r, b.2.length ≤ 8 ∧ b.2.Pairwise (fun p q => xi x p < xi x q) ∧ ∀ d ∈ b.2, xi x d < 256 := by
      rcases hI.2.1 r hr with ⟨z, -⟩ | ⟨-, w', -, -, -, -, -, -, h8⟩
      · exact absurd z (by rw [ek]; exact ne_m1 (by omega))
      · exact h8 (by rw [ek]; exact nI_le (a := 2) hk2 (by omega))
    -- a block that isn't the newcomer's
    have hold : ∀ (y : XS), (∀ e, e ∉ ins ids q d → xi y e = xi x e) → ∀ b, b ∈ B1 ∨ b ∈ B2 → b.2.length ≤ 8 ∧ b.2.Pairwise (fun p q => xi y p < xi y q) ∧ ∀ d ∈ b.2, xi y d < 256 := by
      intro y hy b hb
      have hbm : b ∈ xb x r := by
        rw [b1]
        rcases hb with z | z
        · exact List.mem_append_left _ z
        · exact List.mem_append_right _ (List.mem_cons_of_mem _ z)
      have hnot : ∀ e ∈ b.2, e ∉ ins ids q d := by
        intro e he
        rcases hb with z | z
        · exact nA e (mem_idl z he)
        · exact nC e (mem_idl z he)
      obtain ⟨q1, q2, q3⟩ := hblkB b hbm
      exact ⟨q1, q2.imp_of_mem (fun ha hb h => by rw [hy _ (hnot _ ha), hy _ (hnot _ hb)]; exact h), fun e he => by rw [hy e (hnot e he)]; exact q3 e he⟩
    have hlabs : labs (B1 ++ (lab, ins ids q d) :: B2) = labs (xb x r) := by rw [b1]; exact labs_mid
    have hneI : ∀ b ∈ B1 ++ (lab, ins ids q d) :: B2, b.2 ≠ [] := by
      intro b hb
      rcases List.mem_append.mp hb with z | z
      · exact b8 b (by rw [b1]; exact List.mem_append_left _ z)
      · rcases List.mem_cons.mp z with z | z
        · subst z
          intro z2
          have z3 : ins ids q d = [] := z2
          rw [z3, List.length_nil] at hJl
          omega
        · exact b8 b (by rw [b1]; exact List.mem_append_right _ (List.mem_cons_of_mem _ z))
    rcases hc with ⟨h8, ho⟩ | ⟨h8, ho⟩
    · have ho' : x' = xIn x r B1 lab ids B2 q d := Option.some.inj ho
      subst ho'
      refine ⟨xIn_k.1, xIn_k.2, xIn_m, fun s hsr => ⟨by rw [xIn_g]; exact gup_ne hsr, xIn_bn hsr⟩, sqI hBO hpe, fun s hs8 hsr e he => hxiI e (hoth s hs8 hsr e he), ?_⟩
      refine Row_mk xIn_b (by rw [xIn_k.1]; exact ek) k4 (by rw [xIn_k.2]; exact ew) w4 w40 (by rw [hlabs]; exact hs) (by rw [hlabs]; exact hL) hneI (fun z => absurd z (by omega)) (fun _ b hb => ?_)
      rcases List.mem_append.mp hb with z | z
      · exact hold _ hxiI b (Or.inl z)
      · rcases List.mem_cons.mp z with z | z
        · subst z
          refine ⟨by show (ins ids q d).length ≤ 8; omega, ?_, fun e he => ?_⟩
          · rw [xIn_i]
            exact asg_pair nJ hJl (by rw [i1, hml]) i2
          · have he' : e ∈ ins ids q d := he
            rw [xIn_i, ← hJl, asg_at he']
            exact i3 _ (getD_mem (by rw [i1, hml, ← hJl]; exact pos_lt he'))
        · exact hold _ hxiI b (Or.inr z)
    · cases hpl : plc false w (labs (xb x r)) (B1.length + 1) with
      | none => rw [hpl] at ho; cases ho
      | some R =>
        rw [hpl] at ho
        have ho' : x' = xPart (xIn x r B1 lab ids B2 q d) r B1 lab (ins ids q d) B2 R := Option.some.inj ho
        obtain ⟨p1, p2, p3⟩ := plc_ok (by omega) hs hL (by rw [labs_len, b1, List.length_append, List.length_cons]; omega) hpl
        rw [labs_len, b1, List.length_append, List.length_cons] at p3
        have hJ9 : (ins ids q d).length = 9 := by omega
        have hdr : ((ins ids q d).drop 5).length = 4 := by rw [List.length_drop, hJ9]
        have htk : ((ins ids q d).take 5).length = 5 := by rw [List.length_take, hJ9]; rfl
        have hJJ : (ins ids q d).take 5 ++ (ins ids q d).drop 5 = ins ids q d := List.take_append_drop 5 _
        have nJ2 := nJ
        rw [← hJJ] at nJ2
        obtain ⟨n5, n4, n54⟩ := List.nodup_append.mp nJ2
        have hkP := xPart_k (y := xIn x r B1 lab ids B2 q d) (r := r) (B1 := B1) (B2 := B2) (lab := lab) (J := ins ids q d) (R := R)
        have hgP := xPart_g (y := xIn x r B1 lab ids B2 q d) (r := r) (B1 := B1) (B2 := B2) (lab := lab) (R := R) hJ9
        have hiP := xPart_i (y := xIn x r B1 lab ids B2 q d) (r := r) (B1 := B1) (B2 := B2) (lab := lab) (R := R) hJ9
        have hbP := xPart_b (y := xIn x r B1 lab ids B2 q d) (r := r) (B1 := B1) (B2 := B2) (lab := lab) (J := ins ids q d) (R := R)
        have hbn : ∀ s, s ≠ r → xb (xPart (xIn x r B1 lab ids B2 q d) r B1 lab (ins ids q d) B2 R) s = xb x s := fun s hsr => by rw [xPart_bn hsr, xIn_bn hsr]
        have hsqP := sqP (x := x) (r := r) (p := p) (d := d) (lab := lab) (R := R) hins p3
        rw [← ho'] at hkP hgP hiP hbP hbn hsqP
        have hxiP : ∀ e, e ∉ ins ids q d → xi x' e = xi x e := by
          intro e he
          rw [hiP, asg_no (fun z => he (List.mem_of_mem_drop z)), asg_no (fun z => he (List.mem_of_mem_take z)), hxiI e he]
        have hBl : (B1 ++ (lab, (ins ids q d).take 5) :: B2).length + 1 = R.1.length := by rw [List.length_append, List.length_cons, p3]
        have hBp : B1.length + 1 ≤ (B1 ++ (lab, (ins ids q d).take 5) :: B2).length := by rw [List.length_append, List.length_cons]; omega
        have hmem : ∀ b ∈ nbl (B1 ++ (lab, (ins ids q d).take 5) :: B2) (B1.length + 1) ((ins ids q d).drop 5) R.1, b.2 = (ins ids q d).drop 5 ∨ b.2 = (ins ids q d).take 5 ∨ ∃ b', (b' ∈ B1 ∨ b' ∈ B2) ∧ b.2 = b'.2 := by
          intro b hb
          have h9 : b.2 ∈ idss (nbl (B1 ++ (lab, (ins ids q d).take 5) :: B2) (B1.length + 1) ((ins ids q d).drop 5) R.1) := List.mem_map.mpr ⟨b, hb, rfl⟩
          rw [nbl_idss hBp hBl.symm, ins_mem] at h9
          rcases h9 with z | z
          · exact Or.inl z
          · obtain ⟨b', hb', e⟩ := List.mem_map.mp z
            rcases List.mem_append.mp hb' with z | z
            · exact Or.inr (Or.inr ⟨b', Or.inl z, e.symm⟩)
            · rcases List.mem_cons.mp z with z | z
              · subst z; exact Or.inr (Or.inl e.symm)
              · exact Or.inr (Or.inr ⟨b', Or.inr z, e.symm⟩)
        refine ⟨by rw [hkP.1, xIn_k.1], by rw [hkP.2.1, xIn_k.2], by rw [hkP.2.2, xIn_m], fun s hsr => ⟨?_, hbn s hsr⟩, hsqP, fun s hs8 hsr e he => hxiP e (hoth s hs8 hsr e he), ?_⟩
        · rw [hgP, gup_ne hsr, gup_ne hsr, gup_ne hsr, xIn_g, gup_ne hsr]
        · refine Row_mk hbP (by rw [hkP.1, xIn_k.1]; exact ek) k4 (by rw [hkP.2.1, xIn_k.2]; exact ew) w4 w40 (by rw [nbl_labs hBp hBl.symm]; exact p1) (by rw [nbl_labs hBp hBl.symm]; exact p2) ?_ (fun z => absurd z (by omega)) ?_
          · intro b hb z
            rcases hmem b hb with q1 | q1 | ⟨b', q1, q2⟩
            · rw [← q1, z] at hdr; exact absurd hdr (by decide)
            · rw [← q1, z] at htk; exact absurd htk (by decide)
            · rw [q2] at z
              refine b8 b' ?_ z
              rw [b1]
              rcases q1 with q1 | q1
              · exact List.mem_append_left _ q1
              · exact List.mem_append_right _ (List.mem_cons_of_mem _ q1)
          · intro _ b hb
            rcases hmem b hb with q1 | q1 | ⟨b', q1, q2⟩
            · rw [q1]
              have e4 : ∀ e ∈ (ins ids q d).drop 5, xi x' e = dl 0 8 4 (pos ((ins ids q d).drop 5) e) := by
                intro e he
                have h9 := asg_at (f := asg (xi (xIn x r B1 lab ids B2 q d)) ((ins ids q d).take 5) (dl 0 8 5) 5) (g := dl 0 8 4) he
                rw [hdr] at h9
                rw [hiP, h9]
              refine ⟨by omega, pair_idx (fun i k' hik hk' => ?_), fun e he => ?_⟩
              · rw [e4 _ (getD_mem (by omega)), e4 _ (getD_mem hk'), pos_of n4 (by omega), pos_of n4 hk']
                exact dl_mono (by omega) (by decide) hik
              · rw [e4 e he]
                exact Nat.lt_of_lt_of_le (dl_lt (by have := pos_lt he; omega)) (by decide)
            · rw [q1]
              have e5 : ∀ e ∈ (ins ids q d).take 5, xi x' e = dl 0 8 5 (pos ((ins ids q d).take 5) e) := by
                intro e he
                have h9 := asg_at (f := xi (xIn x r B1 lab ids B2 q d)) (g := dl 0 8 5) he
                rw [htk] at h9
                rw [hiP, asg_no (fun z => n54 e he e z rfl), h9]
              refine ⟨by omega, pair_idx (fun i k' hik hk' => ?_), fun e he => ?_⟩
              · rw [e5 _ (getD_mem (by omega)), e5 _ (getD_mem hk'), pos_of n5 (by omega), pos_of n5 hk']
                exact dl_mono (by omega) (by decide) hik
              · rw [e5 e he]
                exact Nat.lt_of_lt_of_le (dl_lt (by have := pos_lt he; omega)) (by decide)
            · rw [q2]
              exact hold x' hxiP b' q1
theorem Cm_inv (hI : Inv T x) (hr : r < 8) (hp : p ≤ (sq x r).length) (hd : Out x d) (hdT : d < 2 * T) (hx : ∀ s, s < 8 → s ≠ r → ∀ e ∈ sq x s, e / 2 ≠ d / 2) (hev : xk x r ≠ 3 → d % 2 = 0) (hres : CRes x r p d x') : Inv T (xMk x' r (ahd x r p) d) := by
  obtain ⟨k1, k2, k3, k4, k5, k6, k7⟩ := hres
  obtain ⟨a1, a2, a3, a4, a5, a6, a7⟩ := id hI
  have hsq : sq (xMk x' r (ahd x r p) d) = va_up (sq x) r (ins (sq x r) p d) := by rw [xMk_sq, k5]
  have hmem : ∀ s, s < 8 → ∀ e, e ∈ va_up (sq x) r (ins (sq x r) p d) s → (s = r ∧ e = d) ∨ e ∈ sq x s := by
    intro s _ e he
    by_cases z : s = r
    · subst z
      rw [va_up_self] at he
      rcases ins_mem.mp he with q | q
      · exact Or.inl ⟨rfl, q⟩
      · exact Or.inr q
    · rw [va_up_ne _ _ z] at he
      exact Or.inr he
  refine ⟨a1, fun s hs => ?_, fun s hs => ?_, fun s t hs ht hst e he f hf => ?_, fun s hs e he => ?_, fun s hs hk e he => ?_, fun m hm => ?_⟩
  · have : RowOk x' s := by
      by_cases z : s = r
      · subst z; exact k7
      · exact Row_fr (a2 s hs) (by rw [k1]) (by rw [k2]) (k4 s z).1 (k4 s z).2 (fun e he => k6 s hs z e he)
    exact this
  · rw [hsq]
    by_cases z : s = r
    · subst z; rw [va_up_self]; exact ins_nd (a3 s hs) (hd.2 s hs)
    · rw [va_up_ne _ _ z]; exact a3 s hs
  · rw [hsq] at he hf
    rcases hmem s hs e he with ⟨z1, z2⟩ | z1
    · rcases hmem t ht f hf with ⟨z3, z4⟩ | z3
      · exact absurd (z1.trans z3.symm) hst
      · rw [z2]
        exact (hx t ht (fun w => hst (z1.trans w.symm)) f z3).symm
    · rcases hmem t ht f hf with ⟨z3, z4⟩ | z3
      · rw [z4]
        exact hx s hs (fun w => hst (w.trans z3.symm)) e z1
      · exact a4 s t hs ht hst e z1 f z3
  · rw [hsq] at he
    rcases hmem s hs e he with ⟨-, z2⟩ | z1
    · rw [z2]; exact hdT
    · exact a5 s hs e z1
  · rw [hsq] at he
    rw [xMk_k, k1] at hk
    rcases hmem s hs e he with ⟨z1, z2⟩ | z1
    · rw [z2]; exact hev (z1 ▸ hk)
    · exact a6 s hs hk e z1
  · obtain ⟨n1, n2, n3⟩ := xMk_m (x := x) (r := r) (d := d) (b := ahd x r p) k3 m
    rw [n1, n2, n3, hsq, xMk_k, k1]
    rcases a7 m hm with q | ⟨⟨s, hs, q1, q2, q3⟩, q4⟩
    · exact Or.inl q
    · refine Or.inr ⟨⟨s, hs, q1, q2, ?_⟩, q4⟩
      unfold mkm
      by_cases z : xm x 1 m = nI r ∧ xm x 2 m = ahd x r p ∧ xm x 3 m = 1
      · rw [if_pos z]
        have : s = r := by
          have h9 := z.1
          rw [q1] at h9
          exact (nI_eq (by omega) (by omega)).mp h9
        subst this
        exact Or.inr ⟨d, by rw [va_up_self]; exact ins_mem.mpr (Or.inl rfl), rfl⟩
      · rw [if_neg z]
        rcases q3 with q3 | ⟨e, he, q3⟩
        · exact Or.inl q3
        · refine Or.inr ⟨e, ?_, q3⟩
          by_cases z2 : s = r
          · subst z2; rw [va_up_self]; exact ins_mem.mpr (Or.inr he)
          · rw [va_up_ne _ _ z2]; exact he
theorem room_of (hI : Inv T x) (hr : r < 8) (hd : Out x d) (hdT : d < 2 * T) : ofS (sq x) 8 < 600 ∧ (sq x r).length < 600 := by
  have h1 : (d :: alls x 8).Nodup := List.nodup_cons.mpr ⟨fun z => by
    obtain ⟨s, hs, hm⟩ := alls_mem z
    exact hd.2 s hs hm, alls_nd hI (Nat.le_refl _)⟩
  have h2 := nd_len (n := 2 * T) h1 (fun e he => by
    rcases List.mem_cons.mp he with z | z
    · rw [z]; exact hdT
    · obtain ⟨s, hs, hm⟩ := alls_mem z
      exact hI.2.2.2.2.1 s hs e hm)
  rw [List.length_cons, alls_len, off_ofS] at h2
  have h3 := hI.1
  have h4 := o_le (S := sq x) hr
  omega
end CI
/-- one comes, on both sides -/
theorem come_main {a : SS} {v : MS} {x : XS} {T r p d : Nat} (hC : CA a x) (hM : MA (core v) x) (hI : Inv T x) (hr : r < 8) (hk : xk x r ≠ -1) (hp : p ≤ (sq x r).length) (hd : Out x d) (hdT : d < 2 * T) (hx : ∀ s, s < 8 → s ≠ r → ∀ e ∈ sq x s, e / 2 ≠ d / 2) (hev : xk x r ≠ 3 → d % 2 = 0) :
    (∃ a' v', f_X2_bring (nI r) (nI (off x r + p)) (nI d) a = some (0, a') ∧ f_X4_come (nI r) (nI p) (nI d) v = some (0, v') ∧ Fm [15, 22] [4, 5, 6, 7, 8, 11, 13] [9, 10, 21] v v') ∨
    (∃ a' v' x', f_X2_bring (nI r) (nI (off x r + p)) (nI d) a = some (1, a') ∧ f_X4_come (nI r) (nI p) (nI d) v = some (1, v') ∧ Fm [15, 22] [4, 5, 6, 7, 8, 11, 13] [9, 10, 21] v v' ∧ CA a' x' ∧ MA (core v') x' ∧ Inv T x' ∧ sq x' = va_up (sq x) r (ins (sq x r) p d) ∧ xk x' = xk x) := by
  obtain ⟨h8, h6⟩ := room_of hI hr hd hdT
  obtain ⟨o, ho⟩ := Cm_ex (d := d) hI hr hk hp
  obtain ⟨m1, m2⟩ := p_come hM hI hr hd hp h6 ho
  obtain ⟨c1, c2⟩ := c_bring hC hI hr hp hd hx h8 ho
  rw [off_ofS]
  cases o with
  | none =>
    obtain ⟨v', g1, g2⟩ := m1 rfl
    obtain ⟨a', g3⟩ := c1 rfl
    exact Or.inl ⟨a', v', g3, g1, g2⟩
  | some y =>
    obtain ⟨v', g1, g2, g3⟩ := m2 y rfl
    obtain ⟨a', g4, g5⟩ := c2 y rfl
    have hres := Cm_res hI hr hp hd ho
    exact Or.inr ⟨a', v', xMk y r (ahd x r p) d, g4, g1, g2, g5, g3, Cm_inv hI hr hp hd hdT hx hev hres, by rw [xMk_sq, hres.2.2.2.2.1], by rw [xMk_k, hres.1]⟩
