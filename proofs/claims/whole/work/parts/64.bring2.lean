/-! ===== the class: bring whole ===== -/
section XMK
variable {y : XS} {r d : Nat} {b : Int32}
theorem xMk_k : xk (xMk y r b d) = xk y := rfl
theorem xMk_w : xw (xMk y r b d) = xw y := rfl
theorem xMk_g : xg (xMk y r b d) = xg y := rfl
theorem xMk_b : xb (xMk y r b d) = xb y := rfl
theorem xMk_i : xi (xMk y r b d) = xi y := rfl
theorem xMk_r : xr (xMk y r b d) = xr y := rfl
theorem xMk_sq : sq (xMk y r b d) = sq y := by
  funext s
  unfold sq
  rw [xMk_b]
end XMK
section PRT
variable {y : XS} {r : Nat} {B1 B2 : BL} {lab : Nat} {J : List Nat} {R : List Nat × Nat}
theorem xPart_b : xb (xPart y r B1 lab J B2 R) r = nbl (B1 ++ (lab, J.take 5) :: B2) (B1.length + 1) (J.drop 5) R.1 := by
  have e1 : xb (xPart y r B1 lab J B2 R) r = xb (xDl (xPa1 y r B1 lab J B2 R) r (J.take 5)) r := va_up_self _ _ _
  have e2 : xb (xDl (xPa1 y r B1 lab J B2 R) r (J.take 5)) r = xb (xPa1 y r B1 lab J B2 R) r := va_up_self _ _ _
  have e3 : xb (xPa1 y r B1 lab J B2 R) r = nbl (B1 ++ (lab, J.take 5) :: B2) (B1.length + 1) (J.drop 5) R.1 := va_up_self _ _ _
  rw [e1, e2, e3]
theorem xPart_bn {s : Nat} (h : s ≠ r) : xb (xPart y r B1 lab J B2 R) s = xb y s := by
  have e1 : xb (xPart y r B1 lab J B2 R) s = xb (xDl (xPa1 y r B1 lab J B2 R) r (J.take 5)) s := va_up_ne _ _ h
  have e2 : xb (xDl (xPa1 y r B1 lab J B2 R) r (J.take 5)) s = xb (xPa1 y r B1 lab J B2 R) s := va_up_ne _ _ h
  have e3 : xb (xPa1 y r B1 lab J B2 R) s = xb y s := va_up_ne _ _ h
  rw [e1, e2, e3]
theorem xPart_i (hJ : J.length = 9) : xi (xPart y r B1 lab J B2 R) = asg (asg (xi y) (J.take 5) (dl 0 8 5) 5) (J.drop 5) (dl 0 8 4) 4 := by
  have hdr : (J.drop 5).length = 4 := by rw [List.length_drop, hJ]
  have htk : (J.take 5).length = 5 := by rw [List.length_take, hJ]; rfl
  show asg (asg (xi y) (J.take 5) (dl 0 8 (J.take 5).length) (J.take 5).length) (J.drop 5) (dl 0 8 (J.drop 5).length) (J.drop 5).length = _
  rw [hdr, htk]
theorem xPart_g (hJ : J.length = 9) : xg (xPart y r B1 lab J B2 R) = gup (gup (gup (xg y) r R.2) r 5) r 4 := by
  have hdr : (J.drop 5).length = 4 := by rw [List.length_drop, hJ]
  have htk : (J.take 5).length = 5 := by rw [List.length_take, hJ]; rfl
  show gup (gup (gup (xg y) r R.2) r (J.take 5).length) r (J.drop 5).length = _
  rw [hdr, htk]
theorem xPart_r (hJ : J.length = 9) : xr (xPart y r B1 lab J B2 R) = xr y + nI (R.2 - 1) + 9 := by
  have hdr : (J.drop 5).length = 4 := by rw [List.length_drop, hJ]
  have htk : (J.take 5).length = 5 := by rw [List.length_take, hJ]; rfl
  show xr y + nI (R.2 - 1) + nI (J.take 5).length + nI (J.drop 5).length = _
  rw [hdr, htk, Int32.add_assoc (xr y + nI (R.2 - 1)), nI_add]
  rfl
end PRT
section BRW
variable {a : SS} {x : XS} {T r p d : Nat}
theorem gupc {g g' : Nat → Int32} {r c : Nat} (h : ∀ s, s < 8 → g s = g' s) : ∀ s, s < 8 → gup g r c s = gup g' r c s := by
  intro s hs
  by_cases q : s = r
  · subst q; exact gup_at (h s hs)
  · rw [gup_ne q, gup_ne q]; exact h s hs
theorem xIn_i {B1 B2 : BL} {lab q : Nat} {ids : List Nat} : xi (xIn x r B1 lab ids B2 q d) = asg (xi x) (ins ids q d) (fun i => (inr (ids.map (xi x)) q).1.getD i 0) (ids.length + 1) := rfl
theorem xIn_g {B1 B2 : BL} {lab q : Nat} {ids : List Nat} : xg (xIn x r B1 lab ids B2 q d) = gup (xg x) r (inr (ids.map (xi x)) q).2 := rfl
theorem xIn_r {B1 B2 : BL} {lab q : Nat} {ids : List Nat} : xr (xIn x r B1 lab ids B2 q d) = xr x + nI ((inr (ids.map (xi x)) q).2 - 1) := rfl
theorem xIn_m {B1 B2 : BL} {lab q : Nat} {ids : List Nat} : xm (xIn x r B1 lab ids B2 q d) = xm x := rfl
theorem xIn_k {B1 B2 : BL} {lab q : Nat} {ids : List Nat} : xk (xIn x r B1 lab ids B2 q d) = xk x ∧ xw (xIn x r B1 lab ids B2 q d) = xw x := ⟨rfl, rfl⟩
theorem xIn_b {B1 B2 : BL} {lab q : Nat} {ids : List Nat} : xb (xIn x r B1 lab ids B2 q d) r = B1 ++ (lab, ins ids q d) :: B2 := va_up_self _ _ _
theorem xIn_bn {B1 B2 : BL} {lab q : Nat} {ids : List Nat} {s : Nat} (h : s ≠ r) : xb (xIn x r B1 lab ids B2 q d) s = xb x s := va_up_ne _ _ h
/-- the class with the newcomer in its block, before a block is parted -/
def Pre (x : XS) (r p d : Nat) (B1 : BL) (lab : Nat) (ids : List Nat) (B2 : BL) (q : Nat) (a a1 : SS) : Prop :=
  CB a1 (va_up (sq x) r (ins (sq x r) p d)) r (B1 ++ (lab, ins ids q d) :: B2) ∧ (∀ m, m < 20 → a1.2.1 1 m = xm x 1 m ∧ a1.2.1 2 m = mkm x r (ahd x r p) d m ∧ a1.2.1 3 m = xm x 3 m) ∧
  (∀ e ∈ ins (sq x r) p d, a1.2.2.1 6 e = nI (xi (xIn x r B1 lab ids B2 q d) e)) ∧ (∀ s, s < 8 → s ≠ r → ∀ e ∈ sq x s, a1.2.2.2.1 e = a.2.2.2.1 e ∧ a1.2.2.1 6 e = a.2.2.1 6 e ∧ xi (xIn x r B1 lab ids B2 q d) e = xi x e) ∧
  a1.2.2.1 2 = a.2.2.1 2 ∧ a1.2.2.1 3 = a.2.2.1 3 ∧ (∀ s, s < 8 → a1.2.2.1 4 s = xg (xIn x r B1 lab ids B2 q d) s) ∧ a1.2.2.2.2 = xr (xIn x r B1 lab ids B2 q d)
theorem sqI {B1 B2 : BL} {lab q : Nat} {ids : List Nat} (hB : BOk x r B1 lab ids B2 q) (hpe : p = (idl B1).length + q) : sq (xIn x r B1 lab ids B2 q d) = va_up (sq x) r (ins (sq x r) p d) := by
  funext s
  by_cases z : s = r
  · subst z
    rw [va_up_self, hpe]; exact (xIn_sq hB).1
  · rw [va_up_ne _ _ z]
    unfold sq
    rw [xIn_bn z]
theorem c_bring_pre (hC : CA a x) (hI : Inv T x) (hr : r < 8) {aE : SS} (hE : En x r p d a aE) (hp : p ≤ (sq x r).length) (hd : Out x d) (h8 : ofS (sq x) 8 < 600) {k w : Nat} (hk : xk x r = nI k) (hk4 : k < 4) (hk2 : 2 ≤ k) (hw : xw x r = nI w) (hw4 : 4 ≤ w) (hw40 : w ≤ 40) (hs : (labs (xb x r)).Pairwise (· < ·)) (hL : ∀ d ∈ labs (xb x r), d < 2 ^ w) {B1 B2 : BL} {lab q : Nat} {ids : List Nat} (hB : BOk x r B1 lab ids B2 q) (hpe : p = (idl B1).length + q) : ∃ a1, (if p = 0 then f_X2_labelAt (nI (ofS (sq x) r + p + 1)) aE else f_X2_labelAt (nI (ofS (sq x) r + p - 1)) aE).bind (fun z => f_X2_bring_139 NF (nI r) (nI (ofS (sq x) r + p)) z (nI (ofS (sq x) r + p)) (sL aE d z)) = (if nI (ids.length + 1) ≤ 8 then some (1, a1) else (f_X2_partBlock (nI r) (nI (ofS (sq x) r + (idl B1).length)) (nI (ofS (sq x) r + (idl B1).length + (ids.length + 1))) a1).bind (fun z48 => (if z48.1 = 0 then some (0, z48.2) else some (1, z48.2)))) ∧ Pre x r p d B1 lab ids B2 q a a1 := by
  obtain ⟨g1, g2⟩ := En_g hC hE
  obtain ⟨c1, hO1, c6, c7, c8, c9⟩ := CA_iff.mp hC
  obtain ⟨e1, e2, e3, e4, e5, e6⟩ := hE
  have hk' : 2 ≤ xk x r := by rw [hk]; exact nI_le (a := 2) hk2 (by omega)
  have hsq := BOk_sq hB
  obtain ⟨b1, b2, b3, b4, b5, b6, b7, b8⟩ := hB
  have hins : ins (sq x r) p d = idl B1 ++ (ins ids q d ++ idl B2) := by rw [hsq, hpe, ins_mid b2]
  have hpw := pw_le hw40
  have hdn : ∀ s, s < 8 → ∀ e ∈ sq x s, e ≠ d := fun s hs e he z => hd.2 s hs (z ▸ he)
  have hup := (ofS_up (S := sq x) (r := r) (l := ins (sq x r) p d) r).1 (Nat.le_refl _)
  have hle := o_le (S := va_up (sq x) r (ins (sq x r) p d)) hr
  have hS8 := S8 (d := d) hp hr h8
  rw [hup, va_up_self, ins_len hp] at hle
  have h0 : 0 < ids.length := List.length_pos_iff.mpr b4
  have hJl : (ins ids q d).length = ids.length + 1 := ins_len b2
  have hsl : (sq x r).length = (idl B1).length + (ids.length + (idl B2).length) := by rw [hsq, List.length_append, List.length_append]
  have hmids : ∀ e ∈ ids, e ∈ sq x r := fun e he => by rw [hsq]; simp [he]
  have hmb : (lab, ids) ∈ xb x r := by rw [b1]; simp
  have hlabs : labs (B1 ++ (lab, ins ids q d) :: B2) = labs (xb x r) := by rw [b1]; exact labs_mid
  -- the block with the newcomer
  have hCB : CB (sL aE d (lN lab)) (va_up (sq x) r (ins (sq x r) p d)) r (B1 ++ (lab, ins ids q d) :: B2) := by
    refine ⟨e1, hS8, hr, ?_, ?_, fun e he => ?_, fun b hb => ?_, fun b hb e he => ?_⟩
    · rw [va_up_self, hins, idl_app, idl_cons]
    · rw [va_up_self]; exact ins_nd (hI.2.2.1 r hr) (hd.2 r hr)
    · rw [va_up_self] at he
      rcases ins_mem.mp he with z | z
      · rw [z]; exact hd.1
      · exact sq_lt hI hr z
    · have hg : gl b.1 := Or.inl (by have := hL b.1 (by rw [← hlabs]; exact List.mem_map.mpr ⟨b, hb, rfl⟩); omega)
      refine ⟨?_, hg⟩
      rcases List.mem_append.mp hb with z | z
      · exact b8 b (by rw [b1]; exact List.mem_append_left _ z)
      · rcases List.mem_cons.mp z with z | z
        · subst z
          intro z2
          have z3 : ins ids q d = [] := z2
          rw [z3, List.length_nil] at hJl
          omega
        · exact b8 b (by rw [b1]; exact List.mem_append_right _ (List.mem_cons_of_mem _ z))
    · have hold : ∀ b' ∈ xb x r, ∀ e ∈ b'.2, (sL aE d (lN lab)).2.2.2.1 e = lN b'.1 := by
        intro b' hb' e he
        have hed := hdn r hr e (mem_idl hb' he)
        rw [sL_i hed, e5, pk_uLn hed]
        exact c6 r hr b' hb' e he
      rcases List.mem_append.mp hb with z | z
      · exact hold b (by rw [b1]; exact List.mem_append_left _ z) e he
      · rcases List.mem_cons.mp z with z | z
        · subst z
          rcases ins_mem.mp he with q1 | q1
          · rw [q1, sL_at]
          · exact hold (lab, ids) hmb e q1
        · exact hold b (by rw [b1]; exact List.mem_append_right _ (List.mem_cons_of_mem _ z)) e he
  have hps : psum (lens (B1 ++ (lab, ins ids q d) :: B2)) B1.length = (idl B1).length := psum_app _ _
  have hps1 : psum (lens (B1 ++ (lab, ins ids q d) :: B2)) (B1.length + 1) = (idl B1).length + (ids.length + 1) := by
    rw [psum_s2 (by rw [List.length_append, List.length_cons]; omega), hps, gD_mid, hJl]
  have hscan := c_scan (q := q) hCB (by rw [hlabs]; exact hs) (by rw [hlabs]; intro z hz; have := hL z hz; omega) (by omega) (nI (ofS (sq x) r + p)) (by rw [hup, hps, hpe, Nat.add_assoc])
  rw [hup, hps, hps1] at hscan
  have hAt : At (sL aE d (lN lab)) (ofS (sq x) r + (idl B1).length) (ins ids q d) := by
    have hA : At (sL aE d (lN lab)) (ofS (sq x) r) (idl B1 ++ (ins ids q d ++ idl B2)) := by
      rw [← hins]
      refine ⟨by rw [ins_len hp]; omega, ins_nd (hI.2.2.1 r hr) (hd.2 r hr), fun j hj => ?_, fun e he => ?_⟩
      · have := e1.2.1 r hr j (by rw [va_up_self]; exact hj)
        rw [hup, va_up_self] at this
        exact this
      · rcases ins_mem.mp he with z | z
        · rw [z]; exact hd.1
        · exact sq_lt hI hr z
    exact hA.app.2.app.1
  have hin : ∀ e ∈ ids, (sL aE d (lN lab)).2.2.1 6 e = nI (xi x e) ∧ xi x e < 256 := by
    intro e he
    have hed := hdn r hr e (hmids e he)
    refine ⟨?_, b7 e he⟩
    rw [sL_221, e4, pk_un hed]
    exact c7 r hr hk' e (hmids e he)
  obtain ⟨a1, w1, i1, i2, i3, i4, i5, i6, i7, i8⟩ := c_within (a := sL aE d (lN lab)) (r := r) (P := ofS (sq x) r + (idl B1).length) (q := q) (d := d) (ids := ids) (f := xi x) hr hAt b2 hin
  -- where its label comes from
  have hz : (if p = 0 then f_X2_labelAt (nI (ofS (sq x) r + p + 1)) aE else f_X2_labelAt (nI (ofS (sq x) r + p - 1)) aE) = some (lN lab) := by
    have hone : ∀ i, i < ids.length → aE.2.2.2.1 (ids.getD i 0) = lN lab := by
      intro i hi
      have hm := getD_mem hi
      rw [e5, pk_uLn (hdn r hr _ (hmids _ hm))]
      exact c6 r hr (lab, ids) hmb _ hm
    by_cases hp0 : p = 0
    · have hB1 : B1 = [] := by
        rcases b3 with z | z
        · omega
        · exact z
      have hq0 : q = 0 := by omega
      have hl := e1.2.1 r hr 1 (by rw [va_up_self, ins_len hp]; omega)
      rw [hup, va_up_self, ins_gt hp (by omega), hsq, hB1] at hl
      have hg : (idl [] ++ (ids ++ idl B2)).getD (1 - 1) 0 = ids.getD 0 0 := by
        have := gD_in (A := idl []) (J := ids) (C := idl B2) (i := 0) h0
        exact this
      rw [hg] at hl
      rw [if_pos hp0, hp0, Nat.add_zero, c_labelAt (by omega) hl (sq_lt hI hr (hmids _ (getD_mem h0))), hone 0 h0]
    · have hq0 : 0 < q := by
        rcases b3 with z | z
        · exact z
        · subst z
          have : (idl ([] : BL)).length = 0 := rfl
          omega
      have hl := e1.2.1 r hr (p - 1) (by rw [va_up_self, ins_len hp]; omega)
      rw [hup, va_up_self, ins_lt hp (by omega), hsq, show p - 1 = (idl B1).length + (q - 1) from by omega, gD_in (by omega)] at hl
      rw [if_neg hp0, show ofS (sq x) r + p - 1 = ofS (sq x) r + ((idl B1).length + (q - 1)) from by omega, c_labelAt (by omega) hl (sq_lt hI hr (hmids _ (getD_mem (by omega)))), hone _ (by omega)]
  have hSr : ∀ s, s < 8 → s ≠ r → ∀ e ∈ sq x s, e ∉ ins (sq x r) p d := by
    intro s hs8 hsr e he z
    rcases ins_mem.mp z with q1 | q1
    · exact hdn s hs8 e he q1
    · exact hI.2.2.2.1 r s hr hs8 (Ne.symm hsr) e q1 e he rfl
  have hJs : ∀ e, e ∈ ins ids q d → e ∈ ins (sq x r) p d := fun e he => by rw [hins]; simp [he]
  have hg4 : ∀ s, s < 8 → (sL aE d (lN lab)).2.2.1 4 s = xg x s := fun s hs8 => (g1 s hs8).2.2
  have hin1 : ∀ e ∈ ins (sq x r) p d, a1.2.2.1 6 e = nI (xi (xIn x r B1 lab ids B2 q d) e) := by
    intro e he
    rw [xIn_i, ← hJl]
    by_cases z : e ∈ ins ids q d
    · rw [i8 e z, asg_at z]
    · have hed : e ≠ d := fun w => z (ins_mem.mpr (Or.inl w))
      have hm : e ∈ sq x r := by
        rcases ins_mem.mp he with w | w
        · exact absurd w hed
        · exact w
      rw [i7 e z, asg_no z, sL_221, e4, pk_un hed]
      exact c7 r hr hk' e hm
  have hothers : ∀ s, s < 8 → s ≠ r → ∀ e ∈ sq x s, a1.2.2.2.1 e = a.2.2.2.1 e ∧ a1.2.2.1 6 e = a.2.2.1 6 e ∧ xi (xIn x r B1 lab ids B2 q d) e = xi x e := by
    intro s hs8 hsr e he
    have hed := hdn s hs8 e he
    have hnJ : e ∉ ins ids q d := fun z => hSr s hs8 hsr e he (hJs e z)
    refine ⟨by rw [i5, sL_i hed, e5, pk_uLn hed], by rw [i7 e hnJ, sL_221, e4, pk_un hed], ?_⟩
    rw [xIn_i, asg_no hnJ]
  have h21 : a1.2.2.1 2 = a.2.2.1 2 := by rw [i3 2 (by decide) (by decide), sL_221, e3 2 (by decide)]
  have h31 : a1.2.2.1 3 = a.2.2.1 3 := by rw [i3 3 (by decide) (by decide), sL_221, e3 3 (by decide)]
  obtain ⟨y1, y2, y3, y4, y5, y6, y7, y8⟩ := hCB
  refine ⟨a1, ?_, ⟨by rw [i1]; exact y1, y2, y3, y4, y5, y6, y7, by rw [i5]; exact y8⟩, fun m hm => by rw [i2]; exact e2 m hm, hin1, hothers, h21, h31, fun s hs8 => ?_, ?_⟩
  · rw [hz, Option.bind_some, hscan]
    unfold f_X2_bring_208
    rw [show ofS (sq x) r + p = ofS (sq x) r + (idl B1).length + q from by omega, ← Nat.add_assoc (ofS (sq x) r), w1, Option.bind_some, pk_sub (by omega), Nat.add_sub_cancel_left]
  · rw [i4, xIn_g]
    exact gupc hg4 s hs8
  · rw [i6, sL_2222, g2, xIn_r]
theorem c_bring_B1 (hC : CA a x) (hI : Inv T x) (hr : r < 8) {aE : SS} (hE : En x r p d a aE) (hp : p ≤ (sq x r).length) (hd : Out x d) (h8 : ofS (sq x) 8 < 600) {k w : Nat} (hk : xk x r = nI k) (hk4 : k < 4) (hk2 : 2 ≤ k) (hw : xw x r = nI w) (hw4 : 4 ≤ w) (hw40 : w ≤ 40) (hs : (labs (xb x r)).Pairwise (· < ·)) (hL : ∀ d ∈ labs (xb x r), d < 2 ^ w) {B1 B2 : BL} {lab q : Nat} {ids : List Nat} (hB : BOk x r B1 lab ids B2 q) (hpe : p = (idl B1).length + q) (h7 : ids.length < 8) : ∃ a', (if p = 0 then f_X2_labelAt (nI (ofS (sq x) r + p + 1)) aE else f_X2_labelAt (nI (ofS (sq x) r + p - 1)) aE).bind (fun z => f_X2_bring_139 NF (nI r) (nI (ofS (sq x) r + p)) z (nI (ofS (sq x) r + p)) (sL aE d z)) = some (1, a') ∧ CA a' (xMk (xIn x r B1 lab ids B2 q d) r (ahd x r p) d) := by
  obtain ⟨a1, g, hCB, hmk, hin, hoth, h2, h3, h4, h5⟩ := c_bring_pre hC hI hr hE hp hd h8 hk hk4 hk2 hw hw4 hw40 hs hL hB hpe
  have hS := sqI (d := d) hB hpe
  refine ⟨a1, by rw [g, if_pos (show nI (ids.length + 1) ≤ 8 from nI_le (b := 8) (by omega) (by omega))], ?_⟩
  refine CA_set (x' := xMk (xIn x r B1 lab ids B2 q d) r (ahd x r p) d) (r := r) hC rfl rfl h2 h3 h4 (fun s hsr => va_up_ne _ _ hsr) ?_ hoth ?_ (fun _ e he => ?_) (fun m hm => ?_) h5
  · show OR a1.1 (sq (xIn x r B1 lab ids B2 q d))
    rw [hS]; exact hCB.1
  · have hb' : xb (xMk (xIn x r B1 lab ids B2 q d) r (ahd x r p) d) r = B1 ++ (lab, ins ids q d) :: B2 := va_up_self _ _ _
    rw [hb']
    exact hCB.2.2.2.2.2.2.2
  · have he' : e ∈ sq (xIn x r B1 lab ids B2 q d) r := he
    rw [hS, va_up_self] at he'
    exact hin e he'
  · obtain ⟨n1, n2, n3⟩ := xMk_m (x := x) (x' := xIn x r B1 lab ids B2 q d) (r := r) (d := d) (b := ahd x r p) xIn_m m
    rw [n1, n2, n3]
    exact hmk m hm
theorem labP {y : XS} {r : Nat} {B1 B2 : BL} {lab : Nat} {J : List Nat} {R : List Nat × Nat} {g : Nat → Int64} (hRl : R.1.length = B1.length + (B2.length + 1) + 1) (h : ∀ i, i < (B1 ++ [(lab, J.take 5)] ++ (FRS, J.drop 5) :: B2).length → ∀ e ∈ ((B1 ++ [(lab, J.take 5)] ++ (FRS, J.drop 5) :: B2).getD i (0, [])).2, g e = lN (R.1.getD i 0)) : ∀ b ∈ xb (xPart y r B1 lab J B2 R) r, ∀ e ∈ b.2, g e = lN b.1 := by
  have e0 : B1 ++ [(lab, J.take 5)] ++ B2 = B1 ++ (lab, J.take 5) :: B2 := by rw [List.append_assoc]; rfl
  have e1 : (B1 ++ [(lab, J.take 5)]).length = B1.length + 1 := by rw [List.length_append]; rfl
  have hl := lab_nbl (B1 := B1 ++ [(lab, J.take 5)]) (B2 := B2) (l := FRS) (F := J.drop 5) (L := R.1) (g := g) (by rw [e0, hRl, List.length_append, List.length_cons]) h
  rw [e0, e1] at hl
  rw [xPart_b]
  exact hl
theorem inP {y : XS} {r : Nat} {B1 B2 : BL} {lab : Nat} {J : List Nat} {R : List Nat × Nat} {f : Nat → Int32} (hJ9 : J.length = 9) {e : Nat} (h : f e = nI (xi y e)) : asg (asg f (J.take 5) (fun i => nI (dl 0 8 5 i)) 5) (J.drop 5) (fun i => nI (dl 0 8 4 i)) 4 e = nI (xi (xPart y r B1 lab J B2 R) e) := by
  have hdr : (J.drop 5).length = 4 := by rw [List.length_drop, hJ9]
  have htk : (J.take 5).length = 5 := by rw [List.length_take, hJ9]; rfl
  rw [xPart_i hJ9]
  by_cases z4 : e ∈ J.drop 5
  · have q1 := asg_at (f := asg f (J.take 5) (fun i => nI (dl 0 8 5 i)) 5) (g := fun i => nI (dl 0 8 4 i)) z4
    have q2 := asg_at (f := asg (xi y) (J.take 5) (dl 0 8 5) 5) (g := dl 0 8 4) z4
    rw [hdr] at q1 q2
    rw [q1, q2]
  · rw [asg_no z4, asg_no z4]
    by_cases z5 : e ∈ J.take 5
    · have q1 := asg_at (f := f) (g := fun i => nI (dl 0 8 5 i)) z5
      have q2 := asg_at (f := xi y) (g := dl 0 8 5) z5
      rw [htk] at q1 q2
      rw [q1, q2]
    · rw [asg_no z5, asg_no z5, h]
theorem sqP {B1 B2 : BL} {lab q : Nat} {ids : List Nat} {R : List Nat × Nat} (hins : ins (sq x r) p d = idl B1 ++ (ins ids q d ++ idl B2)) (hRl : R.1.length = B1.length + (B2.length + 1) + 1) : sq (xPart (xIn x r B1 lab ids B2 q d) r B1 lab (ins ids q d) B2 R) = va_up (sq x) r (ins (sq x r) p d) := by
  funext s
  by_cases z : s = r
  · subst z
    rw [va_up_self, hins]
    unfold sq
    rw [xPart_b, pa1_idl (by omega)]
  · rw [va_up_ne _ _ z]
    unfold sq
    rw [xPart_bn z, xIn_bn z]
theorem xPart_k {y : XS} {r : Nat} {B1 B2 : BL} {lab : Nat} {J : List Nat} {R : List Nat × Nat} : xk (xPart y r B1 lab J B2 R) = xk y ∧ xw (xPart y r B1 lab J B2 R) = xw y ∧ xm (xPart y r B1 lab J B2 R) = xm y := ⟨rfl, rfl, rfl⟩
theorem c_bring_B2 (hC : CA a x) (hI : Inv T x) (hr : r < 8) {aE : SS} (hE : En x r p d a aE) (hp : p ≤ (sq x r).length) (hd : Out x d) (h8 : ofS (sq x) 8 < 600) {k w : Nat} (hk : xk x r = nI k) (hk4 : k < 4) (hk2 : 2 ≤ k) (hw : xw x r = nI w) (hw4 : 4 ≤ w) (hw40 : w ≤ 40) (hs : (labs (xb x r)).Pairwise (· < ·)) (hL : ∀ d ∈ labs (xb x r), d < 2 ^ w) {B1 B2 : BL} {lab q : Nat} {ids : List Nat} (hB : BOk x r B1 lab ids B2 q) (hpe : p = (idl B1).length + q) (h7 : ids.length = 8) :
    (plc false w (labs (xb x r)) (B1.length + 1) = none → ∃ a', (if p = 0 then f_X2_labelAt (nI (ofS (sq x) r + p + 1)) aE else f_X2_labelAt (nI (ofS (sq x) r + p - 1)) aE).bind (fun z => f_X2_bring_139 NF (nI r) (nI (ofS (sq x) r + p)) z (nI (ofS (sq x) r + p)) (sL aE d z)) = some (0, a')) ∧
    ∀ R, plc false w (labs (xb x r)) (B1.length + 1) = some R → ∃ a', (if p = 0 then f_X2_labelAt (nI (ofS (sq x) r + p + 1)) aE else f_X2_labelAt (nI (ofS (sq x) r + p - 1)) aE).bind (fun z => f_X2_bring_139 NF (nI r) (nI (ofS (sq x) r + p)) z (nI (ofS (sq x) r + p)) (sL aE d z)) = some (1, a') ∧ CA a' (xMk (xPart (xIn x r B1 lab ids B2 q d) r B1 lab (ins ids q d) B2 R) r (ahd x r p) d) := by
  obtain ⟨a1, g, hCB, hmk, hin, hoth, h2, h3, h4, h5⟩ := c_bring_pre hC hI hr hE hp hd h8 hk hk4 hk2 hw hw4 hw40 hs hL hB hpe
  have c1 := (CA_iff.mp hC).1
  have hsq := BOk_sq hB
  obtain ⟨b1, b2, b3, b4, b5, b6, b7, b8⟩ := id hB
  have hJ9 : (ins ids q d).length = 9 := by rw [ins_len b2, h7]
  have hlabs : labs (B1 ++ (lab, ins ids q d) :: B2) = labs (xb x r) := by rw [b1]; exact labs_mid
  have hup := (ofS_up (S := sq x) (r := r) (l := ins (sq x r) p d) r).1 (Nat.le_refl _)
  have hins : ins (sq x r) p d = idl B1 ++ (ins ids q d ++ idl B2) := by rw [hsq, hpe, ins_mid b2]
  obtain ⟨p1, p2⟩ := c_part (a := a1) (k := k) hCB hJ9 (by rw [hlabs]; exact hs) (by rw [hlabs]; exact hL) (by rw [h3, ← hw]; exact (c1 r hr).2.1) hw4 hw40 (by rw [h2, ← hk]; exact (c1 r hr).1) hk4 hk2
  rw [hup, hlabs] at p1 p2
  rw [if_neg (show ¬ nI (ids.length + 1) ≤ 8 from nI_ge (a := 8) (by omega) (by omega)), show ofS (sq x) r + (idl B1).length + (ids.length + 1) = ofS (sq x) r + (idl B1).length + 9 from by omega] at g
  rw [g]
  refine ⟨fun h => ?_, fun R h => ?_⟩
  · obtain ⟨a2, e⟩ := p1 h
    exact ⟨a2, by rw [e, Option.bind_some, if_pos rfl]⟩
  · obtain ⟨a2, e, r1, r2, r3, r4, r5, r6, r7, r8⟩ := p2 R h
    obtain ⟨-, -, hRl⟩ := plc_ok (by omega) hs hL (by rw [labs_len, b1, List.length_append, List.length_cons]; omega) h
    rw [labs_len, b1, List.length_append, List.length_cons] at hRl
    refine ⟨a2, by rw [e, Option.bind_some, if_neg (show ¬ (1 : Int32) = 0 by decide)], ?_⟩
    have hdr : ((ins ids q d).drop 5).length = 4 := by rw [List.length_drop, hJ9]
    have htk : ((ins ids q d).take 5).length = 5 := by rw [List.length_take, hJ9]; rfl
    have hsqP := sqP (x := x) (r := r) (p := p) (d := d) (lab := lab) (R := R) hins hRl
    have hJs : ∀ e, e ∈ ins ids q d → e ∈ ins (sq x r) p d := fun e he => by rw [hins]; simp [he]
    have h5s : ∀ e, e ∈ (ins ids q d).take 5 → e ∈ ins (sq x r) p d := fun e he => hJs e (List.mem_of_mem_take he)
    have h4s : ∀ e, e ∈ (ins ids q d).drop 5 → e ∈ ins (sq x r) p d := fun e he => hJs e (List.mem_of_mem_drop he)
    have hkP := xPart_k (y := xIn x r B1 lab ids B2 q d) (r := r) (B1 := B1) (B2 := B2) (lab := lab) (J := ins ids q d) (R := R)
    have hkI := xIn_k (x := x) (r := r) (d := d) (B1 := B1) (B2 := B2) (lab := lab) (q := q) (ids := ids)
    have hmI := xIn_m (x := x) (r := r) (d := d) (B1 := B1) (B2 := B2) (lab := lab) (q := q) (ids := ids)
    have hgP := xPart_g (y := xIn x r B1 lab ids B2 q d) (r := r) (B1 := B1) (B2 := B2) (lab := lab) (R := R) hJ9
    have hrP := xPart_r (y := xIn x r B1 lab ids B2 q d) (r := r) (B1 := B1) (B2 := B2) (lab := lab) (R := R) hJ9
    have hiP := xPart_i (y := xIn x r B1 lab ids B2 q d) (r := r) (B1 := B1) (B2 := B2) (lab := lab) (R := R) hJ9
    have hbP : ∀ s, s ≠ r → xb (xPart (xIn x r B1 lab ids B2 q d) r B1 lab (ins ids q d) B2 R) s = xb x s := fun s hsr => by rw [xPart_bn hsr, xIn_bn hsr]
    have hlP := labP (y := xIn x r B1 lab ids B2 q d) (r := r) (B1 := B1) (B2 := B2) (lab := lab) (J := ins ids q d) (R := R) (g := a2.2.2.2.1) hRl r7
    have hnP : ∀ e, e ∈ ins (sq x r) p d → a2.2.2.1 6 e = nI (xi (xPart (xIn x r B1 lab ids B2 q d) r B1 lab (ins ids q d) B2 R) e) := fun e he => by rw [r8]; exact inP hJ9 (hin e he)
    generalize hP : xPart (xIn x r B1 lab ids B2 q d) r B1 lab (ins ids q d) B2 R = P at *
    refine CA_set (x' := xMk P r (ahd x r p) d) (r := r) hC (by rw [xMk_k, hkP.1, hkI.1]) (by rw [xMk_w, hkP.2.1, hkI.2]) (by rw [r3 2 (by decide) (by decide), h2]) (by rw [r3 3 (by decide) (by decide), h3]) (fun s hs8 => ?_) (fun s hsr => ?_) ?_ (fun s hs8 hsr e he => ?_) ?_ (fun _ e he => ?_) (fun m hm => ?_) ?_
    · rw [xMk_g, hgP, r4]
      exact gupc (gupc (gupc h4)) s hs8
    · rw [xMk_b, hbP s hsr]
    · rw [xMk_sq, hsqP, r1]; exact hCB.1
    · obtain ⟨o1, o2, o3⟩ := hoth s hs8 hsr e he
      have hn1 : e ∉ ins (sq x r) p d := by
        intro z
        rcases ins_mem.mp z with q1 | q1
        · exact hd.2 s hs8 (q1 ▸ he)
        · exact hI.2.2.2.1 r s hr hs8 (Ne.symm hsr) e q1 e he rfl
      refine ⟨?_, ?_, ?_⟩
      · rw [r6 e (by rw [va_up_self]; exact hn1), o1]
      · rw [r8, asg_no (fun z => hn1 (h4s e z)), asg_no (fun z => hn1 (h5s e z)), o2]
      · rw [xMk_i, hiP, asg_no (fun z => hn1 (h4s e z)), asg_no (fun z => hn1 (h5s e z)), o3]
    · rw [xMk_b]
      exact hlP
    · rw [xMk_sq, hsqP, va_up_self] at he
      rw [xMk_i]
      exact hnP e he
    · obtain ⟨n1, n2, n3⟩ := xMk_m (x := x) (x' := P) (r := r) (d := d) (b := ahd x r p) (by rw [hkP.2.2, hmI]) m
      rw [r2, n1, n2, n3]
      exact hmk m hm
    · rw [xMk_r, hrP, r5, h5]
theorem c_bring (hC : CA a x) (hI : Inv T x) (hr : r < 8) (hp : p ≤ (sq x r).length) (hd : Out x d) (hx : ∀ s, s < 8 → s ≠ r → ∀ e ∈ sq x s, e / 2 ≠ d / 2) (h8 : ofS (sq x) 8 < 600) {o : Option XS} (hCm : Cm x r p d o) :
    (o = none → ∃ a', f_X2_bring (nI r) (nI (ofS (sq x) r + p)) (nI d) a = some (0, a')) ∧ ∀ x', o = some x' → ∃ a', f_X2_bring (nI r) (nI (ofS (sq x) r + p)) (nI d) a = some (1, a') ∧ CA a' (xMk x' r (ahd x r p) d) := by
  obtain ⟨k, w, ek, k4, ew, w4, w40, hs, hL, hCm⟩ := hCm
  obtain ⟨aE, hE, hg⟩ := c_enter hC hI hr ek k4 hp hd hx h8
  have hne := bl_ne hI hr
  rw [hg]
  rcases hCm with ⟨hk2, h1, ho⟩ | ⟨hk2, hB0, hp0, ho⟩ | ⟨hk2, B1, lab, ids, B2, q, hBO, hpe, hc⟩
  · rw [if_pos (Or.inl hk2)]
    have hl : (sq x r).length = (xb x r).length := one_len h1
    have hsp : xb x r = (xb x r).take p ++ (xb x r).drop p := (List.take_append_drop _ _).symm
    have htl : ((xb x r).take p).length = p := by rw [List.length_take]; omega
    have hil : (idl ((xb x r).take p)).length = p := by rw [one_len (fun b hb => h1 b (List.mem_of_mem_take hb)), htl]
    obtain ⟨f1, f2⟩ := c_fr (f := xi x) hC hI hr hE hp hd h8 ek k4 ew w4 w40 hsp hil hs hL hne (fun _ => h1) (fun _ _ => rfl) (fun z => absurd z (by omega))
    rw [htl] at f1 f2
    cases hpl : plc (k == 0) w (labs (xb x r)) p with
    | none =>
      rw [hpl] at ho
      exact ⟨fun _ => f1 hpl, fun x' e => (by rw [ho] at e; cases e)⟩
    | some R =>
      rw [hpl] at ho
      refine ⟨fun e => (by rw [ho] at e; cases e), fun x' e => ?_⟩
      rw [ho] at e
      cases e
      exact f2 R hpl
  · have hsq0 : (sq x r).length = 0 := by unfold sq; rw [hB0]; rfl
    rw [if_pos (Or.inr hsq0)]
    have hkb : (k == 0) = false := by
      have : k ≠ 0 := by omega
      simpa using this
    obtain ⟨f1, f2⟩ := c_fr (B1 := []) (B2 := []) (f := va_up (xi x) d 128) hC hI hr hE hp hd h8 ek k4 ew w4 w40 hB0 hp0.symm hs hL hne (fun z => absurd z (by omega)) (fun e he => va_up_ne _ _ he) (fun _ => va_up_self _ _ _)
    rw [hkb, hB0] at f1 f2
    cases hpl : plc false w [] 0 with
    | none =>
      rw [hpl] at ho
      exact ⟨fun _ => f1 hpl, fun x' e => (by rw [ho] at e; cases e)⟩
    | some R =>
      rw [hpl] at ho
      refine ⟨fun e => (by rw [ho] at e; cases e), fun x' e => ?_⟩
      rw [ho] at e
      cases e
      exact f2 R hpl
  · have hsq := BOk_sq hBO
    have h0 : 0 < ids.length := List.length_pos_iff.mpr hBO.2.2.2.1
    have hsl : (sq x r).length = (idl B1).length + (ids.length + (idl B2).length) := by rw [hsq, List.length_append, List.length_append]
    rw [if_neg (by omega)]
    rcases hc with ⟨h7, ho⟩ | ⟨h7, ho⟩
    · refine ⟨fun e => (by rw [ho] at e; cases e), fun x' e => ?_⟩
      rw [ho] at e
      cases e
      exact c_bring_B1 hC hI hr hE hp hd h8 ek k4 hk2 ew w4 w40 hs hL hBO hpe h7
    · obtain ⟨f3, f4⟩ := c_bring_B2 hC hI hr hE hp hd h8 ek k4 hk2 ew w4 w40 hs hL hBO hpe h7
      cases hpl : plc false w (labs (xb x r)) (B1.length + 1) with
      | none =>
        rw [hpl] at ho
        exact ⟨fun _ => f3 hpl, fun x' e => (by rw [ho] at e; cases e)⟩
      | some R =>
        rw [hpl] at ho
        refine ⟨fun e => (by rw [ho] at e; cases e), fun x' e => ?_⟩
        rw [ho] at e
        cases e
        exact f4 R hpl
end BRW
