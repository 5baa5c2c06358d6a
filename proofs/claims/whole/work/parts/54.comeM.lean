/-! ===== the model: a block is parted; come ===== -/
theorem RwL_xBlk {x : XS} {r : Nat} {B : BL} {f : Nat → Nat} {c : Nat} {y : Int32} (h : RwL x) (h1 : (idl B).length ≤ 600) (h2 : B.length ≤ 600) : RwL (xBlk x r B f c y) := by
  intro s hs
  have e : xb (xBlk x r B f c y) = va_up (xb x) r B := rfl
  rw [e]
  by_cases q : s = r
  · subst q; rw [va_up_self]; exact ⟨h1, h2⟩
  · rw [va_up_ne _ _ q]; exact h s hs
theorem xBlk_sq {x : XS} {r : Nat} {B : BL} {f : Nat → Nat} {c : Nat} {y : Int32} : sq (xBlk x r B f c y) r = idl B := by
  unfold sq
  have e : xb (xBlk x r B f c y) = va_up (xb x) r B := rfl
  rw [e, va_up_self]
theorem xBlk_sq_ne {x : XS} {r s : Nat} {B : BL} {f : Nat → Nat} {c : Nat} {y : Int32} (h : s ≠ r) : sq (xBlk x r B f c y) s = sq x s := by
  unfold sq
  have e : xb (xBlk x r B f c y) = va_up (xb x) r B := rfl
  rw [e, va_up_ne _ _ h]
theorem xBlk_b {x : XS} {r : Nat} {B : BL} {f : Nat → Nat} {c : Nat} {y : Int32} : xb (xBlk x r B f c y) r = B := va_up_self _ _ _
/-- those who stand are apart -/
def Dj (x : XS) (r : Nat) : Prop := (sq x r).Nodup ∧ (∀ d ∈ sq x r, d < 600) ∧ ∀ s, s < 8 → s ≠ r → ∀ d ∈ sq x s, d ∉ sq x r
theorem p_deal_row {v : MS} {y : XS} {r : Nat} {A ids C : List Nat} (hM : MA (core v) y) (hR : RwL y) (hr : r < 8) (hk : 2 ≤ xk y r) (hD : Dj y r) (hs : sq y r = A ++ (ids ++ C)) (h0 : 0 < ids.length) : ∃ v', f_X4_dealInner (nI r) (nI A.length) (nI ids.length) v = some v' ∧ Fm [15, 22] [5, 11] [21] v v' ∧ MA (core v') (xBlk y r (xb y r) (asg (xi y) ids (dl 0 8 ids.length) ids.length) ids.length (nI ids.length)) := by
  have hl : (sq y r).length ≤ 600 := (hR r hr).1
  rw [hs, List.length_append, List.length_append] at hl
  have hsub : ∀ d ∈ ids, d ∈ sq y r := fun d hd => by rw [hs]; simp [hd]
  have hn : ids.Nodup := by
    have := hD.1
    rw [hs] at this
    exact (List.nodup_append.mp (List.nodup_append.mp this).2.1).1
  obtain ⟨v', g, f, h11, h15, h5⟩ := p_dealInner (v := v) (r := r) (ids := ids) (F := A.length) hr (by omega) h0 hn (fun i hi => by
    have := hM.2.2.1 r hr (A.length + i) (by rw [hs, List.length_append, List.length_append]; omega)
    rw [hs, gD_in hi] at this
    rw [Nat.add_assoc]; exact this) (fun d hd => hD.2.1 d (hsub d hd))
  refine ⟨v', g, f, MA_xBlk hM hR hr h5 h15 ?_ ?_ ?_ ?_ ?_ ?_ ?_ ?_ ?_⟩
  · intro s hs8 hsr d hd
    have hnd : d ∉ ids := fun z => hD.2.2 s hs8 hsr d hd (hsub d z)
    exact ⟨by rw [f.2.2 10 (by decide)], by rw [h11, asg_no hnd], asg_no hnd⟩
  · exact ⟨f.2.1 2 (by decide), f.2.1 3 (by decide), f.2.1 12 (by decide), f.2.1 13 (by decide), f.2.1 14 (by decide)⟩
  · exact fun s _ => ⟨by rw [f.2.1 4 (by decide)], by rw [f.2.1 6 (by decide)]⟩
  · exact fun j _ => ⟨by rw [f.2.1 7 (by decide)], by rw [f.2.1 8 (by decide)], by rw [f.2.2 9 (by decide)]⟩
  · rw [f.2.1 4 (by decide)]; exact hM.2.1 r hr
  · intro i hi
    rw [f.2.1 7 (by decide)]; exact hM.2.2.1 r hr i hi
  · exact fun z => absurd hk z
  · intro _
    rw [f.2.1 6 (by decide), f.2.1 8 (by decide), f.2.2 9 (by decide)]
    exact hM.2.2.2.2.1 r hr hk
  · intro _ d hd
    rw [h11]
    by_cases e : d ∈ ids
    · rw [asg_at e, asg_at e]
    · rw [asg_no e, asg_no e]
      exact hM.2.2.2.2.2.1 r hr hk d hd
def xPa1 (x : XS) (r : Nat) (B1 : BL) (lab : Nat) (J : List Nat) (B2 : BL) (R : List Nat × Nat) : XS := xBlk x r (nbl (B1 ++ (lab, J.take 5) :: B2) (B1.length + 1) (J.drop 5) R.1) (xi x) R.2 (nI (R.2 - 1))
def xDl (x : XS) (r : Nat) (ids : List Nat) : XS := xBlk x r (xb x r) (asg (xi x) ids (dl 0 8 ids.length) ids.length) ids.length (nI ids.length)
/-- a block of nine is parted -/
def xPart (x : XS) (r : Nat) (B1 : BL) (lab : Nat) (J : List Nat) (B2 : BL) (R : List Nat × Nat) : XS := xDl (xDl (xPa1 x r B1 lab J B2 R) r (J.take 5)) r (J.drop 5)
theorem lens_mid {B1 B2 : BL} {lab : Nat} {J K : List Nat} {i : Nat} (h : i ≠ B1.length) : (lens (B1 ++ (lab, J) :: B2)).getD i 0 = (lens (B1 ++ (lab, K) :: B2)).getD i 0 := by
  unfold lens
  rw [List.map_append, List.map_append, List.map_cons, List.map_cons]
  have e : (B1.map (fun b => b.2.length)).length = B1.length := List.length_map _
  exact gD_mid_ne (by omega)
theorem lens_at {B1 B2 : BL} {lab : Nat} {J : List Nat} : (lens (B1 ++ (lab, J) :: B2)).getD B1.length 0 = J.length := by
  rw [lens_gD (by rw [List.length_append, List.length_cons]; omega), gD_mid]
theorem nbl_lens {B : BL} {p : Nat} {ids L : List Nat} (hp : p ≤ B.length) (hL : L.length = B.length + 1) : lens (nbl B p ids L) = ins (lens B) p ids.length := by
  have e : ∀ C : BL, lens C = (idss C).map List.length := by
    intro C
    unfold lens idss
    rw [List.map_map]
    rfl
  rw [e, e, nbl_idss hp hL]
  unfold ins
  rw [List.map_append, List.map_cons, List.map_take, List.map_drop]
theorem labs_mid {B1 B2 : BL} {lab : Nat} {J K : List Nat} : labs (B1 ++ (lab, J) :: B2) = labs (B1 ++ (lab, K) :: B2) := by
  unfold labs
  rw [List.map_append, List.map_append, List.map_cons, List.map_cons]
theorem pa1_idl {B1 B2 : BL} {lab : Nat} {J L : List Nat} (hL : L.length = B1.length + 1 + B2.length + 1) : idl (nbl (B1 ++ (lab, J.take 5) :: B2) (B1.length + 1) (J.drop 5) L) = idl B1 ++ (J ++ idl B2) := by
  have hlen : (B1 ++ (lab, J.take 5) :: B2).length = B1.length + 1 + B2.length := by rw [List.length_append, List.length_cons]; omega
  rw [nbl_idl (by omega) (by rw [hlen, hL])]
  unfold idss
  rw [List.map_append, List.map_cons]
  have e1 : (B1.map Prod.snd).length = B1.length := List.length_map _
  rw [List.take_append, List.drop_append, e1, List.take_of_length_le (l := B1.map Prod.snd) (by omega), List.drop_of_length_le (l := B1.map Prod.snd) (by omega), Nat.add_sub_cancel_left]
  simp only [List.take_succ_cons, List.take_zero, List.drop_succ_cons, List.drop_zero, List.nil_append, List.flatten_append, List.flatten_cons, List.flatten_nil, List.append_nil]
  rw [List.append_assoc, ← List.append_assoc (J.take 5), List.take_append_drop]
  rfl
theorem p_part {v : MS} {x : XS} {r w : Nat} {B1 B2 : BL} {lab : Nat} {J : List Nat} (hM : MA (core v) x) (hR : RwL x) (hr : r < 8) (hk : 2 ≤ xk x r) (hD : Dj x r) (hb : xb x r = B1 ++ (lab, J) :: B2) (hJ : J.length = 9) (hne : ∀ b ∈ xb x r, b.2 ≠ []) (hw : xw x r = nI w) (hw0 : 0 < w) (hw4 : w ≤ 40) (hs : (labs (xb x r)).Pairwise (· < ·)) (hL : ∀ d ∈ labs (xb x r), d < 2 ^ w) :
    (plc false w (labs (xb x r)) (B1.length + 1) = none → ∃ v', f_X4_newBlock (nI r) (nI (B1.length + 1)) 4 v = some (0, v') ∧ Fm [22] [] [21] v v') ∧ ∀ R, plc false w (labs (xb x r)) (B1.length + 1) = some R → ∃ v1 v2 v3, f_X4_newBlock (nI r) (nI (B1.length + 1)) 4 v = some (1, v1) ∧ f_X4_dealInner (nI r) (nI (idl B1).length) 5 (mA v1 8 (600 * r + B1.length) 5) = some v2 ∧ f_X4_dealInner (nI r) (nI ((idl B1).length + 5)) 4 v2 = some v3 ∧ Fm [15, 22] [5, 6, 8, 11] [9, 21] v v3 ∧ MA (core v3) (xPart x r B1 lab J B2 R) := by
  have hBK := BK_of hM hr hk
  have hsq : sq x r = idl B1 ++ (J ++ idl B2) := by unfold sq; rw [hb, idl_app, idl_cons]
  have hl6 := hR r hr
  have hblen : (xb x r).length = B1.length + 1 + B2.length := by rw [hb, List.length_append, List.length_cons]; omega
  have hlt : (xb x r).length < 600 := by
    have h1 : (idl (xb x r)).length = (idl B1).length + (9 + (idl B2).length) := by
      have : idl (xb x r) = idl B1 ++ (J ++ idl B2) := hsq
      rw [this, List.length_append, List.length_append, hJ]
    have h2 := bl_len2 (B := B1) (fun b h => hne b (by rw [hb]; simp [h]))
    have h3 := bl_len2 (B := B2) (fun b h => hne b (by rw [hb]; simp [h]))
    omega
  have e3 : v.2.1 3 r = nI w := by rw [← hw]; exact (hM.1 r hr).2.1
  obtain ⟨n1, n2⟩ := p_newBlock (v := v) (p := B1.length + 1) (q := 4) hr hBK e3 hw0 hw4 (by rw [lens_len]; omega) (by rw [lens_len]; omega) hs hL
  refine ⟨fun h => n1 h, fun R h => ?_⟩
  obtain ⟨v1, g1, f1, k1, k15, k5, k6, k8⟩ := n2 R h
  obtain ⟨-, -, hRl⟩ := plc_ok hw0 hs hL (by rw [labs_len]; omega) h
  rw [labs_len] at hRl
  have hBl : (B1 ++ (lab, J.take 5) :: B2).length = (xb x r).length := by rw [hb, List.length_append, List.length_append]; rfl
  have hidl := pa1_idl (B1 := B1) (B2 := B2) (lab := lab) (J := J) (L := R.1) (by omega)
  have hn' : (nbl (B1 ++ (lab, J.take 5) :: B2) (B1.length + 1) (J.drop 5) R.1).length = (xb x r).length + 1 := by rw [nbl_len (by omega) (by omega), hBl]
  have hM1 : MA (core (mA v1 8 (600 * r + B1.length) 5)) (xPa1 x r B1 lab J B2 R) := by
    refine MA_xBlk hM hR hr ?_ ?_ ?_ ?_ ?_ ?_ ?_ ?_ ?_ ?_ ?_
    · rw [mA_k (by decide), k5]
    · exact k15
    · intro s _ _ d _
      exact ⟨by rw [mA_22, f1.2.2 10 (by decide)], by rw [mA_k (by decide), f1.2.1 11 (by decide)], rfl⟩
    · exact ⟨by rw [mA_k (by decide), f1.2.1 2 (by decide)], by rw [mA_k (by decide), f1.2.1 3 (by decide)], by rw [mA_k (by decide), f1.2.1 12 (by decide)], by rw [mA_k (by decide), f1.2.1 13 (by decide)], by rw [mA_k (by decide), f1.2.1 14 (by decide)]⟩
    · exact fun s hs => ⟨by rw [mA_k (by decide), f1.2.1 4 (by decide)], by rw [mA_k (by decide), k6 s hs]⟩
    · intro j hj
      exact ⟨by rw [mA_k (by decide), f1.2.1 7 (by decide)], by rw [mA_i (by omega), (k8 j hj).1], by rw [mA_22, (k8 j hj).2]⟩
    · rw [hidl, ← hsq, mA_k (by decide), f1.2.1 4 (by decide)]; exact hM.2.1 r hr
    · intro i hi
      rw [hidl, ← hsq] at hi ⊢
      rw [mA_k (by decide), f1.2.1 7 (by decide)]; exact hM.2.2.1 r hr i hi
    · exact fun z => absurd hk z
    · intro _
      have c1 := k1.1
      rw [ins_len (by rw [lens_len]; omega), lens_len] at c1
      refine ⟨by rw [mA_k (by decide), c1, hn'], fun q hq => ?_⟩
      rw [hn'] at hq
      have c3 := k1.2.2.1 q (by rw [ins_len (by rw [lens_len]; omega), lens_len]; omega)
      have c4 := k1.2.2.2 q (by rw [ins_len (by rw [lens_len]; omega), lens_len]; omega)
      rw [← lens_gD (by omega), ← labs_gD (by omega), nbl_labs (by omega) (by omega), nbl_lens (by omega) (by omega)]
      refine ⟨?_, by rw [mA_22]; exact c4⟩
      have hdr : (J.drop 5).length = 4 := by rw [List.length_drop, hJ]
      have htk : (J.take 5).length = 5 := by rw [List.length_take, hJ]; rfl
      rw [hdr]
      by_cases e : q = B1.length
      · subst e
        rw [mA_at, ins_lt (by rw [lens_len]; omega) (by omega), lens_at, htk]
        rfl
      · rw [mA_i (by omega), c3, hb]
        rcases Nat.lt_trichotomy q (B1.length + 1) with z | z | z
        · rw [ins_lt (by rw [lens_len, ← hb]; omega) z, ins_lt (by rw [lens_len, hBl]; omega) z, lens_mid e]
        · subst z
          rw [ins_at (by rw [lens_len, ← hb]; omega), ins_at (by rw [lens_len, hBl]; omega)]
        · rw [ins_gt (by rw [lens_len, ← hb]; omega) z, ins_gt (by rw [lens_len, hBl]; omega) z, lens_mid (K := J.take 5) (show q - 1 ≠ B1.length by omega)]
    · intro _ d hd
      rw [hidl, ← hsq] at hd
      rw [mA_k (by decide), f1.2.1 11 (by decide)]
      exact hM.2.2.2.2.2.1 r hr hk d hd
  have hR1 : RwL (xPa1 x r B1 lab J B2 R) := RwL_xBlk hR (by rw [hidl, ← hsq]; exact hl6.1) (by omega)
  have sq1 : sq (xPa1 x r B1 lab J B2 R) r = sq x r := by unfold xPa1; rw [xBlk_sq, hidl, ← hsq]
  have hD1 : Dj (xPa1 x r B1 lab J B2 R) r := by
    refine ⟨by rw [sq1]; exact hD.1, by rw [sq1]; exact hD.2.1, fun s hs8 hsr d hd => ?_⟩
    rw [sq1]
    have : sq (xPa1 x r B1 lab J B2 R) s = sq x s := xBlk_sq_ne hsr
    rw [this] at hd
    exact hD.2.2 s hs8 hsr d hd
  have hdr : (J.drop 5).length = 4 := by rw [List.length_drop, hJ]
  have htk : (J.take 5).length = 5 := by rw [List.length_take, hJ]; rfl
  have hJJ : J = J.take 5 ++ J.drop 5 := (List.take_append_drop 5 J).symm
  obtain ⟨v2, g2, f2, hM2⟩ := p_deal_row (A := idl B1) (ids := J.take 5) (C := J.drop 5 ++ idl B2) hM1 hR1 hr hk hD1 (by rw [sq1, hsq, ← List.append_assoc (J.take 5), ← hJJ]) (by omega)
  rw [htk] at g2
  have hM2' : MA (core v2) (xDl (xPa1 x r B1 lab J B2 R) r (J.take 5)) := hM2
  have b1' : xb (xPa1 x r B1 lab J B2 R) r = nbl (B1 ++ (lab, J.take 5) :: B2) (B1.length + 1) (J.drop 5) R.1 := xBlk_b
  have hR2 : RwL (xDl (xPa1 x r B1 lab J B2 R) r (J.take 5)) := RwL_xBlk hR1 (by rw [b1', hidl, ← hsq]; exact hl6.1) (by rw [b1']; omega)
  have sq2 : sq (xDl (xPa1 x r B1 lab J B2 R) r (J.take 5)) r = sq x r := by unfold xDl; rw [xBlk_sq, b1', hidl, ← hsq]
  have hD2 : Dj (xDl (xPa1 x r B1 lab J B2 R) r (J.take 5)) r := by
    refine ⟨by rw [sq2]; exact hD.1, by rw [sq2]; exact hD.2.1, fun s hs8 hsr d hd => ?_⟩
    rw [sq2]
    have : sq (xDl (xPa1 x r B1 lab J B2 R) r (J.take 5)) s = sq x s := (xBlk_sq_ne hsr).trans (xBlk_sq_ne hsr)
    rw [this] at hd
    exact hD.2.2 s hs8 hsr d hd
  obtain ⟨v3, g3, f3, hM3⟩ := p_deal_row (v := v2) (A := idl B1 ++ J.take 5) (ids := J.drop 5) (C := idl B2) hM2' hR2 hr hk hD2 (by rw [sq2, hsq, List.append_assoc, ← List.append_assoc (J.take 5), ← hJJ]) (by omega)
  rw [hdr, List.length_append, htk] at g3
  refine ⟨v1, v2, v3, g1, g2, g3, ?_, hM3⟩
  exact ((((f1.up (by decide) (by decide) (by decide)).pA (by decide)).tr (f2.up (by decide) (by decide) (by decide)))).tr (f3.up (by decide) (by decide) (by decide))
