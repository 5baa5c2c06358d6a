/-! ===== the model: comeToBlock ===== -/
def lens (B : BL) : List Nat := B.map (fun b => b.2.length)
theorem lens_len {B : BL} : (lens B).length = B.length := List.length_map _
theorem lens_gD {B : BL} {i : Nat} (h : i < B.length) : (lens B).getD i 0 = (B.getD i (0, [])).2.length := by
  rw [gD (by rw [lens_len]; exact h), gD h]
  unfold lens
  rw [List.getElem_map]
theorem sum_lens (B : BL) : (lens B).sum = (idl B).length := by
  induction B with
  | nil => rfl
  | cons b B ih =>
    rw [idl_cons, List.length_append, ← ih]
    rfl
theorem psum_app (B1 C : BL) : psum (lens (B1 ++ C)) B1.length = (idl B1).length := by
  unfold psum lens
  rw [List.map_append, List.take_append_of_le_length (by rw [List.length_map]; exact Nat.le_refl _), List.take_of_length_le (by rw [List.length_map]; exact Nat.le_refl _)]
  exact sum_lens B1
theorem gD_mid {α : Type} {l1 l2 : List α} {y d : α} : (l1 ++ y :: l2).getD l1.length d = y := by
  rw [List.getD_eq_getElem?_getD, List.getElem?_append_right (Nat.le_refl _), Nat.sub_self]
  rfl
theorem gD_mid_ne {α : Type} {l1 l2 : List α} {y z d : α} {i : Nat} (h : i ≠ l1.length) : (l1 ++ y :: l2).getD i d = (l1 ++ z :: l2).getD i d := by
  rw [List.getD_eq_getElem?_getD, List.getD_eq_getElem?_getD]
  rcases Nat.lt_or_ge i l1.length with q | q
  · rw [List.getElem?_append_left q, List.getElem?_append_left q]
  · rw [List.getElem?_append_right q, List.getElem?_append_right q]
    obtain ⟨k, e⟩ : ∃ k, i - l1.length = k + 1 := ⟨i - l1.length - 1, by omega⟩
    rw [e, List.getElem?_cons_succ, List.getElem?_cons_succ]
theorem ins_mid {A J C : List Nat} {q d : Nat} (hq : q ≤ J.length) : ins (A ++ (J ++ C)) (A.length + q) d = A ++ (ins J q d ++ C) := by
  unfold ins
  rw [List.take_append, List.drop_append, List.take_of_length_le (by omega), List.drop_of_length_le (by omega), Nat.add_sub_cancel_left, List.take_append_of_le_length hq, List.drop_append_of_le_length hq]
  simp
theorem gD_in {A J C : List Nat} {i : Nat} (hi : i < J.length) : (A ++ (J ++ C)).getD (A.length + i) 0 = J.getD i 0 := by
  rw [List.getD_eq_getElem?_getD, List.getD_eq_getElem?_getD, List.getElem?_append_right (by omega), Nat.add_sub_cancel_left, List.getElem?_append_left hi]
theorem i7_of {v2 : MS} {r p d : Nat} {l : List Nat} {y : Int32} (h : ∀ i, i < l.length → v2.2.1 7 (600 * r + i) = nI (l.getD i 0)) (hp : p ≤ l.length) : ∀ i, i < (ins l p d).length → (mA (mA (wA v2 7 (shO (v2.2.1 7) (600 * r) p l.length)) 7 (600 * r + p) (nI d)) 4 r y).2.1 7 (600 * r + i) = nI ((ins l p d).getD i 0) := by
  intro i hi
  rw [ins_len hp] at hi
  rw [mA_k (by decide)]
  rcases Nat.lt_trichotomy i p with z | z | z
  · rw [mA_i (by omega), wA_at, shO_lt (by omega), ins_lt hp z, h i (by omega)]
  · subst z; rw [mA_at, ins_at hp]
  · rw [mA_i (by omega), wA_at, shO_gt z (by omega), ins_gt hp z, h (i - 1) (by omega)]
section CTB
variable {v : MS} {x : XS} {T r : Nat}
theorem BK_of (hM : MA (core v) x) (hr : r < 8) (hk : 2 ≤ xk x r) : BK v r (lens (xb x r)) (labs (xb x r)) := by
  obtain ⟨a, b⟩ := hM.2.2.2.2.1 r hr hk
  refine ⟨by rw [lens_len]; exact a, by rw [labs_len, lens_len], fun k hk => ?_, fun k hk => ?_⟩
  · rw [lens_len] at hk
    rw [lens_gD hk]; exact (b k hk).1
  · rw [lens_len] at hk
    rw [labs_gD hk]; exact (b k hk).2
variable {B1 B2 : BL} {lab : Nat} {ids : List Nat} {q d : Nat}
theorem inr_ok {I : List Nat} (hq : q ≤ I.length) (h8 : I.length ≤ 8) (hs : I.Pairwise (· < ·)) (hM : ∀ z ∈ I, z < 256) : (inr I q).1.length = I.length + 1 ∧ (inr I q).1.Pairwise (· < ·) ∧ ∀ z ∈ (inr I q).1, z < 256 := by
  unfold inr
  split
  · rename_i h
    exact ⟨ins_len hq, ins_sorted hs hM hq h⟩
  · refine ⟨by rw [List.length_map, List.length_range], dls_sorted (show I.length + 1 ≤ 2 ^ 8 by omega), fun z hz => ?_⟩
    obtain ⟨i, hi, rfl⟩ := List.mem_map.mp hz
    exact Nat.lt_of_lt_of_le (dl_lt (List.mem_range.mp hi)) (by decide)
/-- as a row of blocks is, with the block of the newcomer -/
def BOk (x : XS) (r : Nat) (B1 : BL) (lab : Nat) (ids : List Nat) (B2 : BL) (q : Nat) : Prop := xb x r = B1 ++ (lab, ids) :: B2 ∧ q ≤ ids.length ∧ (0 < q ∨ B1 = []) ∧ ids ≠ [] ∧ ids.length ≤ 8 ∧ ids.Pairwise (fun a b => xi x a < xi x b) ∧ (∀ a ∈ ids, xi x a < 256) ∧ (∀ b ∈ xb x r, b.2 ≠ [])
theorem BOk_sq (h : BOk x r B1 lab ids B2 q) : sq x r = idl B1 ++ (ids ++ idl B2) := by
  unfold sq
  rw [h.1, idl_app, idl_cons]
theorem p_cb55 (hM : MA (core v) x) (hI : Inv T x) (hr : r < 8) (hk : 2 ≤ xk x r) (hB : BOk x r B1 lab ids B2 q) : ∃ vA, f_X4_comeToBlock_55 (nI r) (nI ((idl B1).length + q)) (nI d) (nI r) (nI ((idl B1).length + q - 1)) v = f_X4_comeToBlock_130 (nI r) (nI ((idl B1).length + q)) (nI d) (nI B1.length) (nI (idl B1).length) (nI ids.length) vA ∧ PO r v vA (inr (ids.map (xi x)) q) := by
  have hsq := (BOk_sq hB)
  obtain ⟨b1, b2, b3, b4, b5, b6, b7, b8⟩ := hB
  have h6 := len600 hI hr
  rw [hsq, List.length_append, List.length_append] at h6
  have h0 : 0 < ids.length := List.length_pos_iff.mpr b4
  have hbl := bl_len2 b8
  have hBK := BK_of hM hr hk
  have hnl : (lens (xb x r)).length = B1.length + 1 + B2.length := by rw [lens_len, b1, List.length_append, List.length_cons]; omega
  have hgd : (lens (xb x r)).getD B1.length 0 = ids.length := by rw [lens_gD (by have := hnl; rw [lens_len] at this; omega), b1, gD_mid]
  have hps : psum (lens (xb x r)) B1.length = (idl B1).length := by rw [b1]; exact psum_app B1 _
  have hlen : B1.length + 1 + B2.length ≤ 600 := by
    have h9 : (xb x r).length ≤ (sq x r).length := hbl
    have h8 := hnl
    rw [lens_len] at h8
    have := len600 hI hr
    omega
  have hq1 : (idl B1).length + q - 1 = psum (lens (xb x r)) B1.length + (q - 1) := by
    rw [hps]
    rcases b3 with z | z
    · omega
    · subst z
      have : (idl []).length = 0 := rfl
      omega
  have g1 := p_blockAt (v := v) hr hBK (by omega) (k := B1.length) (t := q - 1) (by omega) (by rw [hgd]; omega) (by rw [hps, hgd]; omega)
  rw [← hq1] at g1
  have g2 := p_beginOf (v := v) hr hBK (by omega) (k := B1.length) (by omega)
  rw [hps] at g2
  have e8 := hBK.2.2.1 B1.length (by omega)
  rw [hgd] at e8
  obtain ⟨v1, g3, f1, hh1⟩ := p_takeInner (v := v) (r := r) (ids := ids) (F := (idl B1).length) (f := xi x) hr (by omega) (fun i hi => by
    have := hM.2.2.1 r hr ((idl B1).length + i) (by rw [hsq, List.length_append, List.length_append]; omega)
    rw [hsq, gD_in hi] at this
    rw [Nat.add_assoc]; exact this) (fun a ha => by
    have hm : a ∈ sq x r := by rw [hsq]; simp [ha]
    have := b7 a ha
    exact ⟨sq_lt hI hr hm, hM.2.2.2.2.2.1 r hr hk a hm, by omega⟩)
  have hml : (ids.map (xi x)).length = ids.length := List.length_map _
  have h256 : ∀ z ∈ ids.map (xi x), z < 2 ^ 42 := by
    intro z hz
    obtain ⟨a, ha, rfl⟩ := List.mem_map.mp hz
    have := b7 a ha
    omega
  have g0 : f_X4_comeToBlock_55 (nI r) (nI ((idl B1).length + q)) (nI d) (nI r) (nI ((idl B1).length + q - 1)) v = (f_X4_between (nI q) 256 v1).bind (fun z19 => (if z19.1 = 0 then (f_X4_open (nI q) z19.2).bind (fun z22 => (f_X4_dealt (nI r) 0 (nI (ids.length + 1)) 0 8 (nI ids.length) z22).bind (fun z24 => f_X4_comeToBlock_130 (nI r) (nI ((idl B1).length + q)) (nI d) (nI B1.length) (nI (idl B1).length) (nI ids.length) z24)) else f_X4_comeToBlock_130 (nI r) (nI ((idl B1).length + q)) (nI d) (nI B1.length) (nI (idl B1).length) (nI ids.length) z19.2)) := by
    unfold f_X4_comeToBlock_55
    rw [g1, Option.bind_some, g2, Option.bind_some]
    simp (disch := omega) only [ix_nI, nI_clamp, le_L, le_R, lt_L, lt_R, eq_L, eq_R, ad_L, sb_L, ml_L, nI_leI, nI_ltI, nI_eq, nI_add, pk_mul, nI_m1, if_true, if_false, if_pos, if_neg, Option.bind_some, mA_at, mA_i, mA_k, mA_1, mA_22, mF_at, mF_ne, mF_2, mB_at, mB_i, mB_k, mB_1, mB_21, e8]
    rw [g3, Option.bind_some, pk_sub (by omega), Nat.add_sub_cancel_left]
  rw [g0]
  unfold inr
  by_cases hc : lo (ids.map (xi x)) q < hi (ids.map (xi x)) 256 q
  · rw [if_pos hc]
    obtain ⟨v2, g4, f2, hh2⟩ := p_between_yes (M := 256) hh1 (by omega) (by omega) h256 (by omega) hc
    refine ⟨v2, ?_, (f1.tr f2).up (by decide) (by decide) (by decide), hh2, ?_, ?_⟩
    · have g4' : f_X4_between (nI q) 256 v1 = some (1, v2) := g4
      rw [g4', Option.bind_some, if_neg (show ¬ (1 : Int32) = 0 by decide)]
    · rw [(f1.tr f2).1 15 (by decide)]; exact (Int32.add_zero _).symm
    · rw [(f1.tr f2).2.1 5 (by decide)]; rfl
  · rw [if_neg hc]
    have g4 : f_X4_between (nI q) 256 v1 = some (0, v1) := p_between_no (M := 256) hh1 (by omega) (by omega) h256 (by omega) hc
    obtain ⟨v2, z, g5, -, g6, o1, o2, o3, o4⟩ := p_od (v := v1) (r := r) (p := q) (F := 0) (c := (ids.map (xi x)).length + 1) (X := 0) (j := 8) hh1 hr (by omega) (by omega) (Nat.zero_le _) (by omega) (by omega) (by omega) (by omega)
    rw [List.take_zero, List.nil_append, Nat.zero_add, Nat.add_sub_cancel, List.drop_length, List.append_nil] at o2
    rw [Nat.add_sub_cancel, hml] at g6
    refine ⟨v2, ?_, (f1.up (by decide) (by decide) (by decide)).tr o1, o2, ?_, ?_⟩
    · have g6' : f_X4_dealt (nI r) 0 (nI (ids.length + 1)) 0 8 (nI ids.length) z = some v2 := g6
      rw [g4, Option.bind_some, if_pos rfl]
      show (f_X4_open (nI q) v1).bind _ = _
      rw [g5, Option.bind_some, g6', Option.bind_some]
    · rw [o3, f1.1 15 (by decide)]
    · rw [o4, f1.2.1 5 (by decide)]
/-- the block's new inner labels -/
def xIn (x : XS) (r : Nat) (B1 : BL) (lab : Nat) (ids : List Nat) (B2 : BL) (q d : Nat) : XS := xBlk x r (B1 ++ (lab, ins ids q d) :: B2) (asg (xi x) (ins ids q d) (fun i => (inr (ids.map (xi x)) q).1.getD i 0) (ids.length + 1)) (inr (ids.map (xi x)) q).2 (nI ((inr (ids.map (xi x)) q).2 - 1))
theorem xIn_sq (hB : BOk x r B1 lab ids B2 q) : sq (xIn x r B1 lab ids B2 q d) r = ins (sq x r) ((idl B1).length + q) d ∧ xb (xIn x r B1 lab ids B2 q d) r = B1 ++ (lab, ins ids q d) :: B2 := by
  have e : xb (xIn x r B1 lab ids B2 q d) r = B1 ++ (lab, ins ids q d) :: B2 := va_up_self _ _ _
  refine ⟨?_, e⟩
  rw [(BOk_sq hB), ins_mid hB.2.1]
  unfold sq
  rw [e, idl_app, idl_cons]
theorem p_cb130 (hM : MA (core v) x) (hI : Inv T x) (hr : r < 8) (hk : 2 ≤ xk x r) (hB : BOk x r B1 lab ids B2 q) (hd : Out x d) (h6 : (sq x r).length < 600) {vA : MS} (hA : PO r v vA (inr (ids.map (xi x)) q)) : ∃ vB, MA (core vB) (xIn x r B1 lab ids B2 q d) ∧ Fm [15, 22] [4, 5, 6, 7, 8, 11] [9, 10, 21] v vB ∧
    f_X4_comeToBlock_130 (nI r) (nI ((idl B1).length + q)) (nI d) (nI B1.length) (nI (idl B1).length) (nI ids.length) vA = (if 9 ≤ ids.length + 1 then (f_X4_newBlock (nI r) (nI (B1.length + 1)) 4 vB).bind (fun z33 => (if z33.1 = 0 then some (0, z33.2) else (f_X4_dealInner (nI r) (nI (idl B1).length) 5 (mA z33.2 8 (600 * r + B1.length) 5)).bind (fun z37 => (f_X4_dealInner (nI r) (nI ((idl B1).length + 5)) 4 z37).bind (fun z39 => some (1, z39))))) else some (1, vB)) := by
  have hsq := (BOk_sq hB)
  have hx1 := xIn_sq (d := d) hB
  obtain ⟨b1, b2, b3, b4, b5, b6, b7, b8⟩ := hB
  have hsl : (sq x r).length = (idl B1).length + (ids.length + (idl B2).length) := by rw [hsq, List.length_append, List.length_append]
  have h0 : 0 < ids.length := List.length_pos_iff.mpr b4
  have hBK := BK_of hM hr hk
  have hbl := bl_len2 b8
  have hlen : B1.length + 1 + B2.length < 600 := by
    have h9 : (xb x r).length ≤ (sq x r).length := hbl
    rw [b1, List.length_append, List.length_cons] at h9
    omega
  have hml : (ids.map (xi x)).length = ids.length := List.length_map _
  have hIs : (ids.map (xi x)).Pairwise (· < ·) := List.pairwise_map.mpr b6
  have hI256 : ∀ z ∈ ids.map (xi x), z < 256 := by
    intro z hz
    obtain ⟨a, ha, rfl⟩ := List.mem_map.mp hz
    exact b7 a ha
  obtain ⟨n1, n2, n3⟩ := inr_ok (q := q) (I := ids.map (xi x)) (by omega) (by omega) hIs hI256
  obtain ⟨fA, hA2, hA3, hA4⟩ := hA
  have e4 : vA.2.1 4 r = nI (sq x r).length := by rw [fA.2.1 4 (by decide)]; exact hM.2.1 r hr
  have hp : (idl B1).length + q ≤ (sq x r).length := by omega
  have g1 := p_shift (v := vA) (y := nI d) hr e4 hp h6
  have h7A : ∀ i, i < (sq x r).length → vA.2.1 7 (600 * r + i) = nI ((sq x r).getD i 0) := by
    intro i hi
    rw [fA.2.1 7 (by decide)]; exact hM.2.2.1 r hr i hi
  have h7 := i7_of (d := d) (y := nI ((sq x r).length + 1)) h7A hp
  have hJ : (ins ids q d).length = ids.length + 1 := ins_len b2
  have hins : ins (sq x r) ((idl B1).length + q) d = idl B1 ++ (ins ids q d ++ idl B2) := by rw [hsq, ins_mid b2]
  have hdm : ∀ a ∈ ins ids q d, a < 600 := by
    intro a ha
    rcases ins_mem.mp ha with e | e
    · rw [e]; exact hd.1
    · exact sq_lt hI hr (by rw [hsq]; simp [e])
  have hJn : (ins ids q d).Nodup := by
    have hn := hI.2.2.1 r hr
    rw [hsq] at hn
    have h2 := (List.nodup_append.mp (List.nodup_append.mp hn).2.1).1
    refine ins_nd h2 (fun z => hd.2 r hr (by rw [hsq]; simp [z]))
  have hil := ins_len (y := d) hp
  have g2 := p_giveInner (v := mA (mA (wA vA 7 (shO (vA.2.1 7) (600 * r) ((idl B1).length + q) (sq x r).length)) 7 (600 * r + ((idl B1).length + q)) (nI d)) 4 r (nI ((sq x r).length + 1))) (F := (idl B1).length) (ids := ins ids q d) (I := (inr (ids.map (xi x)) q).1) hr (by omega) hA2 (by rw [n1, hml, hJ]) hJn (fun i hi => by
    have := h7 ((idl B1).length + i) (by omega)
    rw [hins, gD_in hi] at this
    rw [Nat.add_assoc]; exact this) hdm
  have e8 : vA.2.1 8 (600 * r + B1.length) = nI ids.length := by
    rw [fA.2.1 8 (by decide), hBK.2.2.1 B1.length (by rw [lens_len, b1, List.length_append, List.length_cons]; omega), lens_gD (by rw [b1, List.length_append, List.length_cons]; omega), b1, gD_mid]
  refine ⟨mA (wA (mA (mA (wA vA 7 (shO (vA.2.1 7) (600 * r) ((idl B1).length + q) (sq x r).length)) 7 (600 * r + ((idl B1).length + q)) (nI d)) 4 r (nI ((sq x r).length + 1))) 11 (asg ((mA (mA (wA vA 7 (shO (vA.2.1 7) (600 * r) ((idl B1).length + q) (sq x r).length)) 7 (600 * r + ((idl B1).length + q)) (nI d)) 4 r (nI ((sq x r).length + 1))).2.1 11) (ins ids q d) (fun i => nI ((inr (ids.map (xi x)) q).1.getD i 0)) (ins ids q d).length)) 8 (600 * r + B1.length) (nI (ids.length + 1)), ?_, ?_, ?_⟩
  · refine MA_xBlk hM (RwL_of hI) hr ?_ ?_ ?_ ?_ ?_ ?_ ?_ ?_ ?_ ?_ ?_
    · rw [mA_k (by decide), wA_k (by decide), mA_k (by decide), mA_k (by decide), wA_k (by decide), hA4]
    · exact hA3
    · intro s hs hsr a ha
      have hna : a ∉ ins ids q d := by
        intro z
        rcases ins_mem.mp z with e | e
        · exact hd.2 s hs (e ▸ ha)
        · exact hI.2.2.2.1 r s hr hs (Ne.symm hsr) a (by rw [hsq]; simp [e]) a ha rfl
      refine ⟨?_, ?_, asg_no hna⟩
      · rw [mA_22, wA_22, mA_22, mA_22, wA_22, fA.2.2 10 (by decide)]
      · rw [mA_k (by decide), wA_at, asg_no hna, mA_k (by decide), mA_k (by decide), wA_k (by decide), fA.2.1 11 (by decide)]
    · refine ⟨?_, ?_, ?_, ?_, ?_⟩
      · rw [mA_k (by decide), wA_k (by decide), mA_k (by decide), mA_k (by decide), wA_k (by decide), fA.2.1 2 (by decide)]
      · rw [mA_k (by decide), wA_k (by decide), mA_k (by decide), mA_k (by decide), wA_k (by decide), fA.2.1 3 (by decide)]
      · rw [mA_k (by decide), wA_k (by decide), mA_k (by decide), mA_k (by decide), wA_k (by decide), fA.2.1 12 (by decide)]
      · rw [mA_k (by decide), wA_k (by decide), mA_k (by decide), mA_k (by decide), wA_k (by decide), fA.2.1 13 (by decide)]
      · rw [mA_k (by decide), wA_k (by decide), mA_k (by decide), mA_k (by decide), wA_k (by decide), fA.2.1 14 (by decide)]
    · intro s hsr
      constructor
      · rw [mA_k (by decide), wA_k (by decide), mA_i hsr, mA_k (by decide), wA_k (by decide), fA.2.1 4 (by decide)]
      · rw [mA_k (by decide), wA_k (by decide), mA_k (by decide), mA_k (by decide), wA_k (by decide), fA.2.1 6 (by decide)]
    · intro j hj
      refine ⟨?_, ?_, ?_⟩
      · rw [mA_k (by decide), wA_k (by decide), mA_k (by decide), mA_i (by omega), wA_at, shO_out (by omega) hp, fA.2.1 7 (by decide)]
      · rw [mA_i (by omega), wA_k (by decide), mA_k (by decide), mA_k (by decide), wA_k (by decide), fA.2.1 8 (by decide)]
      · rw [mA_22, wA_22, mA_22, mA_22, wA_22, fA.2.2 9 (by decide)]
    · rw [idl_app, idl_cons, ← hins, hil, mA_k (by decide), wA_k (by decide), mA_at]
    · intro i hi
      rw [idl_app, idl_cons, ← hins] at hi ⊢
      rw [mA_k (by decide), wA_k (by decide)]
      exact h7 i hi
    · exact fun z => absurd hk z
    · intro _
      refine ⟨?_, fun j hj => ⟨?_, ?_⟩⟩
      · rw [mA_k (by decide), wA_k (by decide), mA_k (by decide), mA_k (by decide), wA_k (by decide), fA.2.1 6 (by decide), hBK.1, lens_len, b1, List.length_append, List.length_append]
        rfl
      · rw [List.length_append, List.length_cons] at hj
        by_cases e : j = B1.length
        · subst e
          rw [mA_at, gD_mid, hJ]
        · rw [mA_i (by omega), wA_k (by decide), mA_k (by decide), mA_k (by decide), wA_k (by decide), fA.2.1 8 (by decide), gD_mid_ne (z := (lab, ids)) e, ← b1, ← lens_gD (by rw [b1, List.length_append, List.length_cons]; omega)]
          exact hBK.2.2.1 j (by rw [lens_len, b1, List.length_append, List.length_cons]; omega)
      · rw [List.length_append, List.length_cons] at hj
        have e9 := hBK.2.2.2 j (by rw [lens_len, b1, List.length_append, List.length_cons]; omega)
        rw [labs_gD (by rw [b1, List.length_append, List.length_cons]; omega), b1] at e9
        rw [mA_22, wA_22, mA_22, mA_22, wA_22, fA.2.2 9 (by decide), e9]
        by_cases e : j = B1.length
        · subst e
          rw [gD_mid, gD_mid]
        · rw [gD_mid_ne (y := (lab, ins ids q d)) (z := (lab, ids)) e]
    · intro _ a ha
      rw [idl_app, idl_cons, ← hins] at ha
      rw [mA_k (by decide), wA_at]
      by_cases e : a ∈ ins ids q d
      · rw [asg_at e]
        have : asg (xi x) (ins ids q d) (fun i => (inr (ids.map (xi x)) q).1.getD i 0) (ids.length + 1) a = (inr (ids.map (xi x)) q).1.getD (pos (ins ids q d) a) 0 := by
          rw [← hJ]; exact asg_at e
        rw [this]
      · rw [asg_no e, asg_no e, mA_k (by decide), mA_k (by decide), wA_k (by decide), fA.2.1 11 (by decide)]
        have ha2 : a ∈ sq x r := by
          rcases ins_mem.mp ha with z | z
          · exact absurd (ins_mem.mpr (Or.inl z)) e
          · exact z
        exact hM.2.2.2.2.2.1 r hr hk a ha2
  · exact (((((fA.up (by decide) (by decide) (by decide)).wA (by decide)).pA (by decide)).pA (by decide)).wA (by decide)).pA (by decide)
  · unfold f_X4_comeToBlock_130
    rw [g1, Option.bind_some, g2, Option.bind_some]
    simp (disch := omega) only [ix_nI, nI_clamp, le_L, le_R, lt_L, lt_R, eq_L, eq_R, ad_L, sb_L, ml_L, nI_leI, nI_ltI, nI_eq, nI_add, pk_mul, nI_m1, if_true, if_false, if_pos, if_neg, Option.bind_some, mA_at, mA_i, mA_k, mA_1, mA_22, mF_at, mF_ne, mF_2, mB_at, mB_i, mB_k, mB_1, mB_21, wA_k, e8]
end CTB
