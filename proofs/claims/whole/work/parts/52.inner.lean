/-! ===== the model: inner labels, block lengths ===== -/
/-- inner labels with a new one: and how many were dealt -/
def inr (I : List Nat) (q : Nat) : List Nat × Nat := if lo I q < hi I 256 q then (ins I q (md I 256 q), 0) else ((List.range (I.length + 1)).map (dl 0 8 (I.length + 1)), I.length + 1)
def xBlk (x : XS) (r : Nat) (B : BL) (f : Nat → Nat) (c : Nat) (y : Int32) : XS := (xk x, xw x, gup (xg x) r c, va_up (xb x) r B, f, xm x, xr x + y)
theorem gup_ne {g : Nat → Int32} {r c s : Nat} (h : s ≠ r) : gup g r c s = g s := by
  unfold gup
  split
  · rfl
  · rw [pk_un h]
theorem gup_at {g g' : Nat → Int32} {r c : Nat} (h : g r = g' r) : gup g r c r = gup g' r c r := by
  unfold gup
  split
  · exact h
  · rw [pk_us, pk_us, h]
theorem MA_xBlk {v v' : MS} {x : XS} {r : Nat} {B : BL} {f : Nat → Nat} {c : Nat} {y : Int32} (hM : MA (core v) x) (hI : RwL x) (hr : r < 8) (h5 : v'.2.1 5 = gup (v.2.1 5) r c) (hy : v'.1 15 = v.1 15 + y)
    (hf : ∀ s, s < 8 → s ≠ r → ∀ d ∈ sq x s, v'.2.2 10 d = v.2.2 10 d ∧ v'.2.1 11 d = v.2.1 11 d ∧ f d = xi x d)
    (h23 : v'.2.1 2 = v.2.1 2 ∧ v'.2.1 3 = v.2.1 3 ∧ v'.2.1 12 = v.2.1 12 ∧ v'.2.1 13 = v.2.1 13 ∧ v'.2.1 14 = v.2.1 14)
    (h46 : ∀ s, s ≠ r → v'.2.1 4 s = v.2.1 4 s ∧ v'.2.1 6 s = v.2.1 6 s)
    (h2 : ∀ j, (j < 600 * r ∨ 600 * r + 600 ≤ j) → v'.2.1 7 j = v.2.1 7 j ∧ v'.2.1 8 j = v.2.1 8 j ∧ v'.2.2 9 j = v.2.2 9 j)
    (a4 : v'.2.1 4 r = nI (idl B).length) (a7 : ∀ i, i < (idl B).length → v'.2.1 7 (600 * r + i) = nI ((idl B).getD i 0))
    (a10 : ¬ 2 ≤ xk x r → ∀ b ∈ B, ∀ d ∈ b.2, v'.2.2 10 d = lN b.1)
    (a8 : 2 ≤ xk x r → v'.2.1 6 r = nI B.length ∧ ∀ q, q < B.length → v'.2.1 8 (600 * r + q) = nI (B.getD q (0, [])).2.length ∧ v'.2.2 9 (600 * r + q) = lN (B.getD q (0, [])).1)
    (a11 : 2 ≤ xk x r → ∀ d ∈ idl B, v'.2.1 11 d = nI (f d)) : MA (core v') (xBlk x r B f c y) := by
  have e5 : ∀ s, s < 8 → v.2.1 5 s = xg x s := fun s hs8 => (hM.1 s hs8).2.2
  have eb : xb (xBlk x r B f c y) = va_up (xb x) r B := rfl
  refine MA_set hM hI hr ?_ ?_ ?_ h2 hf rfl h23.2.2.1 h23.2.2.2.1 h23.2.2.2.2 ?_
  · rw [eb, va_up_self]
    refine ⟨⟨?_, ?_, ?_⟩, a4, a7, a10, a8, a11⟩
    · rw [core_1, h23.1]; exact (hM.1 r hr).1
    · rw [core_1, h23.2.1]; exact (hM.1 r hr).2.1
    · rw [core_1, h5]; exact gup_at (e5 r hr)
  · intro s hs
    exact ⟨rfl, rfl, gup_ne hs, va_up_ne _ _ hs⟩
  · intro s j hs hj
    rcases hj with rfl | rfl | rfl | rfl | rfl
    · rw [h23.1]
    · rw [h23.2.1]
    · exact (h46 s hs).1
    · rw [h5, gup_ne hs]
    · exact (h46 s hs).2
  · rw [hy]
    have : v.1 15 = xr x := hM.2.2.2.2.2.2.2
    rw [this]
    rfl
def psum (N : List Nat) (i : Nat) : Nat := (N.take i).sum
theorem psum_s {N : List Nat} {i : Nat} (h : i < N.length) : psum N (i + 1) = psum N i + N.getD i 0 := by
  unfold psum
  rw [take_s h, List.sum_append]
  simp
theorem psum_mono {N : List Nat} {i k : Nat} (h : i ≤ k) (hk : k ≤ N.length) : psum N i ≤ psum N k := by
  induction k with
  | zero => have : i = 0 := by omega
            subst this; exact Nat.le_refl _
  | succ k ih =>
    by_cases e : i = k + 1
    · subst e; exact Nat.le_refl _
    · have := ih (by omega) (by omega)
      rw [psum_s (by omega)]
      omega
section INR
variable {v : MS} {r : Nat} {N L : List Nat}
theorem p_blockAt (hr : r < 8) (hb : BK v r N L) (h6 : N.length ≤ 600) {k t : Nat} (hk : k < N.length) (ht : t < N.getD k 0) (hs : psum N k + N.getD k 0 ≤ 600) : f_X4_blockAt (nI r) (nI (psum N k + t)) v = some (nI k) := by
  unfold f_X4_blockAt
  refine loopE (fun m i => f_X4_blockAt_5 m (nI r) (nI i) (nI (psum N k + t - psum N i)) v) (a := 0) (b := k) (Nat.zero_le _) (NF_lt (by omega)) (fun m i h1 h2 => ?_) (fun m => ?_)
  · have e := psum_s (N := N) (i := i) (by omega)
    have e2 := psum_mono (N := N) (i := i + 1) (k := k) (by omega) (by omega)
    have e8 := hb.2.2.1 i (by omega)
    rw [f_X4_blockAt_5]
    simp (disch := omega) only [ix_nI, nI_clamp, le_L, le_R, lt_L, lt_R, eq_L, eq_R, ad_L, sb_L, ml_L, nI_leI, nI_ltI, nI_eq, nI_add, pk_mul, nI_m1, if_true, if_false, if_pos, if_neg, Option.bind_some, mA_at, mA_i, mA_k, mA_1, mA_22, mF_at, mF_ne, mF_2, mB_at, mB_i, mB_k, mB_1, mB_21, e8, pk_sub]
    rw [show psum N k + t - psum N i - N.getD i 0 = psum N k + t - psum N (i + 1) from by omega]
  · have e8 := hb.2.2.1 k hk
    rw [f_X4_blockAt_5]
    simp (disch := omega) only [ix_nI, nI_clamp, le_L, le_R, lt_L, lt_R, eq_L, eq_R, ad_L, sb_L, ml_L, nI_leI, nI_ltI, nI_eq, nI_add, pk_mul, nI_m1, if_true, if_false, if_pos, if_neg, Option.bind_some, mA_at, mA_i, mA_k, mA_1, mA_22, mF_at, mF_ne, mF_2, mB_at, mB_i, mB_k, mB_1, mB_21, e8, Nat.add_sub_cancel_left]
theorem p_beginOf (hr : r < 8) (hb : BK v r N L) (h6 : N.length ≤ 600) {k : Nat} (hk : k ≤ N.length) : f_X4_beginOf (nI r) (nI k) v = some (nI (psum N k)) := by
  unfold f_X4_beginOf
  refine loopE (fun m i => f_X4_beginOf_5 m (nI r) (nI k) (nI (psum N i)) (nI i) v) (a := 0) (b := k) (Nat.zero_le _) (NF_lt (by omega)) (fun m i h1 h2 => ?_) (fun m => ?_)
  · have e8 := hb.2.2.1 i (by omega)
    rw [f_X4_beginOf_5, psum_s (by omega)]
    simp (disch := omega) only [ix_nI, nI_clamp, le_L, le_R, lt_L, lt_R, eq_L, eq_R, ad_L, sb_L, ml_L, nI_leI, nI_ltI, nI_eq, nI_add, pk_mul, nI_m1, if_true, if_false, if_pos, if_neg, Option.bind_some, mA_at, mA_i, mA_k, mA_1, mA_22, mF_at, mF_ne, mF_2, mB_at, mB_i, mB_k, mB_1, mB_21, e8]
  · rw [f_X4_beginOf_5, if_pos (nI_le (Nat.le_refl _) (by omega))]
variable {ids : List Nat} {F : Nat} {f : Nat → Nat}
theorem p_takeInner (hr : r < 8) (hl : F + ids.length ≤ 600) (h7 : ∀ i, i < ids.length → v.2.1 7 (600 * r + F + i) = nI (ids.getD i 0)) (hd : ∀ d ∈ ids, d < 600 ∧ v.2.1 11 d = nI (f d) ∧ f d < 1000) : ∃ v', f_X4_takeInner (nI r) (nI F) (nI ids.length) v = some v' ∧ Fm [22] [] [21] v v' ∧ HD v' (ids.map f) := by
  have e0 : f_X4_takeInner (nI r) (nI F) (nI ids.length) v = some (wB (mF v 22 (nI ids.length)) 21 (pt (v.2.2 21) (fun i => lN (f (ids.getD i 0))) 0 ids.length)) := by
    unfold f_X4_takeInner
    have e0 : mF v 22 (nI ids.length) = wB (mF v 22 (nI ids.length)) 21 (pt (v.2.2 21) (fun i => lN (f (ids.getD i 0))) 0 0) := by
      rw [pt_0]; exact wB_id.symm
    refine Eq.trans (congrArg (f_X4_takeInner_8 NF (nI r) (nI F) (nI ids.length) 0) e0) ?_
    refine loopE (fun m i => f_X4_takeInner_8 m (nI r) (nI F) (nI ids.length) (nI i) (wB (mF v 22 (nI ids.length)) 21 (pt (v.2.2 21) (fun i => lN (f (ids.getD i 0))) 0 i))) (a := 0) (b := ids.length) (Nat.zero_le _) (NF_lt (by omega)) (fun m i h1 h2 => ?_) (fun m => ?_)
    · have h := pt_sL (v.2.2 21) (fun i => lN (f (ids.getD i 0))) 0 i
      rw [Nat.zero_add] at h
      obtain ⟨d1, d2, d3⟩ := hd _ (getD_mem h2)
      have h8 := h7 i h2
      rw [f_X4_takeInner_8]
      simp (disch := omega) only [ix_nI, nI_clamp, le_L, le_R, lt_L, lt_R, eq_L, eq_R, ad_L, sb_L, ml_L, nI_leI, nI_ltI, nI_eq, nI_add, pk_mul, nI_m1, if_true, if_false, if_pos, if_neg, Option.bind_some, mA_at, mA_i, mA_k, mA_1, mA_22, mF_at, mF_ne, mF_2, mB_at, mB_i, mB_k, mB_1, mB_21, wB_k, wB_21, mB_wB, h8, d2, nI_l]
      rw [h]
    · rw [f_X4_takeInner_8, if_pos (nI_le (Nat.le_refl _) (by omega))]
  refine ⟨_, e0, (Fm.rf.pF (by decide)).wB (by decide), ?_, fun i hi => ?_⟩
  · rw [wB_1, mF_at, List.length_map]
  · rw [List.length_map] at hi
    rw [wB_at, pt_in (by omega) (by omega), Nat.sub_zero, gD (l := ids.map f) (by rw [List.length_map]; exact hi), List.getElem_map, gD hi]
theorem p_giveInner {I : List Nat} (hr : r < 8) (hl : F + ids.length ≤ 600) (hv : HD v I) (hI : I.length = ids.length) (hn : ids.Nodup) (h7 : ∀ i, i < ids.length → v.2.1 7 (600 * r + F + i) = nI (ids.getD i 0)) (hd : ∀ d ∈ ids, d < 600) : f_X4_giveInner (nI r) (nI F) v = some (wA v 11 (asg (v.2.1 11) ids (fun i => nI (I.getD i 0)) ids.length)) := by
  unfold f_X4_giveInner
  have e0 : v = wA v 11 (asg (v.2.1 11) ids (fun i => nI (I.getD i 0)) 0) := by rw [asg_0, wA_id]
  refine Eq.trans (congrArg (f_X4_giveInner_2 NF (nI r) (nI F) 0) e0) ?_
  refine loopE (fun m i => f_X4_giveInner_2 m (nI r) (nI F) (nI i) (wA v 11 (asg (v.2.1 11) ids (fun i => nI (I.getD i 0)) i))) (a := 0) (b := ids.length) (Nat.zero_le _) (NF_lt (by omega)) (fun m i h1 h2 => ?_) (fun m => ?_)
  · have h := asg_s (f := v.2.1 11) (g := fun i => nI (I.getD i 0)) hn h2
    have hm := hd _ (getD_mem h2)
    have h8 := h7 i h2
    have h9 := hv.2 i (by omega)
    rw [f_X4_giveInner_2, wA_1, hv.1, hI]
    simp (disch := omega) only [ix_nI, nI_clamp, le_L, le_R, lt_L, lt_R, eq_L, eq_R, ad_L, sb_L, ml_L, nI_leI, nI_ltI, nI_eq, nI_add, pk_mul, nI_m1, if_true, if_false, if_pos, if_neg, Option.bind_some, mA_at, mA_i, mA_k, mA_1, mA_22, mF_at, mF_ne, mF_2, mB_at, mB_i, mB_k, mB_1, mB_21, wA_k, wA_22, mA_wA, h8, h9, lN_i]
    rw [h]
  · rw [f_X4_giveInner_2, wA_1, hv.1, hI, if_pos (nI_le (Nat.le_refl _) (by omega))]
theorem asg_fun {α : Type} {f : Nat → α} {ids : List Nat} {g g' : Nat → α} {n : Nat} (h : ∀ i, i < n → g i = g' i) (hn : n ≤ ids.length) (hd : ids.Nodup) : asg f ids g n = asg f ids g' n := by
  funext d
  unfold asg
  split
  · rename_i hm
    refine h _ ?_
    obtain ⟨i, hi, rfl⟩ := List.mem_iff_getElem.mp hm
    rw [List.length_take] at hi
    rw [List.getElem_take, ← gD (d := 0) (show i < ids.length by omega), pos_of hd (by omega)]
    omega
  · rfl
theorem p_dealInner (hr : r < 8) (hl : F + ids.length ≤ 600) (h0 : 0 < ids.length) (hn : ids.Nodup) (h7 : ∀ i, i < ids.length → v.2.1 7 (600 * r + F + i) = nI (ids.getD i 0)) (hd : ∀ d ∈ ids, d < 600) : ∃ v', f_X4_dealInner (nI r) (nI F) (nI ids.length) v = some v' ∧ Fm [15, 22] [5, 11] [21] v v' ∧ v'.2.1 11 = asg (v.2.1 11) ids (fun i => nI (dl 0 8 ids.length i)) ids.length ∧ v'.1 15 = v.1 15 + nI ids.length ∧ v'.2.1 5 = gup (v.2.1 5) r ids.length := by
  have e1 := p_dealt (v := mF v 22 (nI ids.length)) (r := r) (F := 0) (c := ids.length) (X := 0) (j := 8) (y := nI ids.length) hr (by omega) (by omega) (by omega)
  have e1' : f_X4_dealt (nI r) 0 (nI ids.length) 0 8 (nI ids.length) (mF v 22 (nI ids.length)) = _ := e1
  have hh : HD (mA (mF (wB (mF v 22 (nI ids.length)) 21 (pt ((mF v 22 (nI ids.length)).2.2 21) (fun i => lN (dl 0 8 ids.length i)) 0 ids.length)) 15 ((mF v 22 (nI ids.length)).1 15 + nI ids.length)) 5 r (mxI ((mF v 22 (nI ids.length)).2.1 5 r) (nI ids.length))) ((List.range ids.length).map (dl 0 8 ids.length)) := by
    refine ⟨?_, fun i hi => ?_⟩
    · rw [mA_1, mF_ne (by decide), wB_1, mF_at, List.length_map, List.length_range]
    · rw [List.length_map, List.length_range] at hi
      rw [mA_22, mF_2, wB_at, pt_in (by omega) (by omega), Nat.sub_zero, map_gD hi]
  have e2 := p_giveInner (F := F) (ids := ids) hr hl hh (by rw [List.length_map, List.length_range]) hn h7 hd
  refine ⟨_, by unfold f_X4_dealInner; rw [e1', Option.bind_some, e2, Option.bind_some], ?_, ?_, ?_, ?_⟩
  · exact ((((Fm.rf.pF (by decide)).wB (by decide)).pF (by decide)).pA (by decide)).wA (by decide)
  · rw [wA_at]
    exact asg_fun (fun i hi => by rw [map_gD hi]) (Nat.le_refl _) hn
  · rw [wA_1, mA_1, mF_at, mF_ne (by decide)]
  · rw [wA_k (by decide)]
    unfold gup
    rw [if_neg (by omega)]
    funext k
    by_cases q : k = r
    · subst q; rw [mA_at, pk_us]; rfl
    · rw [mA_i q, pk_un q]; rfl
end INR
