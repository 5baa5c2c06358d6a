/-! ===== the model, row by row; shift, newBlock ===== -/
def MR (c : MC) (k w g : Int32) (B : BL) (f : Nat → Nat) (r : Nat) : Prop :=
  (c.1 2 r = k ∧ c.1 3 r = w ∧ c.1 5 r = g) ∧ c.1 4 r = nI (idl B).length ∧ (∀ i, i < (idl B).length → c.1 7 (600 * r + i) = nI ((idl B).getD i 0)) ∧
  (¬ 2 ≤ k → ∀ b ∈ B, ∀ d ∈ b.2, c.2.1 10 d = lN b.1) ∧
  (2 ≤ k → c.1 6 r = nI B.length ∧ ∀ q, q < B.length → c.1 8 (600 * r + q) = nI (B.getD q (0, [])).2.length ∧ c.2.1 9 (600 * r + q) = lN (B.getD q (0, [])).1) ∧
  (2 ≤ k → ∀ d ∈ idl B, c.1 11 d = nI (f d))
def MK (c : MC) (x : XS) : Prop := ∀ m, m < 20 → c.1 12 m = xm x 1 m ∧ c.1 13 m = xm x 2 m ∧ c.1 14 m = xm x 3 m
theorem MA_iff {c : MC} {x : XS} : MA c x ↔ (∀ r, r < 8 → MR c (xk x r) (xw x r) (xg x r) (xb x r) (xi x) r) ∧ MK c x ∧ c.2.2 = xr x := by
  constructor
  · rintro ⟨m1, m2, m3, m4, m5, m6, m7, m8⟩
    exact ⟨fun r hr => ⟨m1 r hr, m2 r hr, m3 r hr, m4 r hr, m5 r hr, m6 r hr⟩, m7, m8⟩
  · rintro ⟨h, m7, m8⟩
    exact ⟨fun r hr => (h r hr).1, fun r hr => (h r hr).2.1, fun r hr => (h r hr).2.2.1, fun r hr => (h r hr).2.2.2.1, fun r hr => (h r hr).2.2.2.2.1, fun r hr => (h r hr).2.2.2.2.2, m7, m8⟩
theorem mem_idl {B : BL} {b : Nat × List Nat} {d : Nat} (hb : b ∈ B) (hd : d ∈ b.2) : d ∈ idl B := List.mem_flatten.mpr ⟨b.2, List.mem_map.mpr ⟨b, hb, rfl⟩, hd⟩
theorem idl_mem {B : BL} {d : Nat} (h : d ∈ idl B) : ∃ b ∈ B, d ∈ b.2 := by
  obtain ⟨l, hl, hd⟩ := List.mem_flatten.mp h
  obtain ⟨b, hb, rfl⟩ := List.mem_map.mp hl
  exact ⟨b, hb, hd⟩
theorem idl_app (B C : BL) : idl (B ++ C) = idl B ++ idl C := by unfold idl; rw [List.map_append, List.flatten_append]
theorem idl_cons (b : Nat × List Nat) (C : BL) : idl (b :: C) = b.2 ++ idl C := by unfold idl; rw [List.map_cons, List.flatten_cons]
theorem idl_nil : idl [] = [] := rfl
theorem bl_len2 {B : BL} (h : ∀ b ∈ B, b.2 ≠ []) : B.length ≤ (idl B).length := by
  induction B with
  | nil => exact Nat.le_refl 0
  | cons b B ih =>
    have h1 := ih (fun c hc => h c (List.mem_cons_of_mem _ hc))
    have h2 : b.2.length ≠ 0 := fun q => h b List.mem_cons_self (List.length_eq_zero_iff.mp q)
    rw [idl_cons, List.length_append, List.length_cons]
    omega
/-- a row that isn't touched -/
theorem MR_fr {c c' : MC} {k w g : Int32} {B : BL} {f f' : Nat → Nat} {s : Nat} (h : MR c k w g B f s) (hl : (idl B).length ≤ 600) (hB : B.length ≤ 600) (h1 : ∀ j, j = 2 ∨ j = 3 ∨ j = 4 ∨ j = 5 ∨ j = 6 → c'.1 j s = c.1 j s) (h2 : ∀ i, i < 600 → c'.1 7 (600 * s + i) = c.1 7 (600 * s + i) ∧ c'.1 8 (600 * s + i) = c.1 8 (600 * s + i) ∧ c'.2.1 9 (600 * s + i) = c.2.1 9 (600 * s + i)) (h3 : ∀ d ∈ idl B, c'.2.1 10 d = c.2.1 10 d ∧ c'.1 11 d = c.1 11 d ∧ f' d = f d) : MR c' k w g B f' s := by
  obtain ⟨⟨a1, a2, a3⟩, b, d, e, p, q⟩ := h
  refine ⟨⟨by rw [h1 2 (by omega)]; exact a1, by rw [h1 3 (by omega)]; exact a2, by rw [h1 5 (by omega)]; exact a3⟩, by rw [h1 4 (by omega)]; exact b, fun i hi => by rw [(h2 i (by omega)).1]; exact d i hi, fun hk b hb z hz => by rw [(h3 z (mem_idl hb hz)).1]; exact e hk b hb z hz, fun hk => ⟨by rw [h1 6 (by omega)]; exact (p hk).1, fun j hj => ?_⟩, fun hk z hz => by rw [(h3 z hz).2.1, (h3 z hz).2.2]; exact q hk z hz⟩
  have := h2 j (by omega)
  rw [this.2.1, this.2.2]
  exact (p hk).2 j hj
theorem p_shift {v : MS} {r p n : Nat} {y : Int32} (hr : r < 8) (hn : v.2.1 4 r = nI n) (hp : p ≤ n) (h6 : n < 600) : f_X4_shift (nI r) (nI p) y v = some (mA (mA (wA v 7 (shO (v.2.1 7) (600 * r) p n)) 7 (600 * r + p) y) 4 r (nI (n + 1))) := by
  unfold f_X4_shift
  rw [if_pos (ix_nI hr (by omega)), nI_clamp (by omega), hn]
  have e0 : v = wA v 7 (shO (v.2.1 7) (600 * r) n n) := by rw [shO_0, wA_id]
  refine Eq.trans (congrArg (f_X4_shift_8 NF (nI r) (nI p) y (nI n)) e0) ?_
  refine loopD (fun m i => f_X4_shift_8 m (nI r) (nI p) y (nI i) (wA v 7 (shO (v.2.1 7) (600 * r) i n))) hp (NF_lt (by omega)) (fun m i h1 h2 => ?_) (fun m => ?_)
  · have h := shO_s (v.2.1 7) (o := 600 * r) h2
    rw [f_X4_shift_8]
    simp (disch := omega) only [ix_nI, nI_clamp, le_L, le_R, lt_L, lt_R, eq_L, eq_R, ad_L, sb_L, ml_L, nI_leI, nI_ltI, nI_eq, nI_add, pk_mul, nI_m1, if_true, if_false, if_pos, if_neg, Option.bind_some, mA_at, mA_i, mA_k, mA_1, mA_22, mF_at, mF_ne, mF_2, mB_at, mB_i, mB_k, mB_1, mB_21, wA_at, mA_wA, Nat.add_sub_cancel]
    rw [show 600 * r + (i + 1) - 1 = 600 * r + i from by omega, h]
  · rw [f_X4_shift_8]
    simp (disch := omega) only [ix_nI, nI_clamp, le_L, le_R, lt_L, lt_R, eq_L, eq_R, ad_L, sb_L, ml_L, nI_leI, nI_ltI, nI_eq, nI_add, pk_mul, nI_m1, if_true, if_false, if_pos, if_neg, Option.bind_some, mA_at, mA_i, mA_k, mA_1, mA_22, mF_at, mF_ne, mF_2, mB_at, mB_i, mB_k, mB_1, mB_21, wA_at, wA_k, wA_1, hn]
/-- block labels and lengths of row r -/
def BK (v : MS) (r : Nat) (N L : List Nat) : Prop := v.2.1 6 r = nI N.length ∧ L.length = N.length ∧ (∀ k, k < N.length → v.2.1 8 (600 * r + k) = nI (N.getD k 0)) ∧ (∀ k, k < N.length → v.2.2 9 (600 * r + k) = lN (L.getD k 0))
/-- what newBlock leaves -/
def NB (r : Nat) (v v' : MS) (N : List Nat) (R : List Nat × Nat) : Prop := Fm [15, 22] [5, 6, 8] [9, 21] v v' ∧ BK v' r N R.1 ∧ v'.1 15 = v.1 15 + nI (R.2 - 1) ∧ v'.2.1 5 = gup (v.2.1 5) r R.2 ∧ (∀ s, s ≠ r → v'.2.1 6 s = v.2.1 6 s) ∧ ∀ j, (j < 600 * r ∨ 600 * r + 600 ≤ j) → v'.2.1 8 j = v.2.1 8 j ∧ v'.2.2 9 j = v.2.2 9 j
theorem p_newBlock_13 {v : MS} {r n : Nat} {L : List Nat} (hr : r < 8) (hn : L.length ≤ 600) (hL : ∀ k, k < L.length → v.2.2 9 (600 * r + k) = lN (L.getD k 0)) (hv : v.1 22 = nI L.length) (x2 x3 : Int32) : ∃ v' m, f_X4_newBlock_13 NF (nI r) x2 x3 0 v = f_X4_newBlock_13 (m + 1) (nI r) x2 x3 (nI L.length) v' ∧ Fm [] [] [21] v v' ∧ HD v' L := by
  obtain ⟨m, hm⟩ : ∃ m, NF = m + 1 + L.length := ⟨19999 - L.length, by rw [NF_eq]; omega⟩
  refine ⟨wB v 21 (pt (v.2.2 21) (fun i => lN (L.getD i 0)) 0 L.length), m, ?_, Fm.rf.wB (by decide), hv, fun i hi => ?_⟩
  · rw [hm]
    have key : ∀ i, i ≤ L.length → f_X4_newBlock_13 (m + 1 + L.length) (nI r) x2 x3 0 v = f_X4_newBlock_13 (m + 1 + (L.length - i)) (nI r) x2 x3 (nI i) (wB v 21 (pt (v.2.2 21) (fun i => lN (L.getD i 0)) 0 i)) := by
      intro i
      induction i with
      | zero => intro _; rw [pt_0, wB_id]; rfl
      | succ i ih =>
        intro hi
        have h := pt_sL (v.2.2 21) (fun i => lN (L.getD i 0)) 0 i
        rw [Nat.zero_add] at h
        rw [ih (by omega), show m + 1 + (L.length - i) = (m + 1 + (L.length - (i + 1))) + 1 from by omega, f_X4_newBlock_13, wB_1, hv]
        simp (disch := omega) only [ix_nI, nI_clamp, le_L, le_R, lt_L, lt_R, eq_L, eq_R, ad_L, sb_L, ml_L, nI_leI, nI_ltI, nI_eq, nI_add, pk_mul, nI_m1, if_true, if_false, if_pos, if_neg, Option.bind_some, mA_at, mA_i, mA_k, mA_1, mA_22, mF_at, mF_ne, mF_2, mB_at, mB_i, mB_k, mB_1, mB_21, wB_k, mB_wB, hL]
        rw [h]
    have := key L.length (Nat.le_refl _)
    rw [this, Nat.sub_self, Nat.add_zero]
  · rw [wB_at, pt_in (by omega) (by omega), Nat.sub_zero]
theorem p_newBlock_133 {v : MS} {r : Nat} {L : List Nat} (hr : r < 8) (hn : L.length ≤ 600) (hv : HD v L) : f_X4_newBlock_133 NF (nI r) 0 v = some (1, wB v 9 (pt (v.2.2 9) (fun i => lN (L.getD i 0)) (600 * r) L.length)) := by
  have e0 : v = wB v 9 (pt (v.2.2 9) (fun i => lN (L.getD i 0)) (600 * r) 0) := by rw [pt_0, wB_id]
  refine Eq.trans (congrArg (f_X4_newBlock_133 NF (nI r) 0) e0) ?_
  refine loopE (fun m i => f_X4_newBlock_133 m (nI r) (nI i) (wB v 9 (pt (v.2.2 9) (fun i => lN (L.getD i 0)) (600 * r) i))) (a := 0) (b := L.length) (Nat.zero_le _) (NF_lt (by omega)) (fun m i h1 h2 => ?_) (fun m => ?_)
  · have h := pt_sL (v.2.2 9) (fun i => lN (L.getD i 0)) (600 * r) i
    rw [f_X4_newBlock_133, wB_1, hv.1]
    simp (disch := omega) only [ix_nI, nI_clamp, le_L, le_R, lt_L, lt_R, eq_L, eq_R, ad_L, sb_L, ml_L, nI_leI, nI_ltI, nI_eq, nI_add, pk_mul, nI_m1, if_true, if_false, if_pos, if_neg, Option.bind_some, mA_at, mA_i, mA_k, mA_1, mA_22, mF_at, mF_ne, mF_2, mB_at, mB_i, mB_k, mB_1, mB_21, wB_k, mB_wB, hv.2]
    rw [h]
  · rw [f_X4_newBlock_133, wB_1, hv.1, if_pos (nI_le (Nat.le_refl _) (by omega))]
theorem p_newBlock_67 {v : MS} {r p n : Nat} {y : Int32} (hr : r < 8) (hn : v.2.1 6 r = nI n) (hp : p ≤ n) (h6 : n < 600) : f_X4_newBlock_67 NF (nI r) (nI p) y (nI n) v = f_X4_newBlock_133 NF (nI r) 0 (mA (mA (wA v 8 (shO (v.2.1 8) (600 * r) p n)) 8 (600 * r + p) y) 6 r (nI (n + 1))) := by
  have e0 : v = wA v 8 (shO (v.2.1 8) (600 * r) n n) := by rw [shO_0, wA_id]
  refine Eq.trans (congrArg (f_X4_newBlock_67 NF (nI r) (nI p) y (nI n)) e0) ?_
  refine loopD (fun m i => f_X4_newBlock_67 m (nI r) (nI p) y (nI i) (wA v 8 (shO (v.2.1 8) (600 * r) i n))) hp (NF_lt (by omega)) (fun m i h1 h2 => ?_) (fun m => ?_)
  · have h := shO_s (v.2.1 8) (o := 600 * r) h2
    rw [f_X4_newBlock_67]
    simp (disch := omega) only [ix_nI, nI_clamp, le_L, le_R, lt_L, lt_R, eq_L, eq_R, ad_L, sb_L, ml_L, nI_leI, nI_ltI, nI_eq, nI_add, pk_mul, nI_m1, if_true, if_false, if_pos, if_neg, Option.bind_some, mA_at, mA_i, mA_k, mA_1, mA_22, mF_at, mF_ne, mF_2, mB_at, mB_i, mB_k, mB_1, mB_21, wA_at, mA_wA, Nat.add_sub_cancel]
    rw [show 600 * r + (i + 1) - 1 = 600 * r + i from by omega, h]
  · rw [f_X4_newBlock_67]
    simp (disch := omega) only [ix_nI, nI_clamp, le_L, le_R, lt_L, lt_R, eq_L, eq_R, ad_L, sb_L, ml_L, nI_leI, nI_ltI, nI_eq, nI_add, pk_mul, nI_m1, if_true, if_false, if_pos, if_neg, Option.bind_some, mA_at, mA_i, mA_k, mA_1, mA_22, mF_at, mF_ne, mF_2, mB_at, mB_i, mB_k, mB_1, mB_21, wA_at, wA_k, wA_1, hn]
theorem p_newBlock {v : MS} {r p w q : Nat} {N L : List Nat} (hr : r < 8) (hb : BK v r N L) (hw : v.2.1 3 r = nI w) (hw0 : 0 < w) (hw4 : w ≤ 40) (hp : p ≤ N.length) (h6 : N.length < 600) (hs : L.Pairwise (· < ·)) (hM : ∀ d ∈ L, d < 2 ^ w) :
    (plc false w L p = none → ∃ v', f_X4_newBlock (nI r) (nI p) (nI q) v = some (0, v') ∧ Fm [22] [] [21] v v') ∧ ∀ R, plc false w L p = some R → ∃ v', f_X4_newBlock (nI r) (nI p) (nI q) v = some (1, v') ∧ NB r v v' (ins N p q) R := by
  obtain ⟨b1, b2, b3, b4⟩ := hb
  have f0 : Fm [22] [] [21] v (mF v 22 (nI N.length)) := Fm.rf.pF (by decide)
  obtain ⟨v1, m, e1, f1, h1⟩ := p_newBlock_13 (v := mF v 22 (nI N.length)) (r := r) (n := 0) (L := L) hr (by omega) (fun k hk => b4 k (by omega)) (by rw [mF_at, b2]) (nI p) (nI q)
  have f1' := f0.tr (f1.up (by decide) (by decide) (by decide))
  have g : f_X4_newBlock (nI r) (nI p) (nI q) v = (f_X4_spread (nI r) (nI p) v1).bind (fun z3 => (if z3.1 = 0 then some (0, z3.2) else (if ix (nI r) 8 = true then f_X4_newBlock_67 NF (nI r) (nI p) (nI q) (z3.2.2.1 6 (Int32.toNatClampNeg (nI r))) z3.2 else none))) := by
    unfold f_X4_newBlock
    rw [if_pos (ix_nI hr (by omega)), nI_clamp (by omega), b1, e1, f_X4_newBlock_13, h1.1, if_pos (nI_le (Nat.le_refl _) (by omega)), nI_clamp (by omega)]
  obtain ⟨s1, s2⟩ := p_spread (v := v1) (L := L) (r := r) (p := p) (w := w) h1 hr (by rw [f1'.2.1 3 (by decide)]; exact hw) hw0 hw4 (by omega) (by omega) hs hM
  refine ⟨fun h => ⟨v1, ?_, f1'⟩, fun R h => ?_⟩
  · rw [g, s1 h, Option.bind_some, if_pos rfl]
  · obtain ⟨v2, e2, f2, h2, h15, h5⟩ := s2 R h
    obtain ⟨-, -, hRl⟩ := plc_ok hw0 hs hM (by omega) h
    have f2' := (f1'.up (by decide) (by decide) (by decide)).tr f2
    have h66 : v2.2.1 6 r = nI N.length := by rw [f2'.2.1 6 (by decide)]; exact b1
    have g2 := p_newBlock_67 (v := v2) (y := nI q) hr h66 hp h6
    have hd : HD (mA (mA (wA v2 8 (shO (v2.2.1 8) (600 * r) p N.length)) 8 (600 * r + p) (nI q)) 6 r (nI (N.length + 1))) R.1 := h2
    rw [p_newBlock_133 hr (by omega) hd] at g2
    refine ⟨_, by rw [g, e2, Option.bind_some, if_neg (show ¬ (1 : Int32) = 0 by decide), if_pos (ix_nI hr (by omega)), nI_clamp (by omega), h66, g2], ?_, ⟨?_, ?_, ?_, ?_⟩, ?_, ?_, ?_, ?_⟩
    · exact ((((f2'.up (by decide) (by decide) (by decide)).wA (by decide)).pA (by decide)).pA (by decide)).wB (by decide)
    · rw [wB_21, mA_at, ins_len hp]
    · rw [ins_len hp, hRl, b2]
    · intro k hk
      rw [ins_len hp] at hk
      rw [wB_21, mA_k (by decide)]
      rcases Nat.lt_trichotomy k p with z | z | z
      · rw [mA_i (by omega), wA_at, shO_lt (by omega), f2'.2.1 8 (by decide), ins_lt hp z, b3 k (by omega)]
      · subst z; rw [mA_at, ins_at hp]
      · rw [mA_i (by omega), wA_at, shO_gt z (by omega), f2'.2.1 8 (by decide), ins_gt hp z, b3 _ (by omega)]
    · intro k hk
      rw [ins_len hp] at hk
      rw [wB_at, pt_at (by omega)]
    · show v2.1 15 = _
      rw [h15, f1'.1 15 (by decide)]
    · rw [wB_21, mA_k (by decide), mA_k (by decide), wA_k (by decide), h5, f1'.2.1 5 (by decide)]
    · intro s hsr
      rw [wB_21, mA_i hsr, mA_k (by decide), wA_k (by decide), f2'.2.1 6 (by decide)]
    · intro j hj
      constructor
      · rw [wB_21, mA_k (by decide), mA_i (by omega), wA_at, shO_out (by omega) hp, f2'.2.1 8 (by decide)]
      · rw [wB_at, pt_out (by omega), mA_22, mA_22, wA_22, f2.2.2 9 (by decide), f1'.2.2 9 (by decide)]
