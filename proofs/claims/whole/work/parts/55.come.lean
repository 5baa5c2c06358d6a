/-! ===== what comes, as the model does it ===== -/
def xEmp (x : XS) (r d : Nat) (R : List Nat × Nat) : XS := xBlk x r (nbl [] 0 [d] R.1) (va_up (xi x) d 128) R.2 (nI (R.2 - 1))
/-- one that comes to place p of row r: none is FULL -/
def Cm (x : XS) (r p d : Nat) (o : Option XS) : Prop :=
  ∃ k w, xk x r = nI k ∧ k < 4 ∧ xw x r = nI w ∧ 4 ≤ w ∧ w ≤ 40 ∧ (labs (xb x r)).Pairwise (· < ·) ∧ (∀ d ∈ labs (xb x r), d < 2 ^ w) ∧
   ((k < 2 ∧ (∀ b ∈ xb x r, b.2.length = 1) ∧ o = (plc (k == 0) w (labs (xb x r)) p).map (fun R => xNew x r p [d] R)) ∨
    (2 ≤ k ∧ xb x r = [] ∧ p = 0 ∧ o = (plc false w [] 0).map (fun R => xEmp x r d R)) ∨
    (2 ≤ k ∧ ∃ B1 lab ids B2 q, BOk x r B1 lab ids B2 q ∧ p = (idl B1).length + q ∧
      ((ids.length < 8 ∧ o = some (xIn x r B1 lab ids B2 q d)) ∨
       (ids.length = 8 ∧ o = (plc false w (labs (xb x r)) (B1.length + 1)).map (fun R => xPart (xIn x r B1 lab ids B2 q d) r B1 lab (ins ids q d) B2 R)))))
/-- where the newcomer's block is -/
theorem blk_at {x : XS} {r : Nat} : ∀ (B : BL) (p : Nat), (∀ b ∈ B, b.2 ≠ []) → B ≠ [] → p ≤ (idl B).length → ∃ B1 lab ids B2 q, B = B1 ++ (lab, ids) :: B2 ∧ p = (idl B1).length + q ∧ q ≤ ids.length ∧ (0 < q ∨ B1 = []) := by
  intro B
  induction B with
  | nil => intro p _ h; exact absurd rfl h
  | cons b B ih =>
    intro p hne _ hp
    by_cases h : p ≤ b.2.length
    · refine ⟨[], b.1, b.2, B, p, rfl, ?_, h, Or.inr rfl⟩
      rw [idl_nil, List.length_nil, Nat.zero_add]
    · rw [idl_cons, List.length_append] at hp
      have hB : B ≠ [] := by
        intro e
        subst e
        rw [idl_nil, List.length_nil] at hp
        omega
      obtain ⟨B1, lab, ids, B2, q, e1, e2, e3, e4⟩ := ih (p - b.2.length) (fun c hc => hne c (List.mem_cons_of_mem _ hc)) hB (by omega)
      refine ⟨b :: B1, lab, ids, B2, q, by rw [e1]; rfl, ?_, e3, ?_⟩
      · rw [idl_cons, List.length_append]; omega
      · rcases e4 with e4 | e4
        · exact Or.inl e4
        · subst e4
          rw [idl_nil, List.length_nil] at e2
          exact Or.inl (by omega)
theorem Cm_ex {T : Nat} {x : XS} (hI : Inv T x) {r p d : Nat} (hr : r < 8) (hk : xk x r ≠ -1) (hp : p ≤ (sq x r).length) : ∃ o, Cm x r p d o := by
  obtain ⟨k, w, k4, ek, w4, w40, ew, hs, hL, hne, h1, h2⟩ := row_ok hI hr hk
  by_cases hk2 : k < 2
  · exact ⟨_, k, w, ek, k4, ew, w4, w40, hs, hL, Or.inl ⟨hk2, h1 hk2, rfl⟩⟩
  · have hk3 : 2 ≤ k := by omega
    by_cases hB : xb x r = []
    · have : sq x r = [] := by unfold sq; rw [hB]; rfl
      rw [this, List.length_nil] at hp
      exact ⟨_, k, w, ek, k4, ew, w4, w40, hs, hL, Or.inr (Or.inl ⟨hk3, hB, by omega, rfl⟩)⟩
    · obtain ⟨B1, lab, ids, B2, q, e1, e2, e3, e4⟩ := blk_at (x := x) (r := r) (xb x r) p hne hB hp
      have hm : (lab, ids) ∈ xb x r := by rw [e1]; simp
      obtain ⟨a1, a2, a3⟩ := h2 hk3 _ hm
      have hBO : BOk x r B1 lab ids B2 q := ⟨e1, e3, e4, hne _ hm, a1, a2, a3, hne⟩
      by_cases h8 : ids.length < 8
      · exact ⟨_, k, w, ek, k4, ew, w4, w40, hs, hL, Or.inr (Or.inr ⟨hk3, B1, lab, ids, B2, q, hBO, e2, Or.inl ⟨h8, rfl⟩⟩)⟩
      · have a1' : ids.length ≤ 8 := a1
        exact ⟨_, k, w, ek, k4, ew, w4, w40, hs, hL, Or.inr (Or.inr ⟨hk3, B1, lab, ids, B2, q, hBO, e2, Or.inr ⟨by omega, rfl⟩⟩)⟩
/-- the marks right behind b that lean right -/
def mkm (x : XS) (r : Nat) (b : Int32) (d m : Nat) : Int32 := if xm x 1 m = nI r ∧ xm x 2 m = b ∧ xm x 3 m = 1 then nI d else xm x 2 m
def xMk (x : XS) (r : Nat) (b : Int32) (d : Nat) : XS := (xk x, xw x, xg x, xb x, xi x, va_up (xm x) 2 (mkm x r b d), xr x)
section COME
variable {v : MS} {x : XS} {T r : Nat}
theorem Dj_of (hI : Inv T x) (hr : r < 8) : Dj x r := ⟨hI.2.2.1 r hr, fun _ hd => sq_lt hI hr hd, fun s hs hsr d hd hd2 => hI.2.2.2.1 r s hr hs (Ne.symm hsr) d hd2 d hd rfl⟩
theorem p_marks (hM : MA (core v) x) (b : Int32) (d : Nat) : ∃ v', f_X4_come_54 NF (nI r) (nI d) b 1 0 v = some (1, v') ∧ Fm [] [13] [] v v' ∧ MA (core v') (xMk x r b d) := by
  have h7 := hM.2.2.2.2.2.2.1
  have e0 : v = wA v 13 (pt (v.2.1 13) (mkm x r b d) 0 0) := by rw [pt_0, wA_id]
  have g : f_X4_come_54 NF (nI r) (nI d) b 1 0 v = some (1, wA v 13 (pt (v.2.1 13) (mkm x r b d) 0 20)) := by
    refine Eq.trans (congrArg (f_X4_come_54 NF (nI r) (nI d) b 1 0) e0) ?_
    refine loopE (fun m i => f_X4_come_54 m (nI r) (nI d) b 1 (nI i) (wA v 13 (pt (v.2.1 13) (mkm x r b d) 0 i))) (a := 0) (b := 20) (Nat.zero_le _) (NF_lt (by omega)) (fun m i h1 h2 => ?_) (fun m => ?_)
    · obtain ⟨m1, m2, m3⟩ := h7 i h2
      have m1' : v.2.1 12 i = xm x 1 i := m1
      have m2' : v.2.1 13 i = xm x 2 i := m2
      have m3' : v.2.1 14 i = xm x 3 i := m3
      have hs := pt_s (v.2.1 13) (mkm x r b d) 0 i
      rw [Nat.zero_add] at hs
      have hk : pt (v.2.1 13) (mkm x r b d) 0 i i = xm x 2 i := by rw [pt_out (by omega), m2']
      rw [f_X4_come_54, if_neg (show ¬ (20 : Int32) ≤ nI i from nI_ge (b := 20) h2 (by omega)), if_neg (show ¬ (1 : Int32) = 0 by decide), if_neg (show ¬ (1 : Int32) = 0 by decide)]
      unfold f_X4_come_104
      rw [if_pos (show (0 : Int32) = 0 from rfl)]
      simp (disch := omega) only [ix_nI, nI_clamp, le_L, le_R, lt_L, lt_R, eq_L, eq_R, ad_L, sb_L, ml_L, nI_leI, nI_ltI, nI_eq, nI_add, pk_mul, nI_m1, if_true, if_false, if_pos, if_neg, Option.bind_some, mA_at, mA_i, mA_k, mA_1, mA_22, mF_at, mF_ne, mF_2, mB_at, mB_i, mB_k, mB_1, mB_21, wA_k, wA_at, mA_wA, m1', m3', hk]
      by_cases c1 : xm x 1 i = nI r
      · by_cases c2 : xm x 2 i = b
        · by_cases c3 : xm x 3 i = 1
          · have : mkm x r b d i = nI d := if_pos ⟨c1, c2, c3⟩
            rw [if_pos c1, if_pos c2, if_pos c3, ← hs, this]
          · have : mkm x r b d i = xm x 2 i := if_neg (fun z => c3 z.2.2)
            rw [if_pos c1, if_pos c2, if_neg c3, ← hs, this]
        · have : mkm x r b d i = xm x 2 i := if_neg (fun z => c2 z.2.1)
          rw [if_pos c1, if_neg c2, ← hs, this]
      · have : mkm x r b d i = xm x 2 i := if_neg (fun z => c1 z.1)
        rw [if_neg c1, ← hs, this]
    · rw [f_X4_come_54, if_pos (show (20 : Int32) ≤ nI 20 by decide), if_pos (show zb 1 = true by decide)]
  refine ⟨_, g, Fm.rf.wA (by decide), ?_⟩
  obtain ⟨m1, m2, m3, m4, m5, m6, m7, m8⟩ := hM
  refine ⟨m1, m2, m3, m4, m5, m6, fun m hm => ?_, m8⟩
  obtain ⟨k1, k2, k3⟩ := m7 m hm
  refine ⟨k1, ?_, k3⟩
  rw [core_1, wA_at, pt_in (by omega) (by omega), Nat.sub_zero]
  exact (congrFun (va_up_self (xm x) 2 (mkm x r b d)) m).symm
theorem p_marks0 (b : Int32) (d : Nat) : f_X4_come_54 NF (nI r) (nI d) b 0 0 v = some (0, v) := by
  obtain ⟨n, hn⟩ := NF_s
  rw [hn, f_X4_come_54, if_neg (by decide), if_pos rfl, if_pos (by decide)]
theorem hasB (hM : MA (core v) x) (hr : r < 8) {k : Nat} (hk : xk x r = nI k) (hk4 : k < 4) : f_X4_hasBlocks (nI r) v = some (if k < 2 then 0 else 1) := by
  have e2 : v.2.1 2 r = nI k := by rw [← hk]; exact (hM.1 r hr).1
  unfold f_X4_hasBlocks
  simp (disch := omega) only [ix_nI, nI_clamp, le_L, le_R, lt_L, lt_R, eq_L, eq_R, ad_L, sb_L, ml_L, nI_leI, nI_ltI, nI_eq, nI_add, pk_mul, nI_m1, if_true, if_false, if_pos, if_neg, Option.bind_some, e2]
  by_cases h : k < 2
  · rw [if_pos h, if_pos h]
  · rw [if_neg h, if_neg h]
def ahd (x : XS) (r p : Nat) : Int32 := if p = 0 then -1 else nI ((sq x r).getD (p - 1) 0)
theorem p_come_hd (hM : MA (core v) x) (hr : r < 8) {p d : Nat} (hp : p ≤ (sq x r).length) (h6 : (sq x r).length ≤ 600) : f_X4_come (nI r) (nI p) (nI d) v = f_X4_come_22 (nI r) (nI p) (nI d) (ahd x r p) v := by
  unfold f_X4_come ahd
  by_cases h : p = 0
  · subst h
    rw [if_pos nI_0, if_pos rfl]
  · have e7 : v.2.1 7 (600 * r + (p - 1)) = nI ((sq x r).getD (p - 1) 0) := hM.2.2.1 r hr (p - 1) (by omega)
    have e : 600 * r + p - 1 = 600 * r + (p - 1) := by omega
    rw [if_neg h]
    simp (disch := omega) only [ix_nI, nI_clamp, le_L, le_R, lt_L, lt_R, eq_L, eq_R, ad_L, sb_L, ml_L, nI_leI, nI_ltI, nI_eq, nI_add, pk_mul, nI_m1, if_true, if_false, if_pos, if_neg, Option.bind_some, e, e7]
theorem p_ctb_empty (hM : MA (core v) x) (hI : Inv T x) (hr : r < 8) {k w d : Nat} (hk : xk x r = nI k) (hk4 : k < 4) (hk2 : 2 ≤ k) (hw : xw x r = nI w) (hw4 : 4 ≤ w) (hw40 : w ≤ 40) (hB : xb x r = []) (hd : Out x d) : ∃ R v', plc false w [] 0 = some R ∧ f_X4_comeToBlock (nI r) (nI 0) (nI d) v = some (1, v') ∧ Fm [15, 22] [4, 5, 6, 7, 8, 11] [9, 10, 21] v v' ∧ MA (core v') (xEmp x r d R) := by
  have hk' : 2 ≤ xk x r := by rw [hk]; exact nI_le (a := 2) hk2 (by omega)
  have hBK := BK_of hM hr hk'
  rw [hB] at hBK
  have hsq : sq x r = [] := by unfold sq; rw [hB]; rfl
  have e4 : v.2.1 4 r = nI 0 := by have := hM.2.1 r hr; rw [hsq] at this; exact this
  have e3 : v.2.1 3 r = nI w := by rw [← hw]; exact (hM.1 r hr).2.1
  obtain ⟨R, hR⟩ : ∃ R, plc false w [] 0 = some R := by
    unfold plc
    have h1 : lo [] 0 = 0 := rfl
    have h2 : hi [] (2 ^ w) 0 = 2 ^ w := rfl
    rw [h1, h2, if_pos (pw_pos w)]
    exact ⟨_, rfl⟩
  obtain ⟨-, n2⟩ := p_newBlock (v := v) (p := 0) (q := 1) (N := lens []) (L := labs []) hr hBK e3 (by omega) hw40 (Nat.zero_le _) (by show 0 < 600; omega) List.Pairwise.nil (fun d h => absurd h List.not_mem_nil)
  obtain ⟨v1, g1, f1, k1, k15, k5, k6, k8⟩ := n2 R hR
  obtain ⟨-, -, hRl⟩ := plc_ok (w := w) (by omega) List.Pairwise.nil (fun d h => absurd h List.not_mem_nil) (Nat.zero_le _) hR
  have e41 : v1.2.1 4 r = nI 0 := by rw [f1.2.1 4 (by decide)]; exact e4
  have g2 := p_shift (v := v1) (p := 0) (y := nI d) hr e41 (Nat.le_refl _) (by omega)
  have hRl' : R.1.length = 1 := hRl
  obtain ⟨a, ha⟩ := List.length_eq_one_iff.mp hRl'
  have hnb : nbl [] 0 [d] R.1 = [(a, [d])] := by rw [ha]; rfl
  refine ⟨R, mA (mA (mA (wA v1 7 (shO (v1.2.1 7) (600 * r) 0 0)) 7 (600 * r + 0) (nI d)) 4 r (nI (0 + 1))) 11 d 128, hR, ?_, ?_, ?_⟩
  · unfold f_X4_comeToBlock
    have g1' : f_X4_newBlock (nI r) 0 1 v = some (1, v1) := g1
    have g2' : f_X4_shift (nI r) 0 (nI d) v1 = some (mA (mA (wA v1 7 (shO (v1.2.1 7) (600 * r) 0 0)) 7 (600 * r + 0) (nI d)) 4 r (nI (0 + 1))) := g2
    rw [if_pos (ix_nI hr (by omega)), nI_clamp (by omega), e4, if_pos nI_0, g1', Option.bind_some, if_neg (show ¬ (1 : Int32) = 0 by decide), g2', Option.bind_some, if_pos (ix_nI hd.1 (by omega)), nI_clamp (by have := hd.1; omega), if_pos (show zb 1 = true by decide)]
  · exact ((((f1.up (by decide) (by decide) (by decide)).wA (by decide)).pA (by decide)).pA (by decide)).pA (by decide)
  · unfold xEmp
    rw [hnb]
    refine MA_xBlk hM (RwL_of hI) hr ?_ ?_ ?_ ?_ ?_ ?_ ?_ ?_ ?_ ?_ ?_
    · rw [mA_k (by decide), mA_k (by decide), mA_k (by decide), wA_k (by decide), k5]
    · exact k15
    · intro s hs hsr z hz
      have hzd : z ≠ d := fun e => hd.2 s hs (e ▸ hz)
      exact ⟨by rw [mA_22, mA_22, mA_22, wA_22, f1.2.2 10 (by decide)], by rw [mA_i hzd, mA_k (by decide), mA_k (by decide), wA_k (by decide), f1.2.1 11 (by decide)], va_up_ne _ _ hzd⟩
    · refine ⟨?_, ?_, ?_, ?_, ?_⟩
      · rw [mA_k (by decide), mA_k (by decide), mA_k (by decide), wA_k (by decide), f1.2.1 2 (by decide)]
      · rw [mA_k (by decide), mA_k (by decide), mA_k (by decide), wA_k (by decide), f1.2.1 3 (by decide)]
      · rw [mA_k (by decide), mA_k (by decide), mA_k (by decide), wA_k (by decide), f1.2.1 12 (by decide)]
      · rw [mA_k (by decide), mA_k (by decide), mA_k (by decide), wA_k (by decide), f1.2.1 13 (by decide)]
      · rw [mA_k (by decide), mA_k (by decide), mA_k (by decide), wA_k (by decide), f1.2.1 14 (by decide)]
    · intro s hs
      exact ⟨by rw [mA_k (by decide), mA_i hs, mA_k (by decide), wA_k (by decide), f1.2.1 4 (by decide)], by rw [mA_k (by decide), mA_k (by decide), mA_k (by decide), wA_k (by decide), k6 s hs]⟩
    · intro j hj
      exact ⟨by rw [mA_k (by decide), mA_k (by decide), mA_i (by omega), wA_at, shO_0, f1.2.1 7 (by decide)], by rw [mA_k (by decide), mA_k (by decide), mA_k (by decide), wA_k (by decide), (k8 j hj).1], by rw [mA_22, mA_22, mA_22, wA_22, (k8 j hj).2]⟩
    · rw [mA_k (by decide), mA_at]
      rfl
    · intro i hi
      have hi1 : i < 1 := hi
      have : i = 0 := by omega
      subst this
      rw [mA_k (by decide), mA_k (by decide), mA_at]
      rfl
    · exact fun z => absurd hk' z
    · intro _
      refine ⟨?_, fun q hq => ?_⟩
      · rw [mA_k (by decide), mA_k (by decide), mA_k (by decide), wA_k (by decide)]
        exact k1.1
      · have hq1 : q < 1 := hq
        have : q = 0 := by omega
        subst this
        have c3 := k1.2.2.1 0 (by decide)
        have c4 := k1.2.2.2 0 (by decide)
        rw [ha] at c4
        exact ⟨by rw [mA_k (by decide), mA_k (by decide), mA_k (by decide), wA_k (by decide)]; exact c3, by rw [mA_22, mA_22, mA_22, wA_22]; exact c4⟩
    · intro _ z hz
      have hz' : z ∈ [d] := by
        have : idl [(a, [d])] = [d] := rfl
        rw [this] at hz
        exact hz
      rw [List.mem_singleton] at hz'
      subst hz'
      rw [mA_at, va_up_self]
      rfl
theorem p_come (hM : MA (core v) x) (hI : Inv T x) (hr : r < 8) {p d : Nat} (hd : Out x d) (hp : p ≤ (sq x r).length) (h6 : (sq x r).length < 600) {o : Option XS} (hC : Cm x r p d o) :
    (o = none → ∃ v', f_X4_come (nI r) (nI p) (nI d) v = some (0, v') ∧ Fm [15, 22] [4, 5, 6, 7, 8, 11, 13] [9, 10, 21] v v') ∧ ∀ x', o = some x' → ∃ v', f_X4_come (nI r) (nI p) (nI d) v = some (1, v') ∧ Fm [15, 22] [4, 5, 6, 7, 8, 11, 13] [9, 10, 21] v v' ∧ MA (core v') (xMk x' r (ahd x r p) d) := by
  obtain ⟨k, w, ek, k4, ew, w4, w40, hs, hL, hC⟩ := hC
  have hB := hasB hM hr ek k4
  rw [p_come_hd hM hr hp (by omega)]
  unfold f_X4_come_22
  rw [hB, Option.bind_some]
  rcases hC with ⟨hk2, h1, ho⟩ | ⟨hk2, hB0, hp0, ho⟩ | ⟨hk2, B1, lab, ids, B2, q, hBO, hpe, hc⟩
  · rw [if_pos hk2, if_pos rfl]
    obtain ⟨c1, c2⟩ := p_comeByLabel hM hI hr ek hk2 hd hp h6 ew w4 w40 hs hL h1
    cases hpl : plc (k == 0) w (labs (xb x r)) p with
    | none =>
      rw [hpl] at ho
      obtain ⟨v1, g1, f1⟩ := c1 hpl
      refine ⟨fun _ => ⟨v1, ?_, f1.up (by decide) (by decide) (by decide)⟩, fun x' e => ?_⟩
      · rw [g1, Option.bind_some]; exact p_marks0 _ _
      · rw [ho] at e; cases e
    | some R =>
      rw [hpl] at ho
      obtain ⟨v1, g1, f1, hM1⟩ := c2 R hpl
      refine ⟨fun e => ?_, fun x' e => ?_⟩
      · rw [ho] at e; cases e
      · rw [ho] at e
        cases e
        obtain ⟨v2, g2, f2, hM2⟩ := p_marks (r := r) hM1 (ahd x r p) d
        exact ⟨v2, by rw [g1, Option.bind_some]; exact g2, (f1.up (by decide) (by decide) (by decide)).tr (f2.up (by decide) (by decide) (by decide)), hM2⟩
  · rw [if_neg (show ¬ k < 2 by omega), if_neg (show ¬ (1 : Int32) = 0 by decide)]
    subst hp0
    obtain ⟨R, v1, hR, g1, f1, hM1⟩ := p_ctb_empty hM hI hr ek k4 hk2 ew w4 w40 hB0 hd
    rw [hR] at ho
    refine ⟨fun e => ?_, fun x' e => ?_⟩
    · rw [ho] at e; cases e
    · rw [ho] at e
      cases e
      obtain ⟨v2, g2, f2, hM2⟩ := p_marks (r := r) hM1 (ahd x r 0) d
      exact ⟨v2, by rw [g1, Option.bind_some]; exact g2, (f1.up (by decide) (by decide) (by decide)).tr (f2.up (by decide) (by decide) (by decide)), hM2⟩
  · rw [if_neg (show ¬ k < 2 by omega), if_neg (show ¬ (1 : Int32) = 0 by decide)]
    subst hpe
    have hk' : 2 ≤ xk x r := by rw [ek]; exact nI_le (a := 2) hk2 (by omega)
    have hsq := BOk_sq hBO
    have h0 : 0 < ids.length := List.length_pos_iff.mpr hBO.2.2.2.1
    obtain ⟨vA, gA, hA⟩ := p_cb55 (d := d) hM hI hr hk' hBO
    obtain ⟨vB, hMB, fB, gB⟩ := p_cb130 hM hI hr hk' hBO hd h6 hA
    have hlen : (sq x r).length = (idl B1).length + (ids.length + (idl B2).length) := by rw [hsq, List.length_append, List.length_append]
    have g0 : f_X4_comeToBlock (nI r) (nI ((idl B1).length + q)) (nI d) v = f_X4_comeToBlock_130 (nI r) (nI ((idl B1).length + q)) (nI d) (nI B1.length) (nI (idl B1).length) (nI ids.length) vA := by
      rw [← gA]
      unfold f_X4_comeToBlock
      have e4 : v.2.1 4 r = nI (sq x r).length := hM.2.1 r hr
      rw [if_pos (ix_nI hr (by omega)), nI_clamp (by omega), e4, if_neg (nI_ne0 (by omega) (by omega))]
      by_cases h : (idl B1).length + q = 0
      · rw [h, if_pos (by decide)]
        rfl
      · simp (disch := omega) only [ix_nI, nI_clamp, le_L, le_R, lt_L, lt_R, eq_L, eq_R, ad_L, sb_L, ml_L, nI_leI, nI_ltI, nI_eq, nI_add, pk_mul, nI_m1, if_true, if_false, if_pos, if_neg, Option.bind_some]
    rw [g0, gB]
    rcases hc with ⟨h8, ho⟩ | ⟨h8, ho⟩
    · rw [if_neg (by omega), Option.bind_some]
      refine ⟨fun e => (by rw [ho] at e; cases e), fun x' e => ?_⟩
      rw [ho] at e
      cases e
      obtain ⟨v2, g2, f2, hM2⟩ := p_marks (r := r) hMB (ahd x r ((idl B1).length + q)) d
      exact ⟨v2, g2, (fB.up (by decide) (by decide) (by decide)).tr (f2.up (by decide) (by decide) (by decide)), hM2⟩
    · rw [if_pos (by omega)]
      have hxb := (xIn_sq (d := d) hBO).2
      have hxs := (xIn_sq (d := d) hBO).1
      have hins : (ins ids q d).length = 9 := by rw [ins_len hBO.2.1, h8]
      have hp9 := ins_len (y := d) hp
      have hRx : RwL (xIn x r B1 lab ids B2 q d) := by
        refine RwL_xBlk (RwL_of hI) ?_ ?_
        · have : idl (B1 ++ (lab, ins ids q d) :: B2) = sq (xIn x r B1 lab ids B2 q d) r := by unfold sq; rw [hxb]
          rw [this, hxs, hp9]
          omega
        · have := (RwL_of hI r hr).2
          rw [hBO.1, List.length_append, List.length_cons] at this
          rw [List.length_append, List.length_cons]
          exact this
      have hDx : Dj (xIn x r B1 lab ids B2 q d) r := by
        refine ⟨by rw [hxs]; exact ins_nd (hI.2.2.1 r hr) (hd.2 r hr), fun z hz => ?_, fun s hs8 hsr z hz hz2 => ?_⟩
        · rw [hxs] at hz
          rcases ins_mem.mp hz with e | e
          · rw [e]; exact hd.1
          · exact sq_lt hI hr e
        · have : sq (xIn x r B1 lab ids B2 q d) s = sq x s := xBlk_sq_ne hsr
          rw [this] at hz
          rw [hxs] at hz2
          rcases ins_mem.mp hz2 with e | e
          · exact hd.2 s hs8 (e ▸ hz)
          · exact hI.2.2.2.1 r s hr hs8 (Ne.symm hsr) z e z hz rfl
      have hlab : labs (xb (xIn x r B1 lab ids B2 q d) r) = labs (xb x r) := by rw [hxb, hBO.1]; exact labs_mid
      obtain ⟨c1, c2⟩ := p_part (v := vB) (w := w) hMB hRx hr hk' hDx hxb hins (by
        rw [hxb]
        intro b hb
        rcases List.mem_append.mp hb with e | e
        · exact hBO.2.2.2.2.2.2.2 b (by rw [hBO.1]; simp [e])
        · rcases List.mem_cons.mp e with e | e
          · subst e
            intro z
            have z' : ins ids q d = [] := z
            rw [z'] at hins
            exact absurd hins (by decide)
          · exact hBO.2.2.2.2.2.2.2 b (by rw [hBO.1]; simp [e])) ew (by omega) w40 (by rw [hlab]; exact hs) (by rw [hlab]; exact hL)
      rw [hlab] at c1 c2
      cases hpl : plc false w (labs (xb x r)) (B1.length + 1) with
      | none =>
        rw [hpl] at ho
        obtain ⟨v1, g1, f1⟩ := c1 hpl
        refine ⟨fun _ => ⟨v1, ?_, (fB.up (by decide) (by decide) (by decide)).tr (f1.up (by decide) (by decide) (by decide))⟩, fun x' e => (by rw [ho] at e; cases e)⟩
        rw [g1, Option.bind_some, if_pos rfl, Option.bind_some]
        exact p_marks0 _ _
      | some R =>
        rw [hpl] at ho
        obtain ⟨v1, v2, v3, g1, g2, g3, f3, hM3⟩ := c2 R hpl
        refine ⟨fun e => (by rw [ho] at e; cases e), fun x' e => ?_⟩
        rw [ho] at e
        cases e
        obtain ⟨v4, g4, f4, hM4⟩ := p_marks (r := r) hM3 (ahd x r ((idl B1).length + q)) d
        refine ⟨v4, ?_, ((fB.up (by decide) (by decide) (by decide)).tr (f3.up (by decide) (by decide) (by decide))).tr (f4.up (by decide) (by decide) (by decide)), hM4⟩
        rw [g1, Option.bind_some, if_neg (show ¬ (1 : Int32) = 0 by decide), g2, Option.bind_some, g3, Option.bind_some, Option.bind_some]
        exact g4
end COME
