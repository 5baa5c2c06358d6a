/-! ===== the model: one leaves ===== -/
/-- from place p on one place down, to place n -/
def shD {α : Type} (f : Nat → α) (o p n : Nat) : Nat → α := fun j => if o + p ≤ j ∧ j < o + n then f (j + 1) else f j
section SHD
variable {α : Type} {f : Nat → α} {o p n i : Nat}
theorem shD_0 : shD f o p p = f := by
  funext j
  unfold shD
  rw [if_neg (by omega)]
theorem shD_lt (h : i < p) : shD f o p n (o + i) = f (o + i) := if_neg (by omega)
theorem shD_in (h : p ≤ i) (h2 : i < n) : shD f o p n (o + i) = f (o + (i + 1)) := if_pos (by omega)
theorem shD_out (h : i < o ∨ o + n ≤ i) : shD f o p n i = f i := if_neg (by omega)
end SHD
theorem shD_s (f : Nat → Int32) {o p i : Nat} (h : p ≤ i) : upd (shD f o p i) (o + i) (shD f o p i (o + i + 1)) = shD f o p (i + 1) := by
  funext j
  by_cases e : j = o + i
  · subst e
    rw [pk_us, shD_in (by omega) (by omega)]
    exact if_neg (by omega)
  · rw [pk_un e]
    unfold shD
    by_cases q : o + p ≤ j ∧ j < o + i
    · rw [if_pos q, if_pos (by omega)]
    · rw [if_neg q, if_neg (by omega)]
theorem shD_sL (f : Nat → Int64) {o p i : Nat} (h : p ≤ i) : vp_updL (shD f o p i) (o + i) (shD f o p i (o + i + 1)) = shD f o p (i + 1) := by
  funext j
  by_cases e : j = o + i
  · subst e
    rw [pk_uLs, shD_in (by omega) (by omega)]
    exact if_neg (by omega)
  · rw [pk_uLn e]
    unfold shD
    by_cases q : o + p ≤ j ∧ j < o + i
    · rw [if_pos q, if_pos (by omega)]
    · rw [if_neg q, if_neg (by omega)]
/-- the marks behind one that goes -/
def mkl (x : XS) (r : Nat) (b : Int32) (d m : Nat) : Int32 := if xm x 1 m = nI r ∧ xm x 2 m = nI d then b else xm x 2 m
def xLv (x : XS) (r : Nat) (B : BL) (b : Int32) (d : Nat) : XS := (xk x, xw x, xg x, va_up (xb x) r B, xi x, va_up (xm x) 2 (mkl x r b d), xr x)
/-- the blocks without place t of one of them -/
def blv (B1 : BL) (lab : Nat) (ids : List Nat) (B2 : BL) (t : Nat) : BL := if ids.length = 1 then B1 ++ B2 else B1 ++ (lab, cut ids t (t + 1)) :: B2
theorem cut_mid {A J C : List Nat} {t : Nat} (ht : t < J.length) : cut (A ++ (J ++ C)) (A.length + t) (A.length + t + 1) = A ++ (cut J t (t + 1) ++ C) := by
  unfold cut
  rw [List.take_append, List.drop_append, List.take_of_length_le (by omega), List.drop_of_length_le (by omega), Nat.add_sub_cancel_left, List.take_append_of_le_length (by omega), show A.length + t + 1 - A.length = t + 1 from by omega, List.drop_append_of_le_length (by omega)]
  simp
theorem blv_idl {B1 B2 : BL} {lab t : Nat} {ids : List Nat} (ht : t < ids.length) : idl (blv B1 lab ids B2 t) = cut (idl (B1 ++ (lab, ids) :: B2)) ((idl B1).length + t) ((idl B1).length + t + 1) := by
  rw [idl_app, idl_cons, cut_mid ht]
  unfold blv
  split
  · rename_i h
    have e : cut ids t (t + 1) = [] := by
      apply List.length_eq_zero_iff.mp
      rw [cut_len (by omega) (by omega)]
      omega
    rw [e, idl_app]
    rfl
  · rw [idl_app, idl_cons]
section LEAVE
variable {v : MS} {x : XS} {r : Nat}
theorem p_lv234 (hM : MA (core v) x) (b : Int32) (d : Nat) : ∃ v', f_X4_leave_234 NF (nI r) (nI d) b 0 v = some v' ∧ Fm [] [13] [] v v' ∧ MA (core v') (xLv x r (xb x r) b d) := by
  have h7 := hM.2.2.2.2.2.2.1
  have e0 : v = wA v 13 (pt (v.2.1 13) (mkl x r b d) 0 0) := by rw [pt_0, wA_id]
  have g : f_X4_leave_234 NF (nI r) (nI d) b 0 v = some (wA v 13 (pt (v.2.1 13) (mkl x r b d) 0 20)) := by
    refine Eq.trans (congrArg (f_X4_leave_234 NF (nI r) (nI d) b 0) e0) ?_
    refine loopE (fun m i => f_X4_leave_234 m (nI r) (nI d) b (nI i) (wA v 13 (pt (v.2.1 13) (mkl x r b d) 0 i))) (a := 0) (b := 20) (Nat.zero_le _) (NF_lt (by omega)) (fun m i h1 h2 => ?_) (fun m => ?_)
    · obtain ⟨m1, m2, m3⟩ := h7 i h2
      have m1' : v.2.1 12 i = xm x 1 i := m1
      have m2' : v.2.1 13 i = xm x 2 i := m2
      have hs := pt_s (v.2.1 13) (mkl x r b d) 0 i
      rw [Nat.zero_add] at hs
      have hk : pt (v.2.1 13) (mkl x r b d) 0 i i = xm x 2 i := by rw [pt_out (by omega), m2']
      rw [f_X4_leave_234, if_neg (show ¬ (20 : Int32) ≤ nI i from nI_ge (b := 20) h2 (by omega))]
      simp (disch := omega) only [ix_nI, nI_clamp, le_L, le_R, lt_L, lt_R, eq_L, eq_R, ad_L, sb_L, ml_L, nI_leI, nI_ltI, nI_eq, nI_add, pk_mul, nI_m1, if_true, if_false, if_pos, if_neg, Option.bind_some, mA_at, mA_i, mA_k, mA_1, mA_22, mF_at, mF_ne, mF_2, mB_at, mB_i, mB_k, mB_1, mB_21, wA_k, wA_at, mA_wA, m1', hk]
      by_cases c1 : xm x 1 i = nI r
      · by_cases c2 : xm x 2 i = nI d
        · have : mkl x r b d i = b := if_pos ⟨c1, c2⟩
          rw [if_pos c1, if_pos c2, ← hs, this]
        · have : mkl x r b d i = xm x 2 i := if_neg (fun z => c2 z.2)
          rw [if_pos c1, if_neg c2, ← hs, this]
      · have : mkl x r b d i = xm x 2 i := if_neg (fun z => c1 z.1)
        rw [if_neg c1, ← hs, this]
    · rw [f_X4_leave_234, if_pos (show (20 : Int32) ≤ nI 20 by decide)]
  refine ⟨_, g, Fm.rf.wA (by decide), ?_⟩
  obtain ⟨m1, m2, m3, m4, m5, m6, m7, m8⟩ := hM
  have eb : va_up (xb x) r (xb x r) = xb x := up_id rfl
  have e1 : xLv x r (xb x r) b d = (xk x, xw x, xg x, xb x, xi x, va_up (xm x) 2 (mkl x r b d), xr x) := by unfold xLv; rw [eb]
  rw [e1]
  refine ⟨m1, m2, m3, m4, m5, m6, fun m hm => ?_, m8⟩
  obtain ⟨k1, k2, k3⟩ := m7 m hm
  refine ⟨k1, ?_, k3⟩
  rw [core_1, wA_at, pt_in (by omega) (by omega), Nat.sub_zero]
  exact (congrFun (va_up_self (xm x) 2 (mkl x r b d)) m).symm
theorem p_lv186 {u : MS} {p n : Nat} {x3 x4 : Int32} (hr : r < 8) (hn : u.2.1 4 r = nI n) (hp : p ≤ n) (h6 : n < 600) : f_X4_leave_186 NF (nI r) x3 x4 (nI p) u = f_X4_leave_234 NF (nI r) x3 x4 0 (wA u 7 (shD (u.2.1 7) (600 * r) p n)) := by
  have e0 : u = wA u 7 (shD (u.2.1 7) (600 * r) p p) := by rw [shD_0, wA_id]
  refine Eq.trans (congrArg (f_X4_leave_186 NF (nI r) x3 x4 (nI p)) e0) ?_
  refine loopE (fun m i => f_X4_leave_186 m (nI r) x3 x4 (nI i) (wA u 7 (shD (u.2.1 7) (600 * r) p i))) hp (NF_lt (by omega)) (fun m i h1 h2 => ?_) (fun m => ?_)
  · have h := shD_s (u.2.1 7) (o := 600 * r) h1
    rw [f_X4_leave_186]
    simp (disch := omega) only [ix_nI, nI_clamp, le_L, le_R, lt_L, lt_R, eq_L, eq_R, ad_L, sb_L, ml_L, nI_leI, nI_ltI, nI_eq, nI_add, pk_mul, nI_m1, if_true, if_false, if_pos, if_neg, Option.bind_some, mA_at, mA_i, mA_k, mA_1, mA_22, mF_at, mF_ne, mF_2, mB_at, mB_i, mB_k, mB_1, mB_21, wA_k, wA_at, mA_wA, hn, h]
  · rw [f_X4_leave_186]
    simp (disch := omega) only [ix_nI, nI_clamp, le_L, le_R, lt_L, lt_R, eq_L, eq_R, ad_L, sb_L, ml_L, nI_leI, nI_ltI, nI_eq, nI_add, pk_mul, nI_m1, if_true, if_false, if_pos, if_neg, Option.bind_some, mA_at, mA_i, mA_k, mA_1, mA_22, mF_at, mF_ne, mF_2, mB_at, mB_i, mB_k, mB_1, mB_21, wA_k, hn]
theorem p_lv100 {u : MS} {k n : Nat} {x2 x3 x4 : Int32} (hr : r < 8) (hn : u.2.1 6 r = nI n) (hk : k ≤ n) (h6 : n < 600) : f_X4_leave_100 NF (nI r) x2 x3 x4 (nI k) u = f_X4_leave_186 NF (nI r) x3 x4 x2 (mA (wB (wA u 8 (shD (u.2.1 8) (600 * r) k n)) 9 (shD (u.2.2 9) (600 * r) k n)) 4 r (u.2.1 4 r - 1)) := by
  have e0 : u = wB (wA u 8 (shD (u.2.1 8) (600 * r) k k)) 9 (shD (u.2.2 9) (600 * r) k k) := by
    rw [shD_0, shD_0, wA_id, wB_id]
  refine Eq.trans (congrArg (f_X4_leave_100 NF (nI r) x2 x3 x4 (nI k)) e0) ?_
  refine loopE (fun m i => f_X4_leave_100 m (nI r) x2 x3 x4 (nI i) (wB (wA u 8 (shD (u.2.1 8) (600 * r) k i)) 9 (shD (u.2.2 9) (600 * r) k i))) hk (NF_lt (by omega)) (fun m i h1 h2 => ?_) (fun m => ?_)
  · have h := shD_s (u.2.1 8) (o := 600 * r) h1
    have h' := shD_sL (u.2.2 9) (o := 600 * r) h1
    have e : ∀ (f : Nat → Int32) (g : Nat → Int64) (i : Nat) (y : Int32), mA (wB (wA u 8 f) 9 g) 8 i y = wB (wA u 8 (upd f i y)) 9 g := by
      intro f g i y
      unfold mA wB wA
      dsimp only
      rw [up_up, va_up_self]
    rw [f_X4_leave_100]
    simp (disch := omega) only [ix_nI, nI_clamp, le_L, le_R, lt_L, lt_R, eq_L, eq_R, ad_L, sb_L, ml_L, nI_leI, nI_ltI, nI_eq, nI_add, pk_mul, nI_m1, if_true, if_false, if_pos, if_neg, Option.bind_some, mA_at, mA_i, mA_k, mA_1, mA_22, mF_at, mF_ne, mF_2, mB_at, mB_i, mB_k, mB_1, mB_21, wB_21, wA_k, wA_at, wB_at, e, mB_wB, hn, h, h']
  · rw [f_X4_leave_100]
    simp (disch := omega) only [ix_nI, nI_clamp, le_L, le_R, lt_L, lt_R, eq_L, eq_R, ad_L, sb_L, ml_L, nI_leI, nI_ltI, nI_eq, nI_add, pk_mul, nI_m1, if_true, if_false, if_pos, if_neg, Option.bind_some, mA_at, mA_i, mA_k, mA_1, mA_22, mF_at, mF_ne, mF_2, mB_at, mB_i, mB_k, mB_1, mB_21, wB_21, wA_k, hn]
/-- the list without place p -/
theorem i7_cut {u : MS} {p : Nat} {l : List Nat} (h : ∀ i, i < l.length → u.2.1 7 (600 * r + i) = nI (l.getD i 0)) (hp : p < l.length) : ∀ i, i < (cut l p (p + 1)).length → (wA u 7 (shD (u.2.1 7) (600 * r) p (l.length - 1))).2.1 7 (600 * r + i) = nI ((cut l p (p + 1)).getD i 0) := by
  intro i hi
  rw [cut_len (by omega) (by omega)] at hi
  rw [wA_at]
  by_cases z : i < p
  · rw [shD_lt z, cut_lt (by omega) (by omega) z, h i (by omega)]
  · rw [shD_in (by omega) (by omega), cut_ge (by omega) (by omega) (by omega), show i + (p + 1 - p) = i + 1 from by omega, h (i + 1) (by omega)]
theorem p_leave {T : Nat} (hM : MA (core v) x) (hI : RwL x) (hr : r < 8) {k : Nat} (hk : xk x r = nI k) (hk4 : k < 4) {B1 B2 : BL} {lab t : Nat} {ids : List Nat} (hB : xb x r = B1 ++ (lab, ids) :: B2) (ht : t < ids.length) (h1 : k < 2 → ids.length = 1) (hd6 : ∀ d ∈ sq x r, d < 600) (hne : ∀ b ∈ xb x r, b.2 ≠ []) :
    ∃ v', f_X4_leave (nI r) (nI ((idl B1).length + t)) v = some v' ∧ Fm [] [4, 6, 7, 8, 13] [9] v v' ∧ MA (core v') (xLv x r (blv B1 lab ids B2 t) (ahd x r ((idl B1).length + t)) (ids.getD t 0)) := by
  have hsq : sq x r = idl B1 ++ (ids ++ idl B2) := by unfold sq; rw [hB, idl_app, idl_cons]
  have hsl : (sq x r).length = (idl B1).length + (ids.length + (idl B2).length) := by rw [hsq, List.length_append, List.length_append]
  have hl6 : (sq x r).length ≤ 600 := (hI r hr).1
  have hidl : idl (blv B1 lab ids B2 t) = cut (sq x r) ((idl B1).length + t) ((idl B1).length + t + 1) := by
    rw [blv_idl ht, ← hB]
    rfl
  have e7 : v.2.1 7 (600 * r + ((idl B1).length + t)) = nI (ids.getD t 0) := by
    have := hM.2.2.1 r hr ((idl B1).length + t) (by omega)
    rw [hsq, gD_in ht] at this
    exact this
  have e4 : v.2.1 4 r = nI (sq x r).length := hM.2.1 r hr
  -- its head
  have g0 : f_X4_leave (nI r) (nI ((idl B1).length + t)) v = f_X4_leave_35 (nI r) (nI ((idl B1).length + t)) (nI (ids.getD t 0)) (ahd x r ((idl B1).length + t)) v := by
    unfold f_X4_leave ahd
    by_cases hp0 : (idl B1).length + t = 0
    · rw [if_pos hp0]
      simp (disch := omega) only [ix_nI, nI_clamp, le_L, le_R, lt_L, lt_R, eq_L, eq_R, ad_L, sb_L, ml_L, nI_leI, nI_ltI, nI_eq, nI_add, pk_mul, nI_m1, if_true, if_false, if_pos, if_neg, Option.bind_some, e7]
    · have e7' : v.2.1 7 (600 * r + ((idl B1).length + t - 1)) = nI ((sq x r).getD ((idl B1).length + t - 1) 0) := hM.2.2.1 r hr _ (by omega)
      have ee : 600 * r + ((idl B1).length + t) - 1 = 600 * r + ((idl B1).length + t - 1) := by omega
      rw [if_neg hp0]
      simp (disch := omega) only [ix_nI, nI_clamp, le_L, le_R, lt_L, lt_R, eq_L, eq_R, ad_L, sb_L, ml_L, nI_leI, nI_ltI, nI_eq, nI_add, pk_mul, nI_m1, if_true, if_false, if_pos, if_neg, Option.bind_some, e7, ee, e7']
  -- its end
  have tail : ∀ (u : MS), Fm [] [4, 6, 8] [9] v u → u.2.1 4 r = nI ((sq x r).length - 1) → (∀ s, s ≠ r → u.2.1 4 s = v.2.1 4 s ∧ u.2.1 6 s = v.2.1 6 s) → (∀ j, (j < 600 * r ∨ 600 * r + 600 ≤ j) → u.2.1 8 j = v.2.1 8 j ∧ u.2.2 9 j = v.2.2 9 j) → (2 ≤ xk x r → u.2.1 6 r = nI (blv B1 lab ids B2 t).length ∧ ∀ q, q < (blv B1 lab ids B2 t).length → u.2.1 8 (600 * r + q) = nI ((blv B1 lab ids B2 t).getD q (0, [])).2.length ∧ u.2.2 9 (600 * r + q) = lN ((blv B1 lab ids B2 t).getD q (0, [])).1) →
      ∃ v', f_X4_leave_186 NF (nI r) (nI (ids.getD t 0)) (ahd x r ((idl B1).length + t)) (nI ((idl B1).length + t)) u = some v' ∧ Fm [] [4, 6, 7, 8, 13] [9] v v' ∧ MA (core v') (xLv x r (blv B1 lab ids B2 t) (ahd x r ((idl B1).length + t)) (ids.getD t 0)) := by
    intro u fu u4 u46 u89 ub
    have hcl := cut_len (l := sq x r) (f := (idl B1).length + t) (u := (idl B1).length + t + 1) (by omega) (by omega)
    have hMu : MA (core (wA u 7 (shD (u.2.1 7) (600 * r) ((idl B1).length + t) ((sq x r).length - 1)))) (xBlk x r (blv B1 lab ids B2 t) (xi x) 0 0) := by
      have h7u : ∀ i, i < (sq x r).length → u.2.1 7 (600 * r + i) = nI ((sq x r).getD i 0) := by
        intro i hi
        rw [fu.2.1 7 (by decide)]; exact hM.2.2.1 r hr i hi
      refine MA_xBlk hM hI hr ?_ ?_ ?_ ?_ ?_ ?_ ?_ ?_ ?_ ?_ ?_
      · rw [wA_k (by decide), fu.2.1 5 (by decide)]; rfl
      · rw [wA_1, fu.1 15 (by decide)]; exact (Int32.add_zero _).symm
      · intro s _ _ e _
        exact ⟨by rw [wA_22, fu.2.2 10 (by decide)], by rw [wA_k (by decide), fu.2.1 11 (by decide)], rfl⟩
      · exact ⟨by rw [wA_k (by decide), fu.2.1 2 (by decide)], by rw [wA_k (by decide), fu.2.1 3 (by decide)], by rw [wA_k (by decide), fu.2.1 12 (by decide)], by rw [wA_k (by decide), fu.2.1 13 (by decide)], by rw [wA_k (by decide), fu.2.1 14 (by decide)]⟩
      · intro s hs
        exact ⟨by rw [wA_k (by decide), (u46 s hs).1], by rw [wA_k (by decide), (u46 s hs).2]⟩
      · intro j hj
        exact ⟨by rw [wA_at, shD_out (by omega), fu.2.1 7 (by decide)], by rw [wA_k (by decide), (u89 j hj).1], by rw [wA_22, (u89 j hj).2]⟩
      · rw [hidl, hcl, wA_k (by decide), u4]
        congr 1
        omega
      · rw [hidl]; exact i7_cut h7u (by omega)
      · intro hkk b hb e he
        have hk2 : k < 2 := by
          rw [hk, le_L (by omega) (by decide)] at hkk
          omega
        have hbm : b ∈ xb x r := by
          unfold blv at hb
          rw [if_pos (h1 hk2)] at hb
          rw [hB]
          rcases List.mem_append.mp hb with z | z
          · exact List.mem_append_left _ z
          · exact List.mem_append_right _ (List.mem_cons_of_mem _ z)
        rw [wA_22, fu.2.2 10 (by decide)]
        exact hM.2.2.2.1 r hr hkk b hbm e he
      · intro hkk
        rw [wA_k (by decide), wA_k (by decide), wA_22]
        exact ub hkk
      · intro hkk e he
        rw [hidl] at he
        rw [wA_k (by decide), fu.2.1 11 (by decide)]
        refine hM.2.2.2.2.2.1 r hr hkk e ?_
        unfold cut at he
        rcases List.mem_append.mp he with z | z
        · exact List.mem_of_mem_take z
        · exact List.mem_of_mem_drop z
    obtain ⟨v', g, f, hM'⟩ := p_lv234 (r := r) hMu (ahd x r ((idl B1).length + t)) (ids.getD t 0)
    refine ⟨v', ?_, ?_, ?_⟩
    · rw [p_lv186 hr u4 (by omega) (by omega), g]
    · exact ((fu.up (by decide) (by decide) (by decide)).wA (by decide)).tr (f.up (by decide) (by decide) (by decide))
    · have e : xLv (xBlk x r (blv B1 lab ids B2 t) (xi x) 0 0) r (xb (xBlk x r (blv B1 lab ids B2 t) (xi x) 0 0) r) (ahd x r ((idl B1).length + t)) (ids.getD t 0) = xLv x r (blv B1 lab ids B2 t) (ahd x r ((idl B1).length + t)) (ids.getD t 0) := by
        have eb : xb (xBlk x r (blv B1 lab ids B2 t) (xi x) 0 0) r = blv B1 lab ids B2 t := xBlk_b
        have er : xr x + 0 = xr x := Int32.add_zero _
        rw [eb]
        unfold xLv xBlk
        refine Prod.ext rfl (Prod.ext rfl (Prod.ext rfl (Prod.ext ?_ (Prod.ext rfl (Prod.ext rfl er)))))
        exact up_up _ _ _ _
      rw [← e]; exact hM'
  rw [g0]
  unfold f_X4_leave_35
  rw [hasB hM hr hk hk4, Option.bind_some]
  have em1 : nI (sq x r).length - 1 = nI ((sq x r).length - 1) := pk_sub (b := 1) (by omega)
  by_cases hk2 : k < 2
  · rw [if_pos hk2, if_pos rfl, if_pos (ix_nI hr (by omega)), if_pos (ix_nI hr (by omega)), nI_clamp (by omega), e4, em1]
    refine tail _ (Fm.rf.pA (by decide)) mA_at (fun s hs => ⟨mA_i hs, by rw [mA_k (by decide)]⟩) (fun j _ => ⟨by rw [mA_k (by decide)], rfl⟩) (fun z => ?_)
    rw [hk, le_L (by omega) (by decide)] at z
    omega
  · rw [if_neg hk2, if_neg (show ¬ (1 : Int32) = 0 by decide)]
    have hk' : 2 ≤ xk x r := by rw [hk]; exact nI_le (a := 2) (by omega) (by omega)
    have hBK := BK_of hM hr hk'
    have hbl := bl_len2 hne
    have hBl : (xb x r).length = B1.length + 1 + B2.length := by rw [hB, List.length_append, List.length_cons]; omega
    have hb6 := (hI r hr).2
    have hps : psum (lens (xb x r)) B1.length = (idl B1).length := by rw [hB]; exact psum_app B1 _
    have hgd : (lens (xb x r)).getD B1.length 0 = ids.length := by rw [hB]; exact lens_at
    have gB := p_blockAt (v := v) hr hBK (by rw [lens_len]; omega) (k := B1.length) (t := t) (by rw [lens_len]; omega) (by rw [hgd]; exact ht) (by rw [hps, hgd]; omega)
    rw [hps] at gB
    have e8 : v.2.1 8 (600 * r + B1.length) = nI ids.length := by rw [hBK.2.2.1 B1.length (by rw [lens_len]; omega), hgd]
    have e6 : v.2.1 6 r = nI (xb x r).length := by rw [hBK.1, lens_len]
    have em2 : nI ids.length - 1 = nI (ids.length - 1) := pk_sub (b := 1) (by omega)
    have em3 : nI (xb x r).length - 1 = nI ((xb x r).length - 1) := pk_sub (b := 1) (by omega)
    have ec : cut ids t (t + 1) = cut ids t (t + 1) := rfl
    rw [gB, Option.bind_some, ml_L, nI_add, if_pos (ix_nI (by omega) (by omega)), if_pos (ix_nI (by omega) (by omega)), if_pos (ix_nI (by omega) (by omega)), nI_clamp (by omega), mA_at, e8, em2, if_pos (ix_nI hr (by omega)), if_pos (ix_nI hr (by omega)), if_pos (ix_nI hr (by omega)), if_pos (ix_nI hr (by omega)), nI_clamp (by omega), mA_k (show (6 : Nat) ≠ 8 by decide), mA_k (show (4 : Nat) ≠ 8 by decide), e6, em3, e4, em1]
    by_cases hone : ids.length = 1
    · have hbv : blv B1 lab ids B2 t = B1 ++ B2 := if_pos hone
      rw [if_pos (by rw [hone]; rfl), p_lv100 hr mA_at (by omega) (by omega)]
      rw [mA_k (show (4 : Nat) ≠ 6 by decide), mA_k (show (4 : Nat) ≠ 8 by decide), e4, em1]
      refine tail _ ((((((Fm.rf.pA (by decide)).pA (by decide)).wA (by decide)).wB (by decide))).pA (by decide)) mA_at (fun s hs => ⟨?_, ?_⟩) (fun j hj => ⟨?_, ?_⟩) (fun _ => ⟨?_, fun q hq => ?_⟩)
      · rw [mA_i hs, wB_21, wA_k (by decide), mA_k (by decide), mA_k (by decide)]
      · rw [mA_k (by decide), wB_21, wA_k (by decide), mA_i hs, mA_k (by decide)]
      · rw [mA_k (by decide), wB_21, wA_at, shD_out (by omega), mA_k (by decide), mA_i (by omega)]
      · rw [mA_22, wB_at, shD_out (by omega), mA_22, mA_22]
      · rw [mA_k (by decide), wB_21, wA_k (by decide), mA_at, hbv, List.length_append]
        congr 1
        omega
      · rw [hbv, List.length_append] at hq
        rw [hbv, mA_k (by decide), wB_21, wA_at, mA_22, wB_at]
        have c8 := hBK.2.2.1
        have c9 := hBK.2.2.2
        by_cases z : q < B1.length
        · have e1 : (B1 ++ B2).getD q (0, []) = (xb x r).getD q (0, []) := by
            rw [hB, List.getD_eq_getElem?_getD, List.getD_eq_getElem?_getD, List.getElem?_append_left z, List.getElem?_append_left z]
          rw [shD_lt z, shD_lt z, mA_k (by decide), mA_i (by omega), mA_22, mA_22, c8 q (by rw [lens_len]; omega), c9 q (by rw [lens_len]; omega), lens_gD (by omega), labs_gD (by omega), e1]
          exact ⟨rfl, rfl⟩
        · have e1 : (B1 ++ B2).getD q (0, []) = (xb x r).getD (q + 1) (0, []) := by
            rw [hB, List.getD_eq_getElem?_getD, List.getD_eq_getElem?_getD, List.getElem?_append_right (by omega), List.getElem?_append_right (by omega), show q + 1 - B1.length = (q - B1.length) + 1 from by omega, List.getElem?_cons_succ]
          rw [shD_in (by omega) (by omega), shD_in (by omega) (by omega), mA_k (by decide), mA_i (by omega), mA_22, mA_22, c8 (q + 1) (by rw [lens_len]; omega), c9 (q + 1) (by rw [lens_len]; omega), lens_gD (by omega), labs_gD (by omega), e1]
          exact ⟨rfl, rfl⟩
    · have hbv : blv B1 lab ids B2 t = B1 ++ (lab, cut ids t (t + 1)) :: B2 := if_neg hone
      have hcl : (cut ids t (t + 1)).length = ids.length - 1 := by rw [cut_len (by omega) (by omega)]; omega
      rw [if_neg (nI_ne0 (by omega) (by omega))]
      refine tail _ ((Fm.rf.pA (by decide)).pA (by decide)) mA_at (fun s hs => ⟨?_, ?_⟩) (fun j hj => ⟨?_, ?_⟩) (fun _ => ⟨?_, fun q hq => ?_⟩)
      · rw [mA_i hs, mA_k (by decide)]
      · rw [mA_k (by decide), mA_k (by decide)]
      · rw [mA_k (by decide), mA_i (by omega)]
      · rw [mA_22, mA_22]
      · rw [mA_k (by decide), mA_k (by decide), e6, hbv, hB, List.length_append, List.length_append]
        rfl
      · rw [hbv, List.length_append, List.length_cons] at hq
        rw [hbv, mA_k (by decide), mA_22, mA_22]
        have c8 := hBK.2.2.1 q (by rw [lens_len]; omega)
        have c9 := hBK.2.2.2 q (by rw [lens_len]; omega)
        rw [lens_gD (by omega), hB] at c8
        rw [labs_gD (by omega), hB] at c9
        by_cases z : q = B1.length
        · subst z
          rw [mA_at, gD_mid, hcl]
          refine ⟨rfl, ?_⟩
          rw [c9, gD_mid]
        · rw [mA_i (by omega), c8, c9, gD_mid_ne (y := (lab, cut ids t (t + 1))) (z := (lab, ids)) z]
          exact ⟨rfl, rfl⟩
end LEAVE
