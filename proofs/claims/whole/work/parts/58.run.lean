/-! ===== the class: labelRun ===== -/
theorem BB_split {BB : BL} {i : Nat} (hi : i < BB.length) : BB = BB.take i ++ BB.getD i (0, []) :: BB.drop (i + 1) := by
  rw [gD hi, ← List.drop_eq_getElem_cons hi, List.take_append_drop]
theorem psum_take {BB : BL} {i : Nat} (hi : i ≤ BB.length) : psum (lens BB) i = (idl (BB.take i)).length := by
  have := psum_app (BB.take i) (BB.drop i)
  rw [List.take_append_drop, List.length_take, Nat.min_eq_left hi] at this
  exact this
theorem psum_all {BB : BL} : psum (lens BB) BB.length = (idl BB).length := by rw [psum_take (Nat.le_refl _), List.take_length]
theorem psum_s2 {BB : BL} {i : Nat} (hi : i < BB.length) : psum (lens BB) (i + 1) = psum (lens BB) i + (BB.getD i (0, [])).2.length := by
  rw [psum_s (by rw [lens_len]; exact hi), lens_gD hi]
theorem psum_le {BB : BL} {i : Nat} (hi : i ≤ BB.length) : psum (lens BB) i ≤ (idl BB).length := by
  rw [← psum_all]
  exact psum_mono hi (by rw [lens_len]; exact Nat.le_refl _)
theorem idl_at {BB : BL} {i t : Nat} (hi : i < BB.length) (ht : t < (BB.getD i (0, [])).2.length) : psum (lens BB) i + t < (idl BB).length ∧ (idl BB).getD (psum (lens BB) i + t) 0 = (BB.getD i (0, [])).2.getD t 0 := by
  have h1 := psum_s2 hi
  have h2 := psum_le (BB := BB) (i := i + 1) (by omega)
  refine ⟨by omega, ?_⟩
  have e : idl BB = idl (BB.take i) ++ ((BB.getD i (0, [])).2 ++ idl (BB.drop (i + 1))) := by
    rw [← idl_cons, ← idl_app, ← BB_split hi]
  rw [psum_take (by omega), e, gD_in ht]
theorem getD_mem2 {BB : BL} {i : Nat} (hi : i < BB.length) : BB.getD i (0, []) ∈ BB := by rw [gD hi]; exact List.getElem_mem hi
/-- row r of the class holds the blocks BB -/
def CB (a : SS) (S : Nat → List Nat) (r : Nat) (BB : BL) : Prop := OR a.1 S ∧ ofS S 8 ≤ 600 ∧ r < 8 ∧ S r = idl BB ∧ (S r).Nodup ∧ (∀ d ∈ S r, d < 600) ∧ (∀ b ∈ BB, b.2 ≠ [] ∧ gl b.1) ∧ (∀ b ∈ BB, ∀ d ∈ b.2, a.2.2.2.1 d = lN b.1)
section CBS
variable {a : SS} {S : Nat → List Nat} {r : Nat} {BB : BL}
theorem CB_line (h : CB a S r BB) {i t : Nat} (hi : i < BB.length) (ht : t < (BB.getD i (0, [])).2.length) : a.1 1 (ofS S r + psum (lens BB) i + t) = nI ((BB.getD i (0, [])).2.getD t 0) ∧ ofS S r + psum (lens BB) i + t < 600 ∧ (BB.getD i (0, [])).2.getD t 0 < 600 := by
  obtain ⟨hO, h8, hr, hS, hn, hlt, hne, hlab⟩ := h
  obtain ⟨e1, e2⟩ := idl_at hi ht
  have hle := o_le (S := S) hr
  rw [← hS] at e1 e2
  have := hO.2.1 r hr _ e1
  rw [e2, ← Nat.add_assoc] at this
  refine ⟨this, by omega, hlt _ ?_⟩
  rw [hS]
  exact mem_idl (getD_mem2 hi) (getD_mem ht)
theorem CB_len (h : CB a S r BB) {i : Nat} (hi : i < BB.length) : 0 < (BB.getD i (0, [])).2.length := List.length_pos_iff.mpr (h.2.2.2.2.2.2.1 _ (getD_mem2 hi)).1
theorem CB_labelAt (h : CB a S r BB) {i t : Nat} (hi : i < BB.length) (ht : t < (BB.getD i (0, [])).2.length) : f_X2_labelAt (nI (ofS S r + psum (lens BB) i + t)) a = some (lN (BB.getD i (0, [])).1) := by
  obtain ⟨e1, e2, e3⟩ := CB_line h hi ht
  rw [c_labelAt e2 e1 e3, h.2.2.2.2.2.2.2 _ (getD_mem2 hi) _ (getD_mem ht)]
theorem CB_bd (h : CB a S r BB) {i : Nat} (hi : i ≤ BB.length) : ofS S r + psum (lens BB) i ≤ ofS S r + (S r).length ∧ ofS S r + (S r).length ≤ 600 := by
  have h1 := psum_le (BB := BB) hi
  have h2 := o_le (S := S) h.2.2.1
  have h3 := h.2.1
  rw [h.2.2.2.1] at h2 ⊢
  omega
theorem CB_at (h : CB a S r BB) {i k : Nat} (hik : i ≤ k) (hk : k ≤ BB.length) : At a (ofS S r + psum (lens BB) i) (idl ((BB.drop i).take (k - i))) ∧ (idl ((BB.drop i).take (k - i))).length = psum (lens BB) k - psum (lens BB) i := by
  have hb := CB_bd h (i := k) hk
  obtain ⟨hO, h8, hr, hS, hn, hlt, hne, hlab⟩ := h
  have e : BB = BB.take i ++ ((BB.drop i).take (k - i) ++ BB.drop k) := by
    have : (BB.drop i).drop (k - i) = BB.drop k := by rw [List.drop_drop]; congr 1; omega
    rw [← this, List.take_append_drop, List.take_append_drop]
  have e2 : idl BB = idl (BB.take i) ++ (idl ((BB.drop i).take (k - i)) ++ idl (BB.drop k)) := by
    rw [← idl_app, ← idl_app, ← e]
  have e3 : psum (lens BB) k = psum (lens BB) i + (idl ((BB.drop i).take (k - i))).length := by
    have hk' : BB.take k = BB.take i ++ (BB.drop i).take (k - i) := by
      rw [← List.take_add]
      congr 1
      omega
    rw [psum_take hk, psum_take (by omega), hk', idl_app, List.length_append]
  have hA : At a (ofS S r) (idl BB) := by
    refine ⟨by rw [hS] at hb; omega, by rw [← hS]; exact hn, fun j hj => ?_, by rw [← hS]; exact hlt⟩
    rw [← hS] at hj ⊢
    exact hO.2.1 r hr j hj
  rw [e2] at hA
  have := hA.app.2.app.1
  rw [← psum_take (by omega)] at this
  exact ⟨this, by omega⟩
theorem chn_of {last : Int64} : ∀ {M : BL}, (0 < M.length → lN (M.getD 0 (0, [])).1 ≠ last) → (∀ i, i + 1 < M.length → lN (M.getD (i + 1) (0, [])).1 ≠ lN (M.getD i (0, [])).1) → chn last M := by
  intro M
  induction M generalizing last with
  | nil => intro _ _; trivial
  | cons b M ih =>
    intro h1 h2
    refine ⟨h1 (by rw [List.length_cons]; omega), ih (fun h => ?_) (fun i hi => ?_)⟩
    · exact h2 0 (by rw [List.length_cons]; omega)
    · exact h2 (i + 1) (by rw [List.length_cons]; omega)
end CBS
/-- a fresh run F between the blocks B1 and B2 -/
def LB (a : SS) (S : Nat → List Nat) (r : Nat) (B1 : BL) (F : List Nat) (B2 : BL) (w : Nat) : Prop := CB a S r (B1 ++ (FRS, F) :: B2) ∧ (labs (B1 ++ B2)).Pairwise (· < ·) ∧ (∀ d ∈ labs (B1 ++ B2), d < 2 ^ w) ∧ a.2.2.1 3 r = nI w ∧ 4 ≤ w ∧ w ≤ 40
section RUN
variable {a : SS} {S : Nat → List Nat} {r w : Nat} {B1 B2 : BL} {F : List Nat}
theorem LB_lt {i : Nat} (hi : i < B1.length) : ((B1 ++ (FRS, F) :: B2).getD i (0, [])).1 = (labs (B1 ++ B2)).getD i 0 := by
  rw [labs_gD (by rw [List.length_append]; omega)]
  congr 1
  rw [List.getD_eq_getElem?_getD, List.getD_eq_getElem?_getD, List.getElem?_append_left hi, List.getElem?_append_left hi]
theorem LB_at : (B1 ++ (FRS, F) :: B2).getD B1.length (0, []) = (FRS, F) := gD_mid
theorem LB_gt {i : Nat} (hi : B1.length < i) (hi2 : i < (B1 ++ (FRS, F) :: B2).length) : ((B1 ++ (FRS, F) :: B2).getD i (0, [])).1 = (labs (B1 ++ B2)).getD (i - 1) 0 := by
  rw [List.length_append, List.length_cons] at hi2
  rw [labs_gD (by rw [List.length_append]; omega)]
  congr 1
  obtain ⟨k, rfl⟩ : ∃ k, i = B1.length + k + 1 := ⟨i - B1.length - 1, by omega⟩
  rw [List.getD_eq_getElem?_getD, List.getD_eq_getElem?_getD, List.getElem?_append_right (by omega), List.getElem?_append_right (by omega), show B1.length + k + 1 - B1.length = k + 1 from by omega, List.getElem?_cons_succ, show B1.length + k + 1 - 1 - B1.length = k from by omega]
theorem LB_len : (B1 ++ (FRS, F) :: B2).length = B1.length + 1 + B2.length := by rw [List.length_append, List.length_cons]; omega
theorem LB_labs : (labs (B1 ++ B2)).length = B1.length + B2.length := by rw [labs_len, List.length_append]
theorem LB_lim (h : LB a S r B1 F B2 w) : ∀ d ∈ labs (B1 ++ B2), d < 2 ^ 42 := len_pw h.2.2.2.2.2 h.2.2.1
theorem LB_adj (h : LB a S r B1 F B2 w) {i : Nat} (hi : i + 1 < (B1 ++ (FRS, F) :: B2).length) : lN ((B1 ++ (FRS, F) :: B2).getD (i + 1) (0, [])).1 ≠ lN ((B1 ++ (FRS, F) :: B2).getD i (0, [])).1 := by
  have hl := LB_lim h
  have hlen := LB_len (B1 := B1) (F := F) (B2 := B2)
  have hll := LB_labs (B1 := B1) (B2 := B2)
  intro e
  rcases Nat.lt_trichotomy (i + 1) B1.length with q | q | q
  · rw [LB_lt q, LB_lt (by omega), pk_lEQ (by have := hl _ (getD_mem (i := i + 1) (l := labs (B1 ++ B2)) (by omega)); omega) (by have := hl _ (getD_mem (i := i) (l := labs (B1 ++ B2)) (by omega)); omega)] at e
    have := lt_pair h.2.1 (i := i) (k := i + 1) (by omega) (by omega)
    omega
  · rw [q, LB_at, LB_lt (by omega)] at e
    exact lN_m1 (hl _ (getD_mem (i := i) (l := labs (B1 ++ B2)) (by omega))) (by rw [← e]; exact FRS_l)
  · by_cases q2 : i = B1.length
    · subst q2
      rw [LB_at, LB_gt (by omega) hi] at e
      exact lN_m1 (hl _ (getD_mem (i := B1.length + 1 - 1) (l := labs (B1 ++ B2)) (by omega))) (by rw [e]; exact FRS_l)
    · rw [LB_gt (by omega) hi, LB_gt (by omega) (by omega), pk_lEQ (by have := hl _ (getD_mem (i := i + 1 - 1) (l := labs (B1 ++ B2)) (by omega)); omega) (by have := hl _ (getD_mem (i := i - 1) (l := labs (B1 ++ B2)) (by omega)); omega)] at e
      have := lt_pair h.2.1 (i := i - 1) (k := i + 1 - 1) (by omega) (by omega)
      omega
/-- one block to the left -/
theorem r_left1 (h : LB a S r B1 F B2 w) {i X u : Nat} (hi : i < B1.length) (hX : X ≤ (labs (B1 ++ B2)).getD i 0) (x4 : Int32) (x5 : Int64) (x8 x10 : Int32) (x13 : Int64) (k : Int32 → Int32 → Int64 → Int32 → Int32 → Int32 → Int32 → SS → Option (Int32 × SS)) (m : Nat) :
    f_X2_spreadRuns_75 k (m + ((B1 ++ (FRS, F) :: B2).getD i (0, [])).2.length) (nI r) x4 x5 (nI (ofS S r + psum (lens (B1 ++ (FRS, F) :: B2)) (i + 1))) x8 (nI u) x10 (lN X) x13 a = f_X2_spreadRuns_75 k m (nI r) x4 x5 (nI (ofS S r + psum (lens (B1 ++ (FRS, F) :: B2)) i)) x8 (nI (u + 1)) x10 (lN X) x13 a := by
  have hC := h.1
  have hlen := LB_len (B1 := B1) (F := F) (B2 := B2)
  have hll := LB_labs (B1 := B1) (B2 := B2)
  have hm := LB_lim h _ (getD_mem (i := i) (l := labs (B1 ++ B2)) (by omega))
  have h0 := CB_len hC (i := i) (by omega)
  have hps := psum_s2 (BB := B1 ++ (FRS, F) :: B2) (i := i) (by omega)
  have hbd := CB_bd hC (i := i + 1) (by omega)
  have hfi := o_first hC.1 hC.2.2.1
  have hadj := LB_adj h (i := i) (by omega)
  have hlab : ((B1 ++ (FRS, F) :: B2).getD i (0, [])).1 = (labs (B1 ++ B2)).getD i 0 := LB_lt hi
  have hge : ¬ (lg_cmp (lN ((labs (B1 ++ B2)).getD i 0)) (lN X) < 0) := by rw [lg_cmp_lt, pk_lLT (by omega) (by omega)]; omega
  generalize hn : ((B1 ++ (FRS, F) :: B2).getD i (0, [])).2.length = n at *
  have hAt : ∀ t, t < n → f_X2_labelAt (nI (ofS S r + psum (lens (B1 ++ (FRS, F) :: B2)) i + t)) a = some (lN ((labs (B1 ++ B2)).getD i 0)) := by
    intro t ht
    rw [CB_labelAt hC (by omega) (by rw [hn]; exact ht), hlab]
  generalize hP : ofS S r + psum (lens (B1 ++ (FRS, F) :: B2)) i = P at *
  -- within the block
  have inner : ∀ t, t < n → f_X2_spreadRuns_75 k (m + t) (nI r) x4 x5 (nI (P + t)) x8 (nI (u + 1)) x10 (lN X) x13 a = f_X2_spreadRuns_75 k m (nI r) x4 x5 (nI P) x8 (nI (u + 1)) x10 (lN X) x13 a := by
    intro t
    induction t with
    | zero => intro _; rfl
    | succ t ih =>
      intro ht
      rw [← ih (by omega), show m + (t + 1) = (m + t) + 1 from rfl, f_X2_spreadRuns_75, hfi, Option.bind_some, if_neg (nI_ge (by omega) (by omega))]
      have e1 : nI (P + (t + 1)) - 1 = nI (P + t) := nI_pred _
      have e2 : nI (P + (t + 1)) + (-1) = nI (P + t) := pk_m1 _
      rw [e1, e2, hAt t (by omega), Option.bind_some, if_neg hge, Option.bind_some, nI_1, show P + t + 1 = P + (t + 1) from rfl, hAt (t + 1) ht, Option.bind_some, if_pos ((lg_cmp_eq _ _).mpr rfl)]
      simp (disch := omega) only [ix_nI, nI_clamp, le_L, le_R, lt_L, lt_R, eq_L, eq_R, ad_L, sb_L, ml_L, nI_leI, nI_ltI, nI_eq, nI_add, pk_mul, nI_m1, if_true, if_false, if_pos, if_neg, Option.bind_some, Nat.add_zero]
  obtain ⟨n', rfl⟩ : ∃ n', n = n' + 1 := ⟨n - 1, by omega⟩
  have hpos : ofS S r + psum (lens (B1 ++ (FRS, F) :: B2)) (i + 1) = P + n' + 1 := by omega
  have hnext : f_X2_labelAt (nI (P + n' + 1)) a = some (lN ((B1 ++ (FRS, F) :: B2).getD (i + 1) (0, [])).1) := by
    rw [← hpos]
    exact CB_labelAt hC (i := i + 1) (t := 0) (by omega) (CB_len hC (by omega))
  rw [hpos, show m + (n' + 1) = (m + n') + 1 from rfl, f_X2_spreadRuns_75, hfi, Option.bind_some, if_neg (nI_ge (by omega) (by omega))]
  have e1 : nI (P + n' + 1) - 1 = nI (P + n') := nI_pred _
  have e2 : nI (P + n' + 1) + (-1) = nI (P + n') := pk_m1 _
  rw [e1, e2, hAt n' (by omega), Option.bind_some, if_neg hge, Option.bind_some, nI_1, hnext, Option.bind_some, if_neg (fun z => hadj (by rw [hlab]; exact ((lg_cmp_eq _ _).mp z).symm)), nI_1]
  exact inner n' (by omega)
theorem r_left (h : LB a S r B1 F B2 w) {X : Nat} (x4 : Int32) (x5 : Int64) (x8 x10 : Int32) (x13 : Int64) (k : Int32 → Int32 → Int64 → Int32 → Int32 → Int32 → Int32 → SS → Option (Int32 × SS)) (m : Nat) : ∀ (g i u : Nat), i + g ≤ B1.length → (∀ z, i ≤ z → z < i + g → X ≤ (labs (B1 ++ B2)).getD z 0) →
    ∃ m', f_X2_spreadRuns_75 k (m + (psum (lens (B1 ++ (FRS, F) :: B2)) (i + g) - psum (lens (B1 ++ (FRS, F) :: B2)) i)) (nI r) x4 x5 (nI (ofS S r + psum (lens (B1 ++ (FRS, F) :: B2)) (i + g))) x8 (nI u) x10 (lN X) x13 a = f_X2_spreadRuns_75 k m' (nI r) x4 x5 (nI (ofS S r + psum (lens (B1 ++ (FRS, F) :: B2)) i)) x8 (nI (u + g)) x10 (lN X) x13 a ∧ m' = m := by
  intro g
  induction g with
  | zero => intro i u _ _; exact ⟨m, by rw [Nat.add_zero, Nat.sub_self]; rfl, rfl⟩
  | succ g ih =>
    intro i u hi hX
    have hlen := LB_len (B1 := B1) (F := F) (B2 := B2)
    have hps := psum_s2 (BB := B1 ++ (FRS, F) :: B2) (i := i + g) (by omega)
    have hmo := psum_mono (N := lens (B1 ++ (FRS, F) :: B2)) (i := i) (k := i + g) (by omega) (by rw [lens_len]; omega)
    have hrw : psum (lens (B1 ++ (FRS, F) :: B2)) (i + (g + 1)) = psum (lens (B1 ++ (FRS, F) :: B2)) (i + g + 1) := rfl
    obtain ⟨m', e, e2⟩ := ih i (u + 1) (by omega) (fun z z1 z2 => hX z z1 (by omega))
    refine ⟨m', ?_, e2⟩
    rw [hrw, show m + (psum (lens (B1 ++ (FRS, F) :: B2)) (i + g + 1) - psum (lens (B1 ++ (FRS, F) :: B2)) i) = (m + (psum (lens (B1 ++ (FRS, F) :: B2)) (i + g) - psum (lens (B1 ++ (FRS, F) :: B2)) i)) + ((B1 ++ (FRS, F) :: B2).getD (i + g) (0, [])).2.length from by omega, r_left1 h (by omega) (hX (i + g) (by omega) (by omega)), e, show u + 1 + g = u + (g + 1) from by omega]
/-- one block to the right -/
theorem r_right1 (h : LB a S r B1 F B2 w) {i Y u : Nat} (hi : B1.length < i) (hi2 : i < (B1 ++ (FRS, F) :: B2).length) (hY : (labs (B1 ++ B2)).getD (i - 1) 0 < Y) (hYl : Y < 2 ^ 43) (x4 : Int32) (x5 : Int64) (x7 x10 : Int32) (x11 : Int64) (k : Int32 → Int32 → Int64 → Int32 → Int32 → Int32 → Int32 → SS → Option (Int32 × SS)) (m : Nat) :
    f_X2_spreadRuns_136 k (m + ((B1 ++ (FRS, F) :: B2).getD i (0, [])).2.length) (nI r) x4 x5 x7 (nI (ofS S r + psum (lens (B1 ++ (FRS, F) :: B2)) i)) (nI u) x10 x11 (lN Y) a = f_X2_spreadRuns_136 k m (nI r) x4 x5 x7 (nI (ofS S r + psum (lens (B1 ++ (FRS, F) :: B2)) (i + 1))) (nI (u + 1)) x10 x11 (lN Y) a := by
  have hC := h.1
  have hlen := LB_len (B1 := B1) (F := F) (B2 := B2)
  have hll := LB_labs (B1 := B1) (B2 := B2)
  have hm := LB_lim h _ (getD_mem (i := i - 1) (l := labs (B1 ++ B2)) (by omega))
  have h0 := CB_len hC (i := i) (by omega)
  have h0' := CB_len hC (i := i - 1) (by omega)
  have hps := psum_s2 (BB := B1 ++ (FRS, F) :: B2) (i := i) (by omega)
  have hps' := psum_s2 (BB := B1 ++ (FRS, F) :: B2) (i := i - 1) (by omega)
  rw [Nat.sub_add_cancel (by omega)] at hps'
  have hbd := CB_bd hC (i := i + 1) (by omega)
  have hen := o_end hC.1 hC.2.2.1
  have hadj := LB_adj h (i := i - 1) (by omega)
  rw [Nat.sub_add_cancel (by omega)] at hadj
  have hlab : ((B1 ++ (FRS, F) :: B2).getD i (0, [])).1 = (labs (B1 ++ B2)).getD (i - 1) 0 := LB_gt hi hi2
  have hge : ¬ (0 ≤ lg_cmp (lN ((labs (B1 ++ B2)).getD (i - 1) 0)) (lN Y)) := by rw [lg_cmp_ge, pk_lLE (by omega) (by omega)]; omega
  have hprev : f_X2_labelAt (nI (ofS S r + psum (lens (B1 ++ (FRS, F) :: B2)) i - 1)) a = some (lN ((B1 ++ (FRS, F) :: B2).getD (i - 1) (0, [])).1) := by
    have := CB_labelAt hC (i := i - 1) (t := ((B1 ++ (FRS, F) :: B2).getD (i - 1) (0, [])).2.length - 1) (by omega) (by omega)
    rw [← this]
    congr 2
    omega
  generalize hn : ((B1 ++ (FRS, F) :: B2).getD i (0, [])).2.length = n at *
  have hAt : ∀ t, t < n → f_X2_labelAt (nI (ofS S r + psum (lens (B1 ++ (FRS, F) :: B2)) i + t)) a = some (lN ((labs (B1 ++ B2)).getD (i - 1) 0)) := by
    intro t ht
    rw [CB_labelAt hC (by omega) (by rw [hn]; exact ht), hlab]
  generalize hP : ofS S r + psum (lens (B1 ++ (FRS, F) :: B2)) i = P at *
  -- within the block
  have inner : ∀ g t, t + g = n → 0 < t → f_X2_spreadRuns_136 k (m + g) (nI r) x4 x5 x7 (nI (P + t)) (nI (u + 1)) x10 x11 (lN Y) a = f_X2_spreadRuns_136 k m (nI r) x4 x5 x7 (nI (P + n)) (nI (u + 1)) x10 x11 (lN Y) a := by
    intro g
    induction g with
    | zero => intro t ht _; rw [show t = n from by omega]; rfl
    | succ g ih =>
      intro t ht h1
      obtain ⟨t', rfl⟩ : ∃ t', t = t' + 1 := ⟨t - 1, by omega⟩
      rw [← ih (t' + 1 + 1) (by omega) (by omega), show m + (g + 1) = (m + g) + 1 from rfl, f_X2_spreadRuns_136, hen, Option.bind_some, if_neg (nI_ge (by omega) (by omega))]
      have e1 : nI (P + (t' + 1)) - 1 = nI (P + t') := nI_pred _
      rw [hAt (t' + 1) (by omega), Option.bind_some, if_neg hge, Option.bind_some, e1, hAt t' (by omega), Option.bind_some, if_pos ((lg_cmp_eq _ _).mpr rfl)]
      simp (disch := omega) only [ix_nI, nI_clamp, le_L, le_R, lt_L, lt_R, eq_L, eq_R, ad_L, sb_L, ml_L, nI_leI, nI_ltI, nI_eq, nI_add, pk_mul, nI_m1, if_true, if_false, if_pos, if_neg, Option.bind_some, Nat.add_zero]
      rw [show P + (t' + 1) + 1 = P + (t' + 1 + 1) from by omega]
  have hpos : ofS S r + psum (lens (B1 ++ (FRS, F) :: B2)) (i + 1) = P + n := by omega
  obtain ⟨n', hn'⟩ : ∃ n', n = n' + 1 := ⟨n - 1, by omega⟩
  have hAt0 := hAt 0 (by omega)
  rw [Nat.add_zero] at hAt0
  rw [hpos, ← inner n' 1 (by omega) (by omega), hn', show m + (n' + 1) = (m + n') + 1 from rfl, f_X2_spreadRuns_136, hen, Option.bind_some, if_neg (nI_ge (by omega) (by omega))]
  have e1 : nI P - 1 = nI (P - 1) := pk_sub (b := 1) (by omega)
  rw [hAt0, Option.bind_some, if_neg hge, Option.bind_some, e1, hprev, Option.bind_some, if_neg (fun z => hadj (by rw [hlab]; exact (lg_cmp_eq _ _).mp z)), nI_1, nI_1]
theorem r_right (h : LB a S r B1 F B2 w) {Y : Nat} (hYl : Y < 2 ^ 43) (x4 : Int32) (x5 : Int64) (x7 x10 : Int32) (x11 : Int64) (k : Int32 → Int32 → Int64 → Int32 → Int32 → Int32 → Int32 → SS → Option (Int32 × SS)) (m : Nat) : ∀ (g i u : Nat), B1.length < i → i + g ≤ (B1 ++ (FRS, F) :: B2).length → (∀ z, i ≤ z → z < i + g → (labs (B1 ++ B2)).getD (z - 1) 0 < Y) →
    f_X2_spreadRuns_136 k (m + (psum (lens (B1 ++ (FRS, F) :: B2)) (i + g) - psum (lens (B1 ++ (FRS, F) :: B2)) i)) (nI r) x4 x5 x7 (nI (ofS S r + psum (lens (B1 ++ (FRS, F) :: B2)) i)) (nI u) x10 x11 (lN Y) a = f_X2_spreadRuns_136 k m (nI r) x4 x5 x7 (nI (ofS S r + psum (lens (B1 ++ (FRS, F) :: B2)) (i + g))) (nI (u + g)) x10 x11 (lN Y) a := by
  intro g
  induction g with
  | zero => intro i u _ _ _; rw [Nat.add_zero, Nat.sub_self]; rfl
  | succ g ih =>
    intro i u h1 h2 hY
    have hps := psum_s2 (BB := B1 ++ (FRS, F) :: B2) (i := i) (by omega)
    have hmo := psum_mono (N := lens (B1 ++ (FRS, F) :: B2)) (i := i + 1) (k := i + (g + 1)) (by omega) (by rw [lens_len]; omega)
    have e := ih (i + 1) (u + 1) (by omega) (by omega) (fun z z1 z2 => hY z (by omega) (by omega))
    rw [show i + 1 + g = i + (g + 1) from by omega, show u + 1 + g = u + (g + 1) from by omega] at e
    rw [show m + (psum (lens (B1 ++ (FRS, F) :: B2)) (i + (g + 1)) - psum (lens (B1 ++ (FRS, F) :: B2)) i) = (m + (psum (lens (B1 ++ (FRS, F) :: B2)) (i + (g + 1)) - psum (lens (B1 ++ (FRS, F) :: B2)) (i + 1))) + ((B1 ++ (FRS, F) :: B2).getD i (0, [])).2.length from by omega, r_right1 h h1 (by omega) (hY i (by omega) (by omega)) hYl, e]
end RUN
