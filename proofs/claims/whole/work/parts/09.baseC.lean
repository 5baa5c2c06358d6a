/-! ===== parts of worlds: what a call of a part leaves ===== -/
theorem at_idx {ws w : va_W} {is : List Nat} (hs : is.map (fun i => ws[i]?) = w.map some) {k : Nat} {q : Nat × va_E} (hq : w[k]? = some q) : ∃ i, is[k]? = some i ∧ ws[i]? = some q := by
  have h1 : (is.map (fun i => ws[i]?))[k]? = some (some q) := by rw [hs, List.getElem?_map, hq]; rfl
  rw [List.getElem?_map] at h1
  cases hi : is[k]? with
  | none => rw [hi] at h1; cases h1
  | some i => rw [hi] at h1; exact ⟨i, rfl, Option.some.inj h1⟩
/-- a cell that isn't the part's stays -/
theorem apart_kept {A : Nat → Prop} {D : va_G} {cl : List vw_C} {ws wc : va_W} {H H1 : Heap} (hP : va_P D cl ws H) (hD : va_D A ws) (isC : List Nat) (hC : isC.map (fun i => ws[i]?) = wc.map some) (hk : ∀ q : Nat, q < H.size → ¬ aw wc q → H1[q]? = H[q]?) {i : Nat} {q : Nat × va_E} (hi : ws[i]? = some q) (hn : i ∉ isC) : va_at D cl q H1 := by
  have h0 := hP i q hi
  refine h0.kept (hk q.1 h0.lt fun ⟨k2, e, h⟩ => ?_)
  obtain ⟨j, h3, h4⟩ := at_idx hC h
  have hij := hD.1 i j q (q.1, e) hi h4 rfl
  subst hij
  exact hn (List.mem_of_getElem? h3)
theorem joinW {A : Nat → Prop} {D : va_G} {cl : List vw_C} {ws wc w1 : va_W} {H H1 : Heap} (hP : va_P D cl ws H) (hD : va_D A ws) (isC isR : List Nat) (hC : isC.map (fun i => ws[i]?) = wc.map some) (hdis : ∀ i ∈ isR, i ∉ isC) (hk : ∀ q : Nat, q < H.size → ¬ aw wc q → H1[q]? = H[q]?) (hP1 : va_P D cl w1 H1) : va_P D cl (isR.filterMap (fun i => ws[i]?) ++ w1) H1 := by
  refine va_P.app (fun k q hq => ?_) hP1
  obtain ⟨i, h1, h2⟩ := List.mem_filterMap.mp (List.mem_of_getElem? hq)
  exact apart_kept hP hD isC hC hk h2 (hdis i h1)
theorem idx_app {wx T : va_W} {i : Nat} {q : Nat × va_E} (h : wx[i]? = some q) : (wx ++ T)[i]? = some q := by
  rw [List.getElem?_append_left (List.getElem?_eq_some_iff.mp h).1]; exact h
/-- the same with a tail that isn't told -/
theorem joinT {A : Nat → Prop} {D : va_G} {cl : List vw_C} {wx T wc w1 : va_W} {H H1 : Heap} {N : Nat} (hN : wx.length = N) (hP : va_P D cl (wx ++ T) H) (hD : va_D A (wx ++ T)) (isC isR : List Nat) (hC : isC.map (fun i => wx[i]?) = wc.map some) (hlt : ∀ i ∈ isC, i < N) (hdis : ∀ i ∈ isR, i ∉ isC) (hk : ∀ q : Nat, q < H.size → ¬ aw wc q → H1[q]? = H[q]?) (hP1 : va_P D cl w1 H1) : va_P D cl ((isR.filterMap (fun i => wx[i]?) ++ w1) ++ T) H1 := by
  subst hN
  have hC' : isC.map (fun i => (wx ++ T)[i]?) = wc.map some := by
    rw [← hC]
    apply List.map_congr_left
    intro i hi
    exact List.getElem?_append_left (hlt i hi)
  refine va_P.app (va_P.app (fun k q hq => ?_) hP1) (fun k q hq => ?_)
  · obtain ⟨i, h1, h2⟩ := List.mem_filterMap.mp (List.mem_of_getElem? hq)
    exact apart_kept hP hD isC hC' hk (idx_app h2) (hdis i h1)
  · have h2 : (wx ++ T)[wx.length + k]? = some q := by
      rw [List.getElem?_append_right (Nat.le_add_right _ _), Nat.add_sub_cancel_left]; exact hq
    exact apart_kept hP hD isC hC' hk h2 (fun hi => absurd (hlt _ hi) (by omega))
theorem subT {D : va_G} {cl : List vw_C} {wx wy T : va_W} {H : Heap} (hP : va_P D cl (wx ++ T) H) (is : List Nat) (hs : is.map (fun i => wx[i]?) = wy.map some) : va_P D cl (wy ++ T) H := by
  refine va_P.app (fun k q hq => ?_) (fun k q hq => ?_)
  · obtain ⟨i, -, h2⟩ := at_idx hs hq
    exact hP i q (idx_app h2)
  · exact hP (wx.length + k) q (by rw [List.getElem?_append_right (Nat.le_add_right _ _), Nat.add_sub_cancel_left]; exact hq)
/-- whether a copy stays within -/
def acp (sp dp n : Int32) (n0 n1 : Nat) : Bool := decide (¬ sp < 0) && (decide (¬ dp < 0) && (decide (¬ n < 0) && (decide (sp.toNatClampNeg + n.toNatClampNeg ≤ n0) && decide (dp.toNatClampNeg + n.toNatClampNeg ≤ n1))))
theorem acp_ok {sp dp n : Int32} {n0 n1 : Nat} (h : acp sp dp n n0 n1 = true) : ¬ sp < 0 ∧ ¬ dp < 0 ∧ ¬ n < 0 ∧ sp.toNatClampNeg + n.toNatClampNeg ≤ n0 ∧ dp.toNatClampNeg + n.toNatClampNeg ≤ n1 := by
  unfold acp at h
  simp only [Bool.and_eq_true, decide_eq_true_eq] at h
  exact ⟨h.1, h.2.1, h.2.2.1, h.2.2.2.1, h.2.2.2.2⟩
theorem nfw : nativeFrameWords "java/lang/System" "arraycopy" 5 = 7 := by decide +kernel
theorem nil_P {D : va_G} {cl : List vw_C} {H : Heap} : va_P D cl [] H := fun k q h => by simp at h
theorem nil_D {A : Nat → Prop} : va_D A [] := ⟨fun i j p q h => by simp at h, fun k q h => by simp at h⟩
theorem inX0 : ∀ w ∈ u_ws RX0 TX0 3, w ∈ lw_gt := by decide +kernel
theorem inX1 : ∀ w ∈ u_ws RX1 TX1 3, w ∈ lw_gt := by decide +kernel
theorem inX2 : ∀ w ∈ u_ws RX2 TX2 8, w ∈ lw_gt := by decide +kernel
theorem inX3 : ∀ w ∈ u_ws RX3 TX3 6, w ∈ lw_gt := by decide +kernel
abbrev OS : Type := Nat → Nat → Int32
def oA (o : OS) (k i : Nat) (x : Int32) : OS := va_up o k (upd (o k) i x)
/-- Order: 1 line, 2 begins, 3 rows -/
def ow (G : GX) (ad : Nat → Nat) (u : OS) : va_W := [(ad 0, .inr (1, [.ref (ad 1), .ref (ad 2), .ref (ad 3)])), (ad 1, .inl (G.2.1, 600, .inl (u 1))), (ad 2, .inl (G.2.1, 9, .inl (u 2))), (ad 3, .inl (G.2.1, 300, .inl (u 3)))]
/-- Marks: 1 rows, 2 behinds, 3 leans -/
def kw (G : GX) (ad : Nat → Nat) (u : OS) : va_W := [(ad 0, .inr (0, [.ref (ad 1), .ref (ad 2), .ref (ad 3)])), (ad 1, .inl (G.2.1, 20, .inl (u 1))), (ad 2, .inl (G.2.1, 20, .inl (u 2))), (ad 3, .inl (G.2.1, 20, .inl (u 3)))]
/-- State: the Order, the Marks, the arrays (2 kinds, 3 widths, 4 greatest, 6 inners), labels, renamed -/
abbrev SS : Type := OS × OS × OS × (Nat → Int64) × Int32
def sO (u : SS) (o : OS) : SS := (o, u.2)
def sK (u : SS) (o : OS) : SS := (u.1, o, u.2.2)
def sA (u : SS) (k i : Nat) (x : Int32) : SS := (u.1, u.2.1, va_up u.2.2.1 k (upd (u.2.2.1 k) i x), u.2.2.2)
def sL (u : SS) (i : Nat) (x : Int64) : SS := (u.1, u.2.1, u.2.2.1, vp_updL u.2.2.2.1 i x, u.2.2.2.2)
def sR (u : SS) (x : Int32) : SS := (u.1, u.2.1, u.2.2.1, u.2.2.2.1, x)
def sw (G : GX) (ad : Nat → Nat) (u : SS) : va_W := [(ad 0, .inr (2, [.ref (ad 1), .ref (ad 5), .ref (ad 9), .ref (ad 10), .ref (ad 11), .ref (ad 12), .ref (ad 13), .int u.2.2.2.2])), (ad 1, .inr (1, [.ref (ad 2), .ref (ad 3), .ref (ad 4)])), (ad 2, .inl (G.2.1, 600, .inl (u.1 1))), (ad 3, .inl (G.2.1, 9, .inl (u.1 2))), (ad 4, .inl (G.2.1, 300, .inl (u.1 3))), (ad 5, .inr (0, [.ref (ad 6), .ref (ad 7), .ref (ad 8)])), (ad 6, .inl (G.2.1, 20, .inl (u.2.1 1))), (ad 7, .inl (G.2.1, 20, .inl (u.2.1 2))), (ad 8, .inl (G.2.1, 20, .inl (u.2.1 3))), (ad 9, .inl (G.2.1, 8, .inl (u.2.2.1 2))), (ad 10, .inl (G.2.1, 8, .inl (u.2.2.1 3))), (ad 11, .inl (G.2.1, 8, .inl (u.2.2.1 4))), (ad 12, .inl (G.2.2.1, 600, .inr (.inl u.2.2.2.1))), (ad 13, .inl (G.2.1, 600, .inl (u.2.2.1 6)))]
/-- State, with the array of what is under way -/
abbrev SP : Type := SS × (Nat → Int32)
def sp (G : GX) (ad : Nat → Nat) (u : SP) : va_W := sw G ad u.1 ++ [(ad 14, .inl (G.2.1, 600, .inl u.2))]
