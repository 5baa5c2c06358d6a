/-! ===== the frame of this proof: words, worlds, contracts ===== -/
abbrev vcl : List vw_C := [(RX0, TX0, 3), (RX1, TX1, 3), (RX2, TX2, 8), (RX3, TX3, 6), (RX4, TX4, 25)]
/-- the tables' words that hold at every state of the run -/
def lw_gt : List Cond := lw_tbl.filter goodWord
theorem lw_good : ∀ w ∈ lw_gt, goodWord w = true := fun _ h => (List.mem_filter.mp h).2
theorem lw_sub : ∀ w ∈ lw_gt, w ∈ lw_tbl := fun _ h => (List.mem_filter.mp h).1
theorem tw {w : Cond} (i : Nat) (h : tables_1[i]? = some w) (hg : goodWord w = true) : w ∈ lw_gt := List.mem_filter.mpr ⟨List.mem_append_right _ (List.mem_of_getElem? h), hg⟩
theorem tp {w : Cond} (i : Nat) (h : (k2_sels lw_privs)[i]? = some w) (hg : goodWord w = true) : w ∈ lw_gt := List.mem_filter.mpr ⟨List.mem_append_left _ (List.mem_of_getElem? h), hg⟩
def wM (y : MethodName) (cc : ByteArray) (n : Nat) (ret : Option FieldType) : List Cond := Cond.code y cc n ret :: lw_gt
theorem wM_good {y y0 : MethodName} {cc c0 : ByteArray} {n n0 : Nat} {ret r0 : Option FieldType} (h : Cond.code y cc n ret ∈ lw_gt) : GoodIn (wM y0 c0 n0 r0) (wM y cc n ret) := by
  intro w hw
  rcases List.mem_cons.mp hw with rfl | hw
  · exact ⟨List.mem_cons_of_mem _ h, good_of_word (lw_good _ h)⟩
  · exact ⟨List.mem_cons_of_mem _ hw, good_of_word (lw_good _ hw)⟩
abbrev GX : Type := va_G × ClassId × ClassId × ClassId
def tyL (G : GX) : List (ClassId × FieldType) := [(G.2.1, .int), (G.2.2.1, .long), (G.2.2.2, .object RX2)]
/-- the links between nest mates -/
def NW (U : State) : Prop := va_Nw (.methodLinkNest RX1 46 yX3_thingOf RX3) U ∧ va_Nw (.methodLinkNest RX2 180 yX3_dealt RX3) U ∧ va_Nw (.methodLinkNest RX2 97 yX3_standOf RX3) U ∧ va_Nw (.methodLinkNest RX2 120 yX3_thingOf RX3) U ∧ va_Nw (.methodLinkNest RX2 126 yX3_isEnd RX3) U
theorem NW.warm {s U : State} (hW : s.WarmedH U.vm) (h : NW s) : NW U := ⟨va_Nw.warmM hW h.1, va_Nw.warmM hW h.2.1, va_Nw.warmM hW h.2.2.1, va_Nw.warmM hW h.2.2.2.1, va_Nw.warmM hW h.2.2.2.2⟩
theorem NW.same {u U : State} (e : u.vm = U.vm) (h : NW u) : NW U := ⟨va_Nw.same rfl e h.1, va_Nw.same rfl e h.2.1, va_Nw.same rfl e h.2.2.1, va_Nw.same rfl e h.2.2.2.1, va_Nw.same rfl e h.2.2.2.2⟩
def KK (G : GX) (U : State) : Prop := va_K G.1 vcl (tyL G) U ∧ NW U
theorem KK.warm {G : GX} {s U : State} (hW : s.WarmedH U.vm) (h : KK G s) : KK G U := ⟨va_K.moved hW.alike h.1, h.2.warm hW⟩
def PW (G : GX) (ws : va_W) (U : State) : Prop := va_P G.1 vcl ws U.heap ∧ KK G U ∧ va_D (fun _ => True) ws
theorem PW.blind {av : List Value} {G : GX} {ws : va_W} : FrameBlind (va_Pc av (PW G ws)) := fun a U g mk q => ⟨q.1, q.2.1, ⟨va_K.moved (u := U) (U := U.calling g mk a) (Vm.Alike.refl U.vm) q.2.2.1.1, q.2.2.1.2.same (U := U.calling g mk a) rfl⟩, q.2.2.2⟩
def WD (G : GX) (A : Nat → Prop) (s : State) (ws : va_W) (H : Heap) (locs : List Loc) : Prop := KK G s ∧ va_P G.1 vcl ws H ∧ va_D A ws ∧ va_S A s.heap H locs
def aw (ws : va_W) : Nat → Prop := fun q => ∃ (k : Nat) (e : va_E), ws[k]? = some (q, e)
def QO (v : Option Value) : Array Value → State → Outcome → State → Prop := fun _ st o t => o = .returned v ∧ t.heap = st.heap
def QW (G : GX) (ws' : va_W) (A : Nat → Prop) (v : Option Value) : Array Value → State → Outcome → State → Prop := fun _ st o t => o = .returned v ∧ va_P G.1 vcl ws' t.heap ∧ va_F A st t
def FX (p : Program) (m : MethodId) (c : Code) (cc : ByteArray) (nL : Nat) (s : State) (args : Array Value) (y : MethodName) (ret : Option FieldType) (own : String) (meth : Method) : Prop := CallFix p m c cc nL s args (wM y cc nL ret) own ∧ meth.sig.returnType = ret ∧ meth.locks = false
def MO (l : Launch) (y : MethodName) (cc : ByteArray) (n : Nat) (ret : Option FieldType) (rm : Room) (G : GX) (ws : va_W) (av : List Value) (v : Option Value) : Prop := Met l y (wM y cc n ret) rm (va_Pc av (PW G ws)) (QO v) 0 0 (fun _ => False)
def MW (l : Launch) (y : MethodName) (cc : ByteArray) (n : Nat) (ret : Option FieldType) (rm : Room) (G : GX) (ws ws' : va_W) (av : List Value) (v : Option Value) : Prop := Met l y (wM y cc n ret) rm (va_Pc av (PW G ws)) (QW G ws' (aw ws) v) 0 0 (aw ws)
theorem aw_of {ws : va_W} {k : Nat} {q : Nat × va_E} (h : ws[k]? = some q) : aw ws q.1 := ⟨k, q.2, h⟩
theorem va_D.own {A : Nat → Prop} {ws : va_W} (h : va_D A ws) : va_D (aw ws) ws := ⟨h.1, fun _ _ hk => aw_of hk⟩
theorem va_D.any {A : Nat → Prop} {ws : va_W} (h : va_D A ws) : va_D (fun _ => True) ws := ⟨h.1, fun _ _ _ => trivial⟩
theorem va_D.own_in {A : Nat → Prop} {ws : va_W} (h : va_D A ws) : ∀ q, aw ws q → A q := fun q ⟨k, e, hk⟩ => h.2 k (q, e) hk
theorem aw_va {ws : va_W} {n q : Nat} (h : aw ws q) : va_A ws n q := Or.inl h
/-- the same addresses: apart as before -/
theorem va_D.addr {A : Nat → Prop} {ws ws' : va_W} (h : va_D A ws) (he : ws'.map (fun q => q.1) = ws.map (fun q => q.1)) : va_D A ws' := by
  have key : ∀ (i : Nat) (q : Nat × va_E), ws'[i]? = some q → ∃ e, ws[i]? = some (q.1, e) := by
    intro i q hq
    have h1 : (ws'.map (fun q => q.1))[i]? = some q.1 := by rw [List.getElem?_map, hq]; rfl
    rw [he, List.getElem?_map] at h1
    cases hi : ws[i]? with
    | none => rw [hi] at h1; cases h1
    | some z => rw [hi] at h1; exact ⟨z.2, by rw [← (Option.some.inj h1 : z.1 = q.1)]⟩
  refine ⟨fun i j p q hp hq hpq => ?_, fun k q hq => ?_⟩
  · obtain ⟨e1, h1⟩ := key i p hp
    obtain ⟨e2, h2⟩ := key j q hq
    exact h.1 i j _ _ h1 h2 hpq
  · obtain ⟨e1, h1⟩ := key k q hq
    exact h.2 k (q.1, e1) h1
theorem aw_addr {ws ws' : va_W} (he : ws'.map (fun q => q.1) = ws.map (fun q => q.1)) {q : Nat} (h : aw ws' q) : aw ws q := by
  obtain ⟨k, e, hk⟩ := h
  have h1 : (ws'.map (fun q => q.1))[k]? = some q := by rw [List.getElem?_map, hk]; rfl
  rw [he, List.getElem?_map] at h1
  cases hi : ws[k]? with
  | none => rw [hi] at h1; cases h1
  | some z =>
    rw [hi] at h1
    have e1 : z.1 = q := Option.some.inj h1
    exact ⟨k, z.2, by rw [← e1]; exact hi⟩
-- pure words
theorem gd {α : Type} {c : Prop} {inst : Decidable c} {x : Option α} {y : α} (h : @ite (Option α) c inst x none = some y) : c ∧ x = some y := by
  by_cases hc : c
  · rw [if_pos hc] at h; exact ⟨hc, h⟩
  · rw [if_neg hc] at h; cases h
theorem itT {α : Type} {c : Prop} {inst : Decidable c} {x z : Option α} {y : α} (h : @ite (Option α) c inst x z = some y) (hc : c) : x = some y := by rw [if_pos hc] at h; exact h
theorem itF {α : Type} {c : Prop} {inst : Decidable c} {x z : Option α} {y : α} (h : @ite (Option α) c inst x z = some y) (hc : ¬ c) : z = some y := by rw [if_neg hc] at h; exact h
/-- of a branch that is taken where its word is false -/
theorem itN {α : Type} {c : Prop} {inst : Decidable c} {x z : Option α} {y : α} (h : @ite (Option α) c inst x z = some y) (hc : ¬ ¬ c) : x = some y := itT h (Decidable.not_not.mp hc)
theorem bnd {α β : Type} {o : Option α} {k : α → Option β} {y : β} (h : o.bind k = some y) : ∃ x, o = some x ∧ k x = some y := by
  cases o with
  | none => cases h
  | some x => exact ⟨x, rfl, h⟩
/-- an index within -/
def ix (i : Int32) (n : Nat) : Bool := !(decide (i < 0)) && decide (i.toNatClampNeg < n)
theorem ix_in {i : Int32} {n : Nat} (h : ix i n = true) : vp_in i n := by
  unfold ix at h
  simp only [Bool.and_eq_true, Bool.not_eq_true', decide_eq_false_iff_not, decide_eq_true_eq] at h
  rintro (q | q)
  · exact h.1 q
  · omega
/-- a truth value -/
def zb (v : Int32) : Bool := v == 0 || v == 1
theorem zb_ok {v : Int32} (h : zb v = true) : narrow .boolean (.int v) = .int v := by
  unfold zb at h
  simp only [Bool.or_eq_true, beq_iff_eq] at h
  rcases h with rfl | rfl <;> rfl
noncomputable def NF : Nat := Classical.choose (⟨20000, rfl⟩ : ∃ n : Nat, n = 20000)
theorem NF_eq : NF = 20000 := Classical.choose_spec (⟨20000, rfl⟩ : ∃ n : Nat, n = 20000)
section BASE
variable {p : Program} {l : Launch} {e : Env} {R : Room} {s : State} {m : MethodId} {args : Array Value} {below : List Frame} {meth : Method} {c : Code} {H : Heap} {locs : List Loc} {cells slots : Nat} {Q : State → Prop}
variable {G : GX} {A : Nat → Prop} {ws ws' : va_W} {cc : ByteArray} {nL pc : Nat} {y : MethodName} {ret : Option FieldType} {own : String} {ls : Array Slot} {rest : List Value}
theorem retO_i {r : Int32} (F : FX p m c cc nL s args y (some .int) own meth) (hdg : decode cc pc = .ok (.ireturn, 1)) : W p l e R s m args below meth c s.heap [] 0 0 (MQ below (QO (some (.int r))) args s 0 0 (fun _ => False)) (F0 m pc ls [.int r]) :=
  W.iret F.1.1 F.1.2.1 F.2.1 (fun t ht _ => ⟨rfl, ht⟩) (fun q h => by cases h) hdg F.2.2
theorem retO_z {r : Int32} (F : FX p m c cc nL s args y (some .boolean) own meth) (hn : narrow .boolean (.int r) = .int r) (hdg : decode cc pc = .ok (.ireturn, 1)) : W p l e R s m args below meth c s.heap [] 0 0 (MQ below (QO (some (.int r))) args s 0 0 (fun _ => False)) (F0 m pc ls [.int r]) :=
  W.zret F.1.1 F.1.2.1 F.2.1 hn (fun t ht _ => ⟨rfl, ht⟩) (fun q h => by cases h) hdg F.2.2
theorem retO_l {r : Int64} (F : FX p m c cc nL s args y (some .long) own meth) (hdg : decode cc pc = .ok (.lreturn, 1)) : W p l e R s m args below meth c s.heap [] 0 0 (MQ below (QO (some (.long r))) args s 0 0 (fun _ => False)) (F0 m pc ls [.long r]) :=
  W.lret F.1.1 F.1.2.1 F.2.1 (fun t ht _ => ⟨rfl, ht⟩) (fun q h => by cases h) hdg F.2.2
theorem retW_i {r : Int32} (F : FX p m c cc nL s args y (some .int) own meth) (hw : WD G A s ws H locs) (hdg : decode cc pc = .ok (.ireturn, 1)) : W p l e R s m args below meth c H locs 0 0 (MQ below (QW G ws A (some (.int r))) args s 0 0 A) (F0 m pc ls [.int r]) :=
  W.iret F.1.1 F.1.2.1 F.2.1 (fun t ht _ => ⟨rfl, by rw [ht]; exact hw.2.1, hw.2.2.2.F ht⟩) hw.2.2.2.2.2 hdg F.2.2
theorem retW_z {r : Int32} (F : FX p m c cc nL s args y (some .boolean) own meth) (hw : WD G A s ws H locs) (hn : narrow .boolean (.int r) = .int r) (hdg : decode cc pc = .ok (.ireturn, 1)) : W p l e R s m args below meth c H locs 0 0 (MQ below (QW G ws A (some (.int r))) args s 0 0 A) (F0 m pc ls [.int r]) :=
  W.zret F.1.1 F.1.2.1 F.2.1 hn (fun t ht _ => ⟨rfl, by rw [ht]; exact hw.2.1, hw.2.2.2.F ht⟩) hw.2.2.2.2.2 hdg F.2.2
theorem retW_l {r : Int64} (F : FX p m c cc nL s args y (some .long) own meth) (hw : WD G A s ws H locs) (hdg : decode cc pc = .ok (.lreturn, 1)) : W p l e R s m args below meth c H locs 0 0 (MQ below (QW G ws A (some (.long r))) args s 0 0 A) (F0 m pc ls [.long r]) :=
  W.lret F.1.1 F.1.2.1 F.2.1 (fun t ht _ => ⟨rfl, by rw [ht]; exact hw.2.1, hw.2.2.2.F ht⟩) hw.2.2.2.2.2 hdg F.2.2
theorem retW_v (F : FX p m c cc nL s args y none own meth) (hw : WD G A s ws H locs) (hdg : decode cc pc = .ok (.return_, 1)) : W p l e R s m args below meth c H locs 0 0 (MQ below (QW G ws A none) args s 0 0 A) (F0 m pc ls []) :=
  W.vret F.1.1 F.1.2.1 F.2.1 (fun t ht _ => ⟨rfl, by rw [ht]; exact hw.2.1, hw.2.2.2.F ht⟩) hw.2.2.2.2.2 hdg F.2.2
/-- a call that changes nothing -/
theorem callO {v : Option Value} {a : Array Value} {g : JFrame} (hr : va_Run p l e R s m args below meth c H locs cells slots 0 0 g rest (QO v a) (fun _ => False)) (kk : W p l e R s m args below meth c H locs cells slots Q { g with pc := g.pc + 3, stack := v.toList ++ rest }) : W p l e R s m args below meth c H locs cells slots Q g := by
  intro T hT X
  obtain ⟨v', st₀, t, T', L, h0, X', hL, e1, -, ⟨hv, hh⟩, st⟩ := hr T hT X
  cases hv
  obtain ⟨t2, a1, b1⟩ := kk T' (by rw [e1, hh, h0]) (Stand.forget X' (fun q h => (hL q h).elim))
  exact ⟨t2, st t2 a1, b1⟩
/-- a call that changes its world -/
theorem callW {v : Option Value} {a : Array Value} {g : JFrame} {A1 : Nat → Prop} {H0 : Heap} (hr : va_Run p l e R s m args below meth c H locs cells slots 0 0 g rest (QW G ws' A1 v a) A1) (hS : va_S A H0 H locs) (hA : ∀ q, A1 q → A q)
    (kk : ∀ (H1 : Heap) (locs1 : List Loc), va_P G.1 vcl ws' H1 → (∀ q : Nat, q < H.size → ¬ A1 q → H1[q]? = H[q]?) → va_S A H0 H1 locs1 → W p l e R s m args below meth c H1 locs1 cells slots Q { g with pc := g.pc + 3, stack := v.toList ++ rest }) : W p l e R s m args below meth c H locs cells slots Q g := by
  intro T hT X
  obtain ⟨v', st₀, t, T', L, h0, X', hL, e1, -, ⟨hv, hP, hz, hk⟩, st⟩ := hr T hT X
  cases hv
  rw [h0] at hz hk
  obtain ⟨t2, a1, b1⟩ := kk T'.heap (locs ++ L) (by rw [e1]; exact hP) (fun q h1 h2 => by rw [e1]; exact hk q h1 h2)
    ⟨Nat.le_trans hS.1 (by rw [e1]; exact hz), fun q h1 h2 => by rw [e1, hk q (Nat.lt_of_lt_of_le h1 hS.1) (fun z => h2 (hA q z))]; exact hS.2.1 q h1 h2, fun q hq => by
      rcases List.mem_append.mp hq with h | h
      · exact hS.2.2 q h
      · exact hA _ (hL q h)⟩ T' rfl X'
  exact ⟨t2, st t2 a1, b1⟩
theorem MO.of {n : Nat} {rm : Room} {av : List Value} {v : Option Value} (hy : plainName y.cls = true) (hn : (lg_sl av).length ≤ n)
    (body : ∀ (p : Program) (e : Env) (s : State) (m : MethodId) (below : List Frame) (meth : Method) (c : Code) (ls : Array Slot), FX p m c cc n s av.toArray y ret y.cls meth → WD G (fun _ => True) s ws s.heap [] → lv_has ls n (lv_args 0 av) →
      W p l e rm s m av.toArray below meth c s.heap [] 0 0 (MQ below (QO v) av.toArray s 0 0 (fun _ => False)) (F0 m 0 ls [])) : MO l y cc n ret rm G ws av v := by
  refine Met.ofW (cc := cc) (maxL := n) (ret := ret) hy rfl ?_
  intro p e s m args below meth c s₁ B hml hv
  obtain ⟨rfl, hP, hK, hD⟩ := hv
  rw [lg_entry_eq]
  exact body p e s m below meth c _ ⟨⟨B.exec, B.bytes, hml, findClass_of_methodNamed B.named, atoms_spec (ws := wM y cc n ret) B.pre⟩, B.returns, B.notSynchronized⟩ ⟨hK, hP, hD, va_S.rf⟩ (lv_entry av hn)
theorem MW.of {n : Nat} {rm : Room} {av : List Value} {v : Option Value} (hy : plainName y.cls = true) (hn : (lg_sl av).length ≤ n)
    (body : ∀ (p : Program) (e : Env) (s : State) (m : MethodId) (below : List Frame) (meth : Method) (c : Code) (ls : Array Slot), FX p m c cc n s av.toArray y ret y.cls meth → WD G (aw ws) s ws s.heap [] → lv_has ls n (lv_args 0 av) →
      W p l e rm s m av.toArray below meth c s.heap [] 0 0 (MQ below (QW G ws' (aw ws) v) av.toArray s 0 0 (aw ws)) (F0 m 0 ls [])) : MW l y cc n ret rm G ws ws' av v := by
  refine Met.ofW (cc := cc) (maxL := n) (ret := ret) hy rfl ?_
  intro p e s m args below meth c s₁ B hml hv
  obtain ⟨rfl, hP, hK, hD⟩ := hv
  rw [lg_entry_eq]
  exact body p e s m below meth c _ ⟨⟨B.exec, B.bytes, hml, findClass_of_methodNamed B.named, atoms_spec (ws := wM y cc n ret) B.pre⟩, B.returns, B.notSynchronized⟩ ⟨hK, hP, hD.own, va_S.rf⟩ (lv_entry av hn)
/-- what the tables say of a method that is called on an object -/
def YV (own : String) (idx : Nat) (y : MethodName) (cy : ByteArray) (n : Nat) (ret : Option FieldType) (k : Nat) : Prop := Cond.code y cy n ret ∈ lw_gt ∧ Cond.initialized y.cls ∈ lw_gt ∧ Cond.methodLink own idx y ∈ lw_gt ∧ Cond.instanceMethod y ∈ lw_gt ∧ Cond.selects y.cls y y ∈ lw_gt ∧ (y.cls ≠ "java/lang/invoke/MethodHandle" ∧ y.cls ≠ "java/lang/invoke/VarHandle" ∧ (parseMethodDescriptor y.desc).map (fun d => d.parameters.length) = some k)
def YS (own : String) (idx : Nat) (y : MethodName) (cy : ByteArray) (n : Nat) (ret : Option FieldType) (k : Nat) : Prop := Cond.code y cy n ret ∈ lw_gt ∧ Cond.initialized y.cls ∈ lw_gt ∧ Cond.methodLink own idx y ∈ lw_gt ∧ Cond.static y ∈ lw_gt ∧ (y.cls ≠ "java/lang/invoke/MethodHandle" ∧ y.cls ≠ "java/lang/invoke/VarHandle" ∧ (parseMethodDescriptor y.desc).map (fun d => d.parameters.length) = some k)
/-- a static method of a nest mate -/
def YN (own : String) (idx : Nat) (y : MethodName) (host : String) (cy : ByteArray) (n : Nat) (ret : Option FieldType) (k : Nat) : Prop := Cond.code y cy n ret ∈ lw_gt ∧ Cond.initialized y.cls ∈ lw_gt ∧ (∀ U : State, NW U → va_Nw (.methodLinkNest own idx y host) U) ∧ Cond.static y ∈ lw_gt ∧ (y.cls ≠ "java/lang/invoke/MethodHandle" ∧ y.cls ≠ "java/lang/invoke/VarHandle" ∧ (parseMethodDescriptor y.desc).map (fun d => d.parameters.length) = some k)
variable {y2 : MethodName} {cy : ByteArray} {n2 k idx ci : Nat} {ret2 : Option FieldType} {rm : Room} {wc wc' : va_W} {b : Nat} {As st0 : List Value} {v : Option Value} {fs : List Value} {host : String}
theorem FX.tb (F : FX p m c cc nL s args y ret own meth) {w : Cond} (h : w ∈ lw_gt) : w.before args s = true := F.1.2.2.2.2 w (List.mem_cons_of_mem _ h)
theorem runV {Qc : Array Value → State → Outcome → State → Prop} {free : Addr → Prop} {q : vw_C} (F : FX p m c cc nL s args y ret own meth) (Y : YV own idx y2 cy n2 ret2 k) (hM : Met l y2 (wM y2 cy n2 ret2) rm (va_Pc (.ref b :: As) (PW G wc)) Qc 0 0 free) (hK : KK G s) (hP : va_P G.1 vcl wc H) (hD : va_D A wc)
    (he : wc[0]? = some (b, .inr (ci, fs))) (hc : vcl[ci]? = some q) (hq : q.1 = y2.cls) (hrc : rm.cells = 0 ∧ rm.slots = 0) (hR : rm.frames + 1 ≤ R.frames ∧ 8 + (n2 + 11) + rm.locals ≤ R.locals) (hcs : cells ≤ R.cells ∧ slots ≤ R.slots) (hn : As.length = k) (hsz : ls.size = nL) (hst : st0 = As.reverse ++ .ref b :: rest) (hW : (rest.map fun v => v.category).sum ≤ 8) (hdg : decode cc pc = .ok (.invokevirtual idx, 3)) :
    va_Run p l e R s m args below meth c H locs cells slots 0 0 (F0 m pc ls st0) rest (Qc (Value.ref b :: As).toArray) free := by
  have h1 := F.tb Y.2.1
  refine va_runV F.1 hM ⟨callB_of k F.1.2.2.2.2 (wM_good Y.1) rfl hrc.1 hrc.2 h1 (F.tb Y.2.2.1) Y.2.2.2.2.2 hR, F.tb Y.2.2.2.1, F.tb Y.2.2.2.2.1⟩ ⟨PW.blind, ?_, fun U hU hW => ⟨rfl, by rw [hU]; exact hP, hK.warm hW, hD.any⟩⟩ rfl hn hsz hst (lv_room hW) hdg hcs
  have := va_recv hK.1 hP hc he
  rw [hq] at this
  exact this
theorem runS {Qc : Array Value → State → Outcome → State → Prop} {free : Addr → Prop} (F : FX p m c cc nL s args y ret own meth) (Y : YS own idx y2 cy n2 ret2 k) (hM : Met l y2 (wM y2 cy n2 ret2) rm (va_Pc As (PW G wc)) Qc 0 0 free) (hK : KK G s) (hP : va_P G.1 vcl wc H) (hD : va_D A wc)
    (hrc : rm.cells = 0 ∧ rm.slots = 0) (hR : rm.frames + 1 ≤ R.frames ∧ 8 + (n2 + 11) + rm.locals ≤ R.locals) (hcs : cells ≤ R.cells ∧ slots ≤ R.slots) (hn : As.length = k) (hsz : ls.size = nL) (hst : st0 = As.reverse ++ rest) (hW : (rest.map fun v => v.category).sum ≤ 8) (hdg : decode cc pc = .ok (.invokestatic idx, 3)) :
    va_Run p l e R s m args below meth c H locs cells slots 0 0 (F0 m pc ls st0) rest (Qc As.toArray) free :=
  va_runS F.1 hM ⟨callB_of k F.1.2.2.2.2 (wM_good Y.1) rfl hrc.1 hrc.2 (F.tb Y.2.1) (F.tb Y.2.2.1) Y.2.2.2.2 hR, F.tb Y.2.2.2.1⟩ ⟨PW.blind, fun U hU hW => ⟨rfl, by rw [hU]; exact hP, hK.warm hW, hD.any⟩⟩ rfl hn hsz hst (lv_room hW) hdg hcs
theorem runN {Qc : Array Value → State → Outcome → State → Prop} {free : Addr → Prop} (F : FX p m c cc nL s args y ret own meth) (Y : YN own idx y2 host cy n2 ret2 k) (hM : Met l y2 (wM y2 cy n2 ret2) rm (va_Pc As (PW G wc)) Qc 0 0 free) (hK : KK G s) (hP : va_P G.1 vcl wc H) (hD : va_D A wc)
    (hrc : rm.cells = 0 ∧ rm.slots = 0) (hR : rm.frames + 1 ≤ R.frames ∧ 8 + (n2 + 11) + rm.locals ≤ R.locals) (hcs : cells ≤ R.cells ∧ slots ≤ R.slots) (hn : As.length = k) (hsz : ls.size = nL) (hst : st0 = As.reverse ++ rest) (hW : (rest.map fun v => v.category).sum ≤ 8) (hdg : decode cc pc = .ok (.invokestatic idx, 3)) :
    va_Run p l e R s m args below meth c H locs cells slots 0 0 (F0 m pc ls st0) rest (Qc As.toArray) free :=
  va_runSN F.1 hM ⟨va_cnB k F.1.2.2.2.2 (wM_good Y.1) rfl hrc.1 hrc.2 (Y.2.2.1 s hK.2) (F.tb Y.2.1) Y.2.2.2.2 hR, F.tb Y.2.2.2.1, trivial⟩ ⟨PW.blind, fun U hU hW => ⟨rfl, by rw [hU]; exact hP, hK.warm hW, hD.any⟩⟩ rfl hn hsz hst (lv_room hW) hdg hcs
end BASE
