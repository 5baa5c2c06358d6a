theorem dJ7_fill_53178_0 : decode cJ7_fill_53178 0 = .ok (.iconst 0, 1) := by decide +kernel
theorem dJ7_fill_53178_1 : decode cJ7_fill_53178 1 = .ok (.istore_n 2, 1) := by decide +kernel
theorem dJ7_fill_53178_2 : decode cJ7_fill_53178 2 = .ok (.aload_n 0, 1) := by decide +kernel
theorem dJ7_fill_53178_3 : decode cJ7_fill_53178 3 = .ok (.arraylength, 1) := by decide +kernel
theorem dJ7_fill_53178_4 : decode cJ7_fill_53178 4 = .ok (.istore_n 3, 1) := by decide +kernel
theorem dJ7_fill_53178_5 : decode cJ7_fill_53178 5 = .ok (.iload_n 2, 1) := by decide +kernel
theorem dJ7_fill_53178_6 : decode cJ7_fill_53178 6 = .ok (.iload_n 3, 1) := by decide +kernel
theorem dJ7_fill_53178_7 : decode cJ7_fill_53178 7 = .ok (.if_icmp .ge 13, 3) := by decide +kernel
theorem dJ7_fill_53178_10 : decode cJ7_fill_53178 10 = .ok (.aload_n 0, 1) := by decide +kernel
theorem dJ7_fill_53178_11 : decode cJ7_fill_53178 11 = .ok (.iload_n 2, 1) := by decide +kernel
theorem dJ7_fill_53178_12 : decode cJ7_fill_53178 12 = .ok (.iload_n 1, 1) := by decide +kernel
theorem dJ7_fill_53178_13 : decode cJ7_fill_53178 13 = .ok (.iastore, 1) := by decide +kernel
theorem dJ7_fill_53178_14 : decode cJ7_fill_53178 14 = .ok (.iinc 2 1, 3) := by decide +kernel
theorem dJ7_fill_53178_17 : decode cJ7_fill_53178 17 = .ok (.goto (-12), 3) := by decide +kernel
theorem dJ7_fill_53178_20 : decode cJ7_fill_53178 20 = .ok (.return_, 1) := by decide +kernel
/-! ===== constructors: what they make ===== -/
section CTORB
variable {p : Program} {l : Launch} {e : Env} {R : Room} {s : State} {m : MethodId} {args : Array Value} {below : List Frame} {meth : Method} {c : Code} {H : Heap} {locs : List Loc} {cells slots : Nat} {Q : State → Prop}
variable {G : GX} {A : Nat → Prop} {ws ws' : va_W} {cc : ByteArray} {nL pc : Nat} {y : MethodName} {ret : Option FieldType} {own : String} {ls : Array Slot} {rest : List Value}
theorem newI {n : Int32} {N : Nat} (F : FX p m c cc nL s args y ret own meth) (hK : KK G s) (hP : va_P G.1 vcl ws H) (hD : va_D A ws) (hS : va_S A s.heap H locs) (hA : ∀ q, s.heap.size ≤ q → A q) (hn : ¬ n < 0) (hN : n.toNatClampNeg = N) (hby : N * 4 ≤ 536870912) (hcells : cells + 1 ≤ R.cells) (hslots : slots + N ≤ R.slots) (hdg : decode cc pc = .ok (.newarray .int, 2))
    (kk : ∀ (q : Nat) (H1 : Heap), va_P G.1 vcl (ws ++ [(q, .inl (G.2.1, N, .inl (fun _ => 0)))]) H1 → va_D A (ws ++ [(q, .inl (G.2.1, N, .inl (fun _ => 0)))]) → va_S A s.heap H1 locs → W p l e R s m args below meth c H1 locs (cells + 1) (slots + N) Q (F0 m (pc + 2) ls (.ref q :: rest))) : W p l e R s m args below meth c H locs cells slots Q (F0 m pc ls (.int n :: rest)) := by
  refine va_newa (ty := .int) (a0 := (N, .inl (fun _ => 0))) F.1.1 F.1.2.1 (F.tb (tw 44 (by decide +kernel) rfl)) rfl hK.1 hP hD hS hA (fun cA => rfl) hn hN hby hcells hslots hdg (fun q cA H1 hK1 hP hD hS => ?_)
  have e : cA = G.2.1 := by
    have h1 : s.vm.findClass ("[" ++ FieldType.int.toString) = some cA := (hK1.2 3 (cA, .int) rfl).2
    have h0 : s.vm.findClass ("[" ++ FieldType.int.toString) = some G.2.1 := (hK.1.2 0 (G.2.1, .int) rfl).2
    exact Option.some.inj (h1.symm.trans h0)
  subst e
  exact kk q H1 hP hD hS
theorem newJ {n : Int32} {N : Nat} (F : FX p m c cc nL s args y ret own meth) (hK : KK G s) (hP : va_P G.1 vcl ws H) (hD : va_D A ws) (hS : va_S A s.heap H locs) (hA : ∀ q, s.heap.size ≤ q → A q) (hn : ¬ n < 0) (hN : n.toNatClampNeg = N) (hby : N * 8 ≤ 536870912) (hcells : cells + 1 ≤ R.cells) (hslots : slots + N ≤ R.slots) (hdg : decode cc pc = .ok (.newarray .long, 2))
    (kk : ∀ (q : Nat) (H1 : Heap), va_P G.1 vcl (ws ++ [(q, .inl (G.2.2.1, N, .inr (.inl (fun _ => 0))))]) H1 → va_D A (ws ++ [(q, .inl (G.2.2.1, N, .inr (.inl (fun _ => 0))))]) → va_S A s.heap H1 locs → W p l e R s m args below meth c H1 locs (cells + 1) (slots + N) Q (F0 m (pc + 2) ls (.ref q :: rest))) : W p l e R s m args below meth c H locs cells slots Q (F0 m pc ls (.int n :: rest)) := by
  refine va_newa (ty := .long) (a0 := (N, .inr (.inl (fun _ => 0)))) F.1.1 F.1.2.1 (F.tb (tw 100 (by decide +kernel) rfl)) rfl hK.1 hP hD hS hA (fun cA => rfl) hn hN hby hcells hslots hdg (fun q cA H1 hK1 hP hD hS => ?_)
  have e : cA = G.2.2.1 := by
    have h1 : s.vm.findClass ("[" ++ FieldType.long.toString) = some cA := (hK1.2 3 (cA, .long) rfl).2
    have h0 : s.vm.findClass ("[" ++ FieldType.long.toString) = some G.2.2.1 := (hK.1.2 1 (G.2.2.1, .long) rfl).2
    exact Option.some.inj (h1.symm.trans h0)
  subst e
  exact kk q H1 hP hD hS
theorem newQ {n : Int32} {N idx : Nat} (F : FX p m c cc nL s args y ret own meth) (hcl : Cond.classLink own idx RX2 ∈ lw_gt) (hAO : va_AO RX2 s) (hK : KK G s) (hP : va_P G.1 vcl ws H) (hD : va_D A ws) (hS : va_S A s.heap H locs) (hA : ∀ q, s.heap.size ≤ q → A q) (hn : ¬ n < 0) (hN : n.toNatClampNeg = N) (hby : N * 4 ≤ 536870912) (hcells : cells + 1 ≤ R.cells) (hslots : slots + N ≤ R.slots) (hdg : decode cc pc = .ok (.anewarray idx, 3))
    (kk : ∀ (q : Nat) (H1 : Heap), va_P G.1 vcl (ws ++ [(q, .inl (G.2.2.2, N, .inr (.inr (.inr (.inr (fun _ => none))))))]) H1 → va_D A (ws ++ [(q, .inl (G.2.2.2, N, .inr (.inr (.inr (.inr (fun _ => none))))))]) → va_S A s.heap H1 locs → W p l e R s m args below meth c H1 locs (cells + 1) (slots + N) Q (F0 m (pc + 3) ls (.ref q :: rest))) : W p l e R s m args below meth c H locs cells slots Q (F0 m pc ls (.int n :: rest)) := by
  refine va_newq F.1.1 F.1.2.1 F.1.2.2.2.1 (F.tb hcl) hAO hK.1 hP hD hS hA hn hN hby hcells hslots hdg (fun q cA H1 hK1 hP hD hS => ?_)
  have e : cA = G.2.2.2 := by
    obtain ⟨-, -, -, -, -, h1⟩ : va_RA s cA (.object RX2) := (hK1.2 3 (cA, .object RX2) rfl).2
    obtain ⟨-, -, -, -, -, h0⟩ : va_RA s G.2.2.2 (.object RX2) := (hK.1.2 2 (G.2.2.2, .object RX2) rfl).2
    exact Option.some.inj (h1.symm.trans h0)
  subst e
  exact kk q H1 hP hD hS
/-- a constructor's contract: from one bare cell to a world at addresses of its own -/
def QN {S : Type} (G : GX) (wf : S → va_W) (a0 : S → Nat) (h0 : Nat) (A : Nat → Prop) : Array Value → State → Outcome → State → Prop := va_Qv (fun ad : S => a0 ad = h0) (fun ad t => va_P G.1 vcl (wf ad) t.heap ∧ va_D A (wf ad)) A
def PN (G : GX) (ws : va_W) (sz : Nat) (U : State) : Prop := U.heap.size = sz ∧ PW G ws U ∧ va_AO RX2 U
def MN {S : Type} (l : Launch) (y : MethodName) (cc : ByteArray) (n : Nat) (rm : Room) (G : GX) (h0 : Nat) (e0 : va_E) (wf : S → va_W) (a0 : S → Nat) (sz : Nat) : Prop := Met l y (wM y cc n none) rm (va_Pc [.ref h0] (PN G [(h0, e0)] sz)) (QN G wf a0 h0 (va_A [(h0, e0)] sz)) rm.cells rm.slots (va_A [(h0, e0)] sz)
theorem PN.blind {av : List Value} {ws : va_W} {sz : Nat} : FrameBlind (va_Pc av (PN G ws sz)) := fun a U g mk q => ⟨q.1, q.2.1, ⟨q.2.2.1.1, ⟨va_K.moved (u := U) (U := U.calling g mk a) (Vm.Alike.refl U.vm) q.2.2.1.2.1.1, q.2.2.1.2.1.2.same (U := U.calling g mk a) rfl⟩, q.2.2.1.2.2⟩, q.2.2.2.moved (u := U) (U := U.calling g mk a) (Vm.Alike.refl U.vm)⟩
theorem MN.of {S : Type} {n : Nat} {rm : Room} {h0 : Nat} {e0 : va_E} {wf : S → va_W} {a0 : S → Nat} {sz : Nat} (hy : plainName y.cls = true) (hn : 1 ≤ n) (hnm : y.name = "<init>")
    (body : ∀ (p : Program) (e : Env) (s : State) (m : MethodId) (below : List Frame) (meth : Method) (c : Code) (ls : Array Slot), s.heap.size = sz → FX p m c cc n s [Value.ref h0].toArray y none y.cls meth → meth.name = "<init>" → va_AO RX2 s → WD G (va_A [(h0, e0)] sz) s [(h0, e0)] s.heap [] → lv_has ls n [(0, .ref h0)] →
      W p l e rm s m [Value.ref h0].toArray below meth c s.heap [] 0 0 (MQ below (QN G wf a0 h0 (va_A [(h0, e0)] sz)) [Value.ref h0].toArray s rm.cells rm.slots (va_A [(h0, e0)] sz)) (F0 m 0 ls [])) : MN l y cc n rm G h0 e0 wf a0 sz := by
  refine Met.ofW (cc := cc) (maxL := n) (ret := none) hy rfl ?_
  intro p e s m args below meth c s₁ B hml hv
  obtain ⟨rfl, hsz, ⟨hP, hK, hD⟩, hAO⟩ := hv
  rw [lg_entry_eq]
  exact body p e s m below meth c _ hsz ⟨⟨B.exec, B.bytes, hml, findClass_of_methodNamed B.named, atoms_spec (ws := wM y cc n none) B.pre⟩, B.returns, B.notSynchronized⟩ ((name_of_methodNamed B.named B.method).1.trans hnm) hAO ⟨hK, hP, by subst hsz; exact hD.self, va_S.rf⟩ (lv_entry [.ref h0] hn)
/-- the end of a constructor -/
theorem retN {S : Type} {h0 sz : Nat} {e0 : va_E} {wf : S → va_W} {a0 : S → Nat} {ad : S} {mc ms : Nat} (F : FX p m c cc nL s args y none own meth) (hc : cells ≤ mc) (hs : slots ≤ ms) (hP : va_P G.1 vcl (wf ad) H) (hD : va_D (va_A [(h0, e0)] sz) (wf ad)) (hS : va_S (va_A [(h0, e0)] sz) s.heap H locs) (h0e : a0 ad = h0) (hdg : decode cc pc = .ok (.return_, 1)) : W p l e R s m args below meth c H locs cells slots (MQ below (QN G wf a0 h0 (va_A [(h0, e0)] sz)) args s mc ms (va_A [(h0, e0)] sz)) (F0 m pc ls []) :=
  W.widen hc hs (W.vret F.1.1 F.1.2.1 F.2.1 (fun t ht _ => ⟨⟨ad, rfl, h0e, by rw [ht]; exact hP, hD⟩, hS.F ht⟩) hS.2.2 hdg F.2.2)
/-- what the tables say of a constructor that is called -/
def YI (own : String) (idx : Nat) (y : MethodName) (cy : ByteArray) (n : Nat) : Prop := Cond.code y cy n none ∈ lw_gt ∧ Cond.initialized y.cls ∈ lw_gt ∧ Cond.methodLink own idx y ∈ lw_gt ∧ Cond.instanceMethod y ∈ lw_gt ∧ y.name = "<init>" ∧ (y.cls ≠ "java/lang/invoke/MethodHandle" ∧ y.cls ≠ "java/lang/invoke/VarHandle" ∧ (parseMethodDescriptor y.desc).map (fun d => d.parameters.length) = some 0)
/-- a constructor is called on the cell that was made last -/
theorem callN {Ts : List Cond} {idx n2 b : Nat} {y2 : MethodName} {cy : ByteArray} {rm : Room} {e0 : va_E} {Ix : Type} {wf : Ix → va_W} {a0 : Ix → Nat} (S : CallFix p m c cc nL s args Ts own) (hsub : ∀ w ∈ lw_gt, w ∈ Ts) (Y : YI own idx y2 cy n2) (hM : ∀ sz, MN l y2 cy n2 rm G b e0 wf a0 sz) (hK : KK G s) (hAO : va_AO RX2 s) (hP : va_P G.1 vcl (ws ++ [(b, e0)]) H) (hD : va_D A (ws ++ [(b, e0)])) (hS : va_S A s.heap H locs) (hA : ∀ q, s.heap.size ≤ q → A q)
    (hR : rm.frames + 1 ≤ R.frames ∧ 8 + (n2 + 11) + rm.locals ≤ R.locals) (hcs : cells + rm.cells ≤ R.cells ∧ slots + rm.slots ≤ R.slots) (hsz : ls.size = nL) (hW : (rest.map fun v => v.category).sum ≤ 8) (hdg : decode cc pc = .ok (.invokespecial idx, 3))
    (kk : ∀ (ad : Ix) (H1 : Heap) (locs1 : List Loc), a0 ad = b → va_P G.1 vcl (ws ++ wf ad) H1 → va_D A (ws ++ wf ad) → va_S A s.heap H1 locs1 → W p l e R s m args below meth c H1 locs1 (cells + rm.cells) (slots + rm.slots) Q (F0 m (pc + 3) ls rest)) : W p l e R s m args below meth c H locs cells slots Q (F0 m pc ls (.ref b :: rest)) := by
  have tb : ∀ {w : Cond}, w ∈ lw_gt → w.before args s = true := fun h => S.2.2.2.2 _ (hsub _ h)
  have hG : GoodIn Ts (wM y2 cy n2 none) := by
    intro w hw
    rcases List.mem_cons.mp hw with rfl | hw
    · exact ⟨hsub _ Y.1, good_of_word (lw_good _ Y.1)⟩
    · exact ⟨hsub _ hw, good_of_word (lw_good _ hw)⟩
  have hF : ∀ q, va_A [(b, e0)] H.size q → A q := by
    rintro q (⟨k, e, h⟩ | h)
    · match k, h with
      | 0, h => cases h; exact hD.2 ws.length (b, e0) (by simp)
      | k + 1, h => simp at h
    · exact hA q (Nat.le_trans hS.1 h)
  have hP0 := va_P.right hP
  have hD0 := va_D.right hD
  refine va_callv (va_runI (b := b) (As := []) (rest := rest) S (hM H.size) ⟨callB_of 0 S.2.2.2.2 hG rfl rfl rfl (tb Y.2.1) (tb Y.2.2.1) Y.2.2.2.2.2 hR, Y.2.2.2.2.1, tb Y.2.2.2.1⟩ ⟨PN.blind, fun U hU hW => ⟨rfl, by rw [hU], ⟨by rw [hU]; exact hP0, hK.warm hW, hD0.any⟩, hAO.moved hW.alike⟩⟩ rfl rfl hsz rfl (lv_room hW) hdg hcs) hS (fun q _ h => hF q h) hF (fun ad t H1 locs1 ht hvm h0e hB hz1 hk1 hS1 => ?_)
  obtain ⟨hP1, hD1⟩ := hB
  rw [ht] at hP1
  refine kk ad H1 locs1 h0e (va_P.app (va_P_mem.mpr fun q hq => ?_) hP1) (va_D.app hD.left (hD1.weaken (fun k q _ h => hF q.1 h)) (fun i j x z hx hz hxz => ?_)) hS1
  · have h1 := va_P_mem.mp hP q (List.mem_append_left _ hq)
    refine h1.kept (hk1 q.1 h1.lt ?_)
    rintro (⟨k, e, h⟩ | h)
    · exact lr_apart hD hq (List.mem_of_getElem? h) rfl
    · exact absurd h1.lt (by omega)
  · have h1 := va_P_mem.mp hP x (List.mem_append_left _ (List.mem_of_getElem? hx))
    rcases hD1.2 j z hz with ⟨k, e, h⟩ | h
    · exact lr_apart hD (List.mem_of_getElem? hx) (List.mem_of_getElem? h) hxz
    · have := h1.lt
      rw [hxz] at this
      omega
end CTORB
/-! Arrays.fill -/
def fi_w (G : GX) (q n : Nat) (f : Nat → Int32) : va_W := [(q, .inl (G.2.1, n, .inl f))]
def rmFill : Room := { frames := 0, cells := 0, slots := 0, locals := 0 }
set_option maxHeartbeats 4000000 in
theorem c_fill {l : Launch} {G : GX} {q n : Nat} {f : Nat → Int32} {v : Int32} (hn : n < 2 ^ 31) : MW l yJ7_fill_53178 cJ7_fill_53178 4 none rmFill G (fi_w G q n f) (fi_w G q n (fun _ => v)) [.ref q, .int v] none := by
  refine MW.of (by decide) (Nat.le_of_ble_eq_true rfl) (fun p e s m below meth c ls F hw hl => ?_)
  obtain ⟨⟨hx, hb, hml, hown, hts⟩, hr, hlocks⟩ := id F
  generalize aw (fi_w G q n f) = A at hw ⊢
  have hl : lv_has ls 4 [(0, .ref q), (1, .int v)] := hl
  have loop : ∀ (k i : Nat) (g : Nat → Int32) (H : Heap) (locs : List Loc) (ls : Array Slot), i ≤ n → n + 1 ≤ i + k → (∀ j, j < i → g j = v) → WD G A s (fi_w G q n g) H locs → lv_has ls 4 [(2, .int (nI i)), (0, .ref q), (1, .int v), (3, .int (nI n))] → W p l e rmFill s m [Value.ref q, .int v].toArray below meth c H locs 0 0 (MQ below (QW G (fi_w G q n (fun _ => v)) A none) [Value.ref q, .int v].toArray s 0 0 A) (F0 m 5 ls []) := by
    intro k
    induction k with
    | zero => intro i g H locs ls h1 h2; exact absurd h2 (by omega)
    | succ k ih =>
      intro i g H locs ls h1 h2 h3 hw hl
      refine lv_iload_n hx hb dJ7_fill_53178_5 rfl (lv_at hl 0 rfl) ?_
      refine lv_iload_n hx hb dJ7_fill_53178_6 rfl (lv_at hl 3 rfl) ?_
      refine lv_icmp_ge (tgt := 20) hx hb dJ7_fill_53178_7 rfl (fun c1 => ?_) (fun c1 => ?_)
      · have hin : n ≤ i := (nI_leI hn (by omega)).mp c1
        refine retW_v F ⟨hw.1, ?_, hw.2.2.1.addr rfl, hw.2.2.2⟩ dJ7_fill_53178_20
        intro k q hk
        match k, hk with
        | 0, hk => cases hk; exact at_I (fun i hi => h3 i (by omega)) (hw.2.1 0 _ rfl)
        | k + 1, hk => simp [fi_w] at hk
      · have hin : i < n := Nat.lt_of_not_le fun z => c1 (nI_le z (by omega))
        refine lv_aload_n hx hb dJ7_fill_53178_10 rfl (lv_at hl 1 rfl) ?_
        refine lv_iload_n hx hb dJ7_fill_53178_11 rfl (lv_at hl 0 rfl) ?_
        refine lv_iload_n hx hb dJ7_fill_53178_12 rfl (lv_at hl 2 rfl) ?_
        refine va_iast hx hb hw.1.1 hw.2.1 hw.2.2.1 hw.2.2.2 0 0 rfl rfl (vp_in_nI hin hn) dJ7_fill_53178_13 (fun H1 l1 hP hD hS => ?_)
        refine lv_iinc (v := (nI (i + 1))) (lv' := [(2, .int (nI (i + 1))), (0, .ref q), (1, .int v), (3, .int (nI n))]) hx hb dJ7_fill_53178_14 hl (k := 0) rfl (nI_1 i) (by decide) rfl (fun ls hl => ?_)
        refine lv_goto (tgt := 5) hx hb dJ7_fill_53178_17 rfl ?_
        refine ih (i + 1) (upd g (nI i).toNatClampNeg v) H1 l1 ls (by omega) (by omega) (fun j hj => ?_) ⟨hw.1, hP, hD, hS⟩ hl
        rw [nI_clamp (by omega)]
        by_cases e : j = i
        · simp [upd, e]
        · rw [pk_un e]; exact h3 j (by omega)
  refine lv_iconst (v := 0) hx hb dJ7_fill_53178_0 rfl ?_
  refine lv_istore_n (lv' := [(2, .int 0), (0, .ref q), (1, .int v)]) hx hb dJ7_fill_53178_1 rfl hl (by decide) rfl (fun ls hl => ?_)
  refine lv_aload_n hx hb dJ7_fill_53178_2 rfl (lv_at hl 1 rfl) ?_
  refine va_alen hx hb hw.1.1 hw.2.1 0 0 rfl rfl (v := nI n) rfl dJ7_fill_53178_3 ?_
  refine lv_istore_n (lv' := [(3, .int (nI n)), (2, .int 0), (0, .ref q), (1, .int v)]) hx hb dJ7_fill_53178_4 rfl hl (by decide) rfl (fun ls hl => ?_)
  exact loop (n + 1) 0 f s.heap [] ls (Nat.zero_le n) (by omega) (fun j hj => absurd hj (Nat.not_lt_zero j)) hw (lv_sub hl [1, 2, 3, 0] rfl)
/-- Arrays.fill of one array of a world -/
theorem callFill {p : Program} {l : Launch} {e : Env} {R : Room} {s : State} {m : MethodId} {args : Array Value} {below : List Frame} {meth : Method} {c : Code} {H : Heap} {locs : List Loc} {cells slots : Nat} {Q : State → Prop} {G : GX} {A : Nat → Prop} {wl wr : va_W} {cc : ByteArray} {nL pc idx q n : Nat} {y : MethodName} {ret : Option FieldType} {own : String} {ls : Array Slot} {rest : List Value} {f : Nat → Int32} {v : Int32} (F : FX p m c cc nL s args y ret own meth) (Y : YS own idx yJ7_fill_53178 cJ7_fill_53178 4 none 2) (hn : n < 2 ^ 31) (hw : WD G A s (wl ++ ((q, .inl (G.2.1, n, .inl f)) :: wr)) H locs) (hR : 1 ≤ R.frames ∧ 23 ≤ R.locals) (hcs : cells ≤ R.cells ∧ slots ≤ R.slots) (hsz : ls.size = nL) (hW : (rest.map fun v => v.category).sum ≤ 8) (hdg : decode cc pc = .ok (.invokestatic idx, 3))
    (kk : ∀ (H1 : Heap) (locs1 : List Loc), WD G A s (wl ++ ((q, .inl (G.2.1, n, .inl (fun _ => v))) :: wr)) H1 locs1 → W p l e R s m args below meth c H1 locs1 cells slots Q (F0 m (pc + 3) ls rest)) : W p l e R s m args below meth c H locs cells slots Q (F0 m pc ls (.int v :: .ref q :: rest)) := by
  have hq : (q, (.inl (G.2.1, n, .inl f) : va_E)) ∈ wl ++ ((q, .inl (G.2.1, n, .inl f)) :: wr) := by simp
  have hp : (wl ++ ((q, (.inl (G.2.1, n, .inl f) : va_E)) :: wr)).Perm (fi_w G q n f ++ (wl ++ wr)) := List.perm_middle
  have hP0 := va_P.perm hw.2.1 hp.symm
  have hD0 := va_D.perm hw.2.2.1 hp.symm
  refine callW (runS F Y (c_fill (l := l) (G := G) (q := q) (f := f) (v := v) hn) hw.1 hP0.left hD0.left ⟨rfl, rfl⟩ hR hcs rfl hsz rfl hW hdg) hw.2.2.2 hD0.left.own_in (fun H1 l1 hP hk hS => ?_)
  have hp2 : (wl ++ ((q, (.inl (G.2.1, n, .inl (fun _ => v)) : va_E)) :: wr)).Perm (fi_w G q n (fun _ => v) ++ (wl ++ wr)) := List.perm_middle
  refine kk H1 l1 ⟨hw.1, va_P.perm (joinLf hP0 hD0 hk hP) hp2, hw.2.2.1.addr ?_, hS⟩
  rw [List.map_append, List.map_append]
  rfl
