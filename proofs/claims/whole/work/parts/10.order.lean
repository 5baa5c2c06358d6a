/-! ===== X3_isKind ===== -/
theorem dX3_isKind_0 : decode cX3_isKind 0 = .ok (.iload_n 0, 1) := by decide +kernel
theorem dX3_isKind_1 : decode cX3_isKind 1 = .ok (.ifCond .lt 12, 3) := by decide +kernel
theorem dX3_isKind_4 : decode cX3_isKind 4 = .ok (.iload_n 0, 1) := by decide +kernel
theorem dX3_isKind_5 : decode cX3_isKind 5 = .ok (.iconst 3, 1) := by decide +kernel
theorem dX3_isKind_6 : decode cX3_isKind 6 = .ok (.if_icmp .gt 7, 3) := by decide +kernel
theorem dX3_isKind_9 : decode cX3_isKind 9 = .ok (.iconst 1, 1) := by decide +kernel
theorem dX3_isKind_10 : decode cX3_isKind 10 = .ok (.goto 4, 3) := by decide +kernel
theorem dX3_isKind_13 : decode cX3_isKind 13 = .ok (.iconst 0, 1) := by decide +kernel
theorem dX3_isKind_14 : decode cX3_isKind 14 = .ok (.ireturn, 1) := by decide +kernel
def rmX3_isKind : Room := { frames := 0, cells := 0, slots := 0, locals := 0 }
noncomputable def f_X3_isKind (x0 : Int32) : Option (Int32) := (if x0 < 0 then some 0 else (if (3 : Int32) < x0 then some 0 else some 1))
section
variable {p : Program} {l : Launch} {e : Env} {s : State} {m : MethodId} {args : Array Value} {below : List Frame} {meth : Method} {c : Code}
variable {G : GX} {A : Nat → Prop} {ad : Nat → Nat}
set_option maxHeartbeats 4000000 in
set_option maxRecDepth 100000 in
theorem w_X3_isKind_0 (F : FX p m c cX3_isKind 1 s args yX3_isKind (some .boolean) RX3 meth) {z : Int32} : ∀ (x0 : Int32) (ls : Array Slot), WD G A s [] s.heap [] → lv_has ls 1 [(0, .int x0)] → f_X3_isKind x0 = some z → W p l e rmX3_isKind s m args below meth c s.heap [] 0 0 (MQ below (QO (some (.int z))) args s 0 0 (fun _ => False)) (F0 m 0 ls []) := by
  obtain ⟨⟨hx, hb, hml, hown, hts⟩, hr, hlocks⟩ := id F
  intro x0 ls hw hl h
  unfold f_X3_isKind at h
  refine lv_iload_n hx hb dX3_isKind_0 rfl (lv_at hl 0 rfl) ?_
  refine lv_if_lt (tgt := 13) hx hb dX3_isKind_1 rfl (fun c1 => ?_) (fun c1 => ?_)
  · replace h := itT h c1
    refine lv_iconst (v := 0) hx hb dX3_isKind_13 rfl ?_
    cases h
    exact retO_z F narrow_b0 dX3_isKind_14
  · replace h := itF h c1
    refine lv_iload_n hx hb dX3_isKind_4 rfl (lv_at hl 0 rfl) ?_
    refine lv_iconst (v := 3) hx hb dX3_isKind_5 rfl ?_
    refine lv_icmp_gt (tgt := 13) hx hb dX3_isKind_6 rfl (fun c2 => ?_) (fun c2 => ?_)
    · replace h := itT h c2
      refine lv_iconst (v := 0) hx hb dX3_isKind_13 rfl ?_
      cases h
      exact retO_z F narrow_b0 dX3_isKind_14
    · replace h := itF h c2
      refine lv_iconst (v := 1) hx hb dX3_isKind_9 rfl ?_
      refine lv_goto (tgt := 14) hx hb dX3_isKind_10 rfl ?_
      cases h
      exact retO_z F narrow_b1 dX3_isKind_14
end
theorem c_X3_isKind {l : Launch} {G : GX} {x0 : Int32} {z : Int32} (h : f_X3_isKind x0 = some z) : MO l yX3_isKind cX3_isKind 1 (some .boolean) rmX3_isKind G [] [.int x0] (some (.int z)) := MO.of (by decide) (Nat.le_of_ble_eq_true rfl) (fun p e s m below meth c ls F hw hl => w_X3_isKind_0 F _ _ hw hl h)
/-! ===== X3_isEnd ===== -/
theorem dX3_isEnd_0 : decode cX3_isEnd 0 = .ok (.iload_n 0, 1) := by decide +kernel
theorem dX3_isEnd_1 : decode cX3_isEnd 1 = .ok (.iconst 1, 1) := by decide +kernel
theorem dX3_isEnd_2 : decode cX3_isEnd 2 = .ok (.iand, 1) := by decide +kernel
theorem dX3_isEnd_3 : decode cX3_isEnd 3 = .ok (.iconst 1, 1) := by decide +kernel
theorem dX3_isEnd_4 : decode cX3_isEnd 4 = .ok (.if_icmp .ne 7, 3) := by decide +kernel
theorem dX3_isEnd_7 : decode cX3_isEnd 7 = .ok (.iconst 1, 1) := by decide +kernel
theorem dX3_isEnd_8 : decode cX3_isEnd 8 = .ok (.goto 4, 3) := by decide +kernel
theorem dX3_isEnd_11 : decode cX3_isEnd 11 = .ok (.iconst 0, 1) := by decide +kernel
theorem dX3_isEnd_12 : decode cX3_isEnd 12 = .ok (.ireturn, 1) := by decide +kernel
def rmX3_isEnd : Room := { frames := 0, cells := 0, slots := 0, locals := 0 }
noncomputable def f_X3_isEnd (x0 : Int32) : Option (Int32) := (if (x0 &&& 1) = (1 : Int32) then some 1 else some 0)
section
variable {p : Program} {l : Launch} {e : Env} {s : State} {m : MethodId} {args : Array Value} {below : List Frame} {meth : Method} {c : Code}
variable {G : GX} {A : Nat → Prop} {ad : Nat → Nat}
set_option maxHeartbeats 4000000 in
set_option maxRecDepth 100000 in
theorem w_X3_isEnd_0 (F : FX p m c cX3_isEnd 1 s args yX3_isEnd (some .boolean) RX3 meth) {z : Int32} : ∀ (x0 : Int32) (ls : Array Slot), WD G A s [] s.heap [] → lv_has ls 1 [(0, .int x0)] → f_X3_isEnd x0 = some z → W p l e rmX3_isEnd s m args below meth c s.heap [] 0 0 (MQ below (QO (some (.int z))) args s 0 0 (fun _ => False)) (F0 m 0 ls []) := by
  obtain ⟨⟨hx, hb, hml, hown, hts⟩, hr, hlocks⟩ := id F
  intro x0 ls hw hl h
  unfold f_X3_isEnd at h
  refine lv_iload_n hx hb dX3_isEnd_0 rfl (lv_at hl 0 rfl) ?_
  refine lv_iconst (v := 1) hx hb dX3_isEnd_1 rfl ?_
  refine lv_iand hx hb dX3_isEnd_2 ?_
  refine lv_iconst (v := 1) hx hb dX3_isEnd_3 rfl ?_
  refine lv_icmp_ne (tgt := 11) hx hb dX3_isEnd_4 rfl (fun c1 => ?_) (fun c1 => ?_)
  · replace h := itF h c1
    refine lv_iconst (v := 0) hx hb dX3_isEnd_11 rfl ?_
    cases h
    exact retO_z F narrow_b0 dX3_isEnd_12
  · replace h := itT h c1
    refine lv_iconst (v := 1) hx hb dX3_isEnd_7 rfl ?_
    refine lv_goto (tgt := 12) hx hb dX3_isEnd_8 rfl ?_
    cases h
    exact retO_z F narrow_b1 dX3_isEnd_12
end
theorem c_X3_isEnd {l : Launch} {G : GX} {x0 : Int32} {z : Int32} (h : f_X3_isEnd x0 = some z) : MO l yX3_isEnd cX3_isEnd 1 (some .boolean) rmX3_isEnd G [] [.int x0] (some (.int z)) := MO.of (by decide) (Nat.le_of_ble_eq_true rfl) (fun p e s m below meth c ls F hw hl => w_X3_isEnd_0 F _ _ hw hl h)
/-! ===== X3_thingOf ===== -/
theorem dX3_thingOf_0 : decode cX3_thingOf 0 = .ok (.iload_n 0, 1) := by decide +kernel
theorem dX3_thingOf_1 : decode cX3_thingOf 1 = .ok (.iconst 1, 1) := by decide +kernel
theorem dX3_thingOf_2 : decode cX3_thingOf 2 = .ok (.ishr, 1) := by decide +kernel
theorem dX3_thingOf_3 : decode cX3_thingOf 3 = .ok (.ireturn, 1) := by decide +kernel
def rmX3_thingOf : Room := { frames := 0, cells := 0, slots := 0, locals := 0 }
noncomputable def f_X3_thingOf (x0 : Int32) : Option (Int32) := some (x0 >>> (1 &&& 31))
section
variable {p : Program} {l : Launch} {e : Env} {s : State} {m : MethodId} {args : Array Value} {below : List Frame} {meth : Method} {c : Code}
variable {G : GX} {A : Nat → Prop} {ad : Nat → Nat}
set_option maxHeartbeats 4000000 in
set_option maxRecDepth 100000 in
theorem w_X3_thingOf_0 (F : FX p m c cX3_thingOf 1 s args yX3_thingOf (some .int) RX3 meth) {z : Int32} : ∀ (x0 : Int32) (ls : Array Slot), WD G A s [] s.heap [] → lv_has ls 1 [(0, .int x0)] → f_X3_thingOf x0 = some z → W p l e rmX3_thingOf s m args below meth c s.heap [] 0 0 (MQ below (QO (some (.int z))) args s 0 0 (fun _ => False)) (F0 m 0 ls []) := by
  obtain ⟨⟨hx, hb, hml, hown, hts⟩, hr, hlocks⟩ := id F
  intro x0 ls hw hl h
  unfold f_X3_thingOf at h
  refine lv_iload_n hx hb dX3_thingOf_0 rfl (lv_at hl 0 rfl) ?_
  refine lv_iconst (v := 1) hx hb dX3_thingOf_1 rfl ?_
  refine lv_ishr hx hb dX3_thingOf_2 ?_
  cases h
  exact retO_i F dX3_thingOf_3
end
theorem c_X3_thingOf {l : Launch} {G : GX} {x0 : Int32} {z : Int32} (h : f_X3_thingOf x0 = some z) : MO l yX3_thingOf cX3_thingOf 1 (some .int) rmX3_thingOf G [] [.int x0] (some (.int z)) := MO.of (by decide) (Nat.le_of_ble_eq_true rfl) (fun p e s m below meth c ls F hw hl => w_X3_thingOf_0 F _ _ hw hl h)
/-! ===== X3_standOf ===== -/
theorem dX3_standOf_0 : decode cX3_standOf 0 = .ok (.iload_n 0, 1) := by decide +kernel
theorem dX3_standOf_1 : decode cX3_standOf 1 = .ok (.iconst (-1), 1) := by decide +kernel
theorem dX3_standOf_2 : decode cX3_standOf 2 = .ok (.if_icmp .ne 5, 3) := by decide +kernel
theorem dX3_standOf_5 : decode cX3_standOf 5 = .ok (.iconst (-1), 1) := by decide +kernel
theorem dX3_standOf_6 : decode cX3_standOf 6 = .ok (.ireturn, 1) := by decide +kernel
theorem dX3_standOf_7 : decode cX3_standOf 7 = .ok (.iload_n 1, 1) := by decide +kernel
theorem dX3_standOf_8 : decode cX3_standOf 8 = .ok (.ifCond .eq 11, 3) := by decide +kernel
theorem dX3_standOf_11 : decode cX3_standOf 11 = .ok (.iconst 2, 1) := by decide +kernel
theorem dX3_standOf_12 : decode cX3_standOf 12 = .ok (.iload_n 0, 1) := by decide +kernel
theorem dX3_standOf_13 : decode cX3_standOf 13 = .ok (.imul, 1) := by decide +kernel
theorem dX3_standOf_14 : decode cX3_standOf 14 = .ok (.iconst 1, 1) := by decide +kernel
theorem dX3_standOf_15 : decode cX3_standOf 15 = .ok (.iadd, 1) := by decide +kernel
theorem dX3_standOf_16 : decode cX3_standOf 16 = .ok (.goto 6, 3) := by decide +kernel
theorem dX3_standOf_19 : decode cX3_standOf 19 = .ok (.iconst 2, 1) := by decide +kernel
theorem dX3_standOf_20 : decode cX3_standOf 20 = .ok (.iload_n 0, 1) := by decide +kernel
theorem dX3_standOf_21 : decode cX3_standOf 21 = .ok (.imul, 1) := by decide +kernel
theorem dX3_standOf_22 : decode cX3_standOf 22 = .ok (.ireturn, 1) := by decide +kernel
def rmX3_standOf : Room := { frames := 0, cells := 0, slots := 0, locals := 0 }
noncomputable def f_X3_standOf (x0 : Int32) (x1 : Int32) : Option (Int32) := (if x0 = ((-1) : Int32) then some (-1) else (if x1 = 0 then some (2 * x0) else some ((2 * x0) + 1)))
section
variable {p : Program} {l : Launch} {e : Env} {s : State} {m : MethodId} {args : Array Value} {below : List Frame} {meth : Method} {c : Code}
variable {G : GX} {A : Nat → Prop} {ad : Nat → Nat}
set_option maxHeartbeats 4000000 in
set_option maxRecDepth 100000 in
theorem w_X3_standOf_0 (F : FX p m c cX3_standOf 2 s args yX3_standOf (some .int) RX3 meth) {z : Int32} : ∀ (x0 : Int32) (x1 : Int32) (ls : Array Slot), WD G A s [] s.heap [] → lv_has ls 2 [(0, .int x0), (1, .int x1)] → f_X3_standOf x0 x1 = some z → W p l e rmX3_standOf s m args below meth c s.heap [] 0 0 (MQ below (QO (some (.int z))) args s 0 0 (fun _ => False)) (F0 m 0 ls []) := by
  obtain ⟨⟨hx, hb, hml, hown, hts⟩, hr, hlocks⟩ := id F
  intro x0 x1 ls hw hl h
  unfold f_X3_standOf at h
  refine lv_iload_n hx hb dX3_standOf_0 rfl (lv_at hl 0 rfl) ?_
  refine lv_iconst (v := (-1)) hx hb dX3_standOf_1 rfl ?_
  refine lv_icmp_ne (tgt := 7) hx hb dX3_standOf_2 rfl (fun c1 => ?_) (fun c1 => ?_)
  · replace h := itF h c1
    refine lv_iload_n hx hb dX3_standOf_7 rfl (lv_at hl 1 rfl) ?_
    refine lv_if_eq (tgt := 19) hx hb dX3_standOf_8 rfl (fun c2 => ?_) (fun c2 => ?_)
    · replace h := itT h c2
      refine lv_iconst (v := 2) hx hb dX3_standOf_19 rfl ?_
      refine lv_iload_n hx hb dX3_standOf_20 rfl (lv_at hl 0 rfl) ?_
      refine lv_imul hx hb dX3_standOf_21 ?_
      cases h
      exact retO_i F dX3_standOf_22
    · replace h := itF h c2
      refine lv_iconst (v := 2) hx hb dX3_standOf_11 rfl ?_
      refine lv_iload_n hx hb dX3_standOf_12 rfl (lv_at hl 0 rfl) ?_
      refine lv_imul hx hb dX3_standOf_13 ?_
      refine lv_iconst (v := 1) hx hb dX3_standOf_14 rfl ?_
      refine lv_iadd hx hb dX3_standOf_15 ?_
      refine lv_goto (tgt := 22) hx hb dX3_standOf_16 rfl ?_
      cases h
      exact retO_i F dX3_standOf_22
  · replace h := itT h c1
    refine lv_iconst (v := (-1)) hx hb dX3_standOf_5 rfl ?_
    cases h
    exact retO_i F dX3_standOf_6
end
theorem c_X3_standOf {l : Launch} {G : GX} {x0 : Int32} {x1 : Int32} {z : Int32} (h : f_X3_standOf x0 x1 = some z) : MO l yX3_standOf cX3_standOf 2 (some .int) rmX3_standOf G [] [.int x0, .int x1] (some (.int z)) := MO.of (by decide) (Nat.le_of_ble_eq_true rfl) (fun p e s m below meth c ls F hw hl => w_X3_standOf_0 F _ _ _ hw hl h)
/-! ===== X3_dealt ===== -/
theorem dX3_dealt_0 : decode cX3_dealt 0 = .ok (.iload_n 3, 1) := by decide +kernel
theorem dX3_dealt_1 : decode cX3_dealt 1 = .ok (.ifCond .gt 5, 3) := by decide +kernel
theorem dX3_dealt_4 : decode cX3_dealt 4 = .ok (.lload_n 0, 1) := by decide +kernel
theorem dX3_dealt_5 : decode cX3_dealt 5 = .ok (.lreturn, 1) := by decide +kernel
theorem dX3_dealt_6 : decode cX3_dealt 6 = .ok (.lload_n 0, 1) := by decide +kernel
theorem dX3_dealt_7 : decode cX3_dealt 7 = .ok (.ldc2_w 205, 3) := by decide +kernel
theorem dX3_dealt_10 : decode cX3_dealt 10 = .ok (.iload 4, 2) := by decide +kernel
theorem dX3_dealt_12 : decode cX3_dealt 12 = .ok (.i2l, 1) := by decide +kernel
theorem dX3_dealt_13 : decode cX3_dealt 13 = .ok (.lmul, 1) := by decide +kernel
theorem dX3_dealt_14 : decode cX3_dealt 14 = .ok (.lconst 1, 1) := by decide +kernel
theorem dX3_dealt_15 : decode cX3_dealt 15 = .ok (.ladd, 1) := by decide +kernel
theorem dX3_dealt_16 : decode cX3_dealt 16 = .ok (.lconst 1, 1) := by decide +kernel
theorem dX3_dealt_17 : decode cX3_dealt 17 = .ok (.iload_n 2, 1) := by decide +kernel
theorem dX3_dealt_18 : decode cX3_dealt 18 = .ok (.lshl, 1) := by decide +kernel
theorem dX3_dealt_19 : decode cX3_dealt 19 = .ok (.lmul, 1) := by decide +kernel
theorem dX3_dealt_20 : decode cX3_dealt 20 = .ok (.ldc2_w 205, 3) := by decide +kernel
theorem dX3_dealt_23 : decode cX3_dealt 23 = .ok (.iload_n 3, 1) := by decide +kernel
theorem dX3_dealt_24 : decode cX3_dealt 24 = .ok (.i2l, 1) := by decide +kernel
theorem dX3_dealt_25 : decode cX3_dealt 25 = .ok (.lmul, 1) := by decide +kernel
theorem dX3_dealt_26 : decode cX3_dealt 26 = .ok (.ldiv, 1) := by decide +kernel
theorem dX3_dealt_27 : decode cX3_dealt 27 = .ok (.ladd, 1) := by decide +kernel
theorem dX3_dealt_28 : decode cX3_dealt 28 = .ok (.lreturn, 1) := by decide +kernel
def rmX3_dealt : Room := { frames := 0, cells := 0, slots := 0, locals := 0 }
noncomputable def f_X3_dealt (x0 : Int64) (x2 : Int32) (x3 : Int32) (x4 : Int32) : Option (Int64) := (if 0 < x3 then (if ¬ (2 * (Int32.toInt64 x3)) = 0 then some (x0 + ((((2 * (Int32.toInt64 x4)) + 1) * ((1 : Int64) <<< (Int32.toInt64 x2 &&& 63))) / (2 * (Int32.toInt64 x3)))) else none) else some x0)
section
variable {p : Program} {l : Launch} {e : Env} {s : State} {m : MethodId} {args : Array Value} {below : List Frame} {meth : Method} {c : Code}
variable {G : GX} {A : Nat → Prop} {ad : Nat → Nat}
set_option maxHeartbeats 4000000 in
set_option maxRecDepth 100000 in
theorem w_X3_dealt_0 (F : FX p m c cX3_dealt 5 s args yX3_dealt (some .long) RX3 meth) {z : Int64} : ∀ (x0 : Int64) (x2 : Int32) (x3 : Int32) (x4 : Int32) (ls : Array Slot), WD G A s [] s.heap [] → lv_has ls 5 [(0, .long x0), (2, .int x2), (3, .int x3), (4, .int x4)] → f_X3_dealt x0 x2 x3 x4 = some z → W p l e rmX3_dealt s m args below meth c s.heap [] 0 0 (MQ below (QO (some (.long z))) args s 0 0 (fun _ => False)) (F0 m 0 ls []) := by
  obtain ⟨⟨hx, hb, hml, hown, hts⟩, hr, hlocks⟩ := id F
  intro x0 x2 x3 x4 ls hw hl h
  unfold f_X3_dealt at h
  refine lv_iload_n hx hb dX3_dealt_0 rfl (lv_at hl 2 rfl) ?_
  refine lv_if_gt (tgt := 6) hx hb dX3_dealt_1 rfl (fun c1 => ?_) (fun c1 => ?_)
  · replace h := itT h c1
    refine lv_lload_n hx hb dX3_dealt_6 rfl (lv_at hl 0 rfl) ?_
    refine lv_ldc2 (own := RX3) (v := 2) hx hb hown (F.tb (tw 272 (by decide +kernel) rfl)) dX3_dealt_7 ?_
    refine lv_iload hx hb dX3_dealt_10 (lv_at hl 3 rfl) ?_
    refine lv_i2l hx hb dX3_dealt_12 rfl ?_
    refine lv_lmul hx hb dX3_dealt_13 ?_
    refine lv_lconst (v := 1) hx hb dX3_dealt_14 rfl ?_
    refine lv_ladd hx hb dX3_dealt_15 ?_
    refine lv_lconst (v := 1) hx hb dX3_dealt_16 rfl ?_
    refine lv_iload_n hx hb dX3_dealt_17 rfl (lv_at hl 1 rfl) ?_
    refine lv_lshl hx hb dX3_dealt_18 rfl ?_
    refine lv_lmul hx hb dX3_dealt_19 ?_
    refine lv_ldc2 (own := RX3) (v := 2) hx hb hown (F.tb (tw 272 (by decide +kernel) rfl)) dX3_dealt_20 ?_
    refine lv_iload_n hx hb dX3_dealt_23 rfl (lv_at hl 2 rfl) ?_
    refine lv_i2l hx hb dX3_dealt_24 rfl ?_
    refine lv_lmul hx hb dX3_dealt_25 ?_
    obtain ⟨g2, h⟩ := gd h
    refine lv_ldiv hx hb dX3_dealt_26 g2 ?_
    refine lv_ladd hx hb dX3_dealt_27 ?_
    cases h
    exact retO_l F dX3_dealt_28
  · replace h := itF h c1
    refine lv_lload_n hx hb dX3_dealt_4 rfl (lv_at hl 0 rfl) ?_
    cases h
    exact retO_l F dX3_dealt_5
end
theorem c_X3_dealt {l : Launch} {G : GX} {x0 : Int64} {x2 : Int32} {x3 : Int32} {x4 : Int32} {z : Int64} (h : f_X3_dealt x0 x2 x3 x4 = some z) : MO l yX3_dealt cX3_dealt 5 (some .long) rmX3_dealt G [] [.long x0, .int x2, .int x3, .int x4] (some (.long z)) := MO.of (by decide) (Nat.le_of_ble_eq_true rfl) (fun p e s m below meth c ls F hw hl => w_X3_dealt_0 F _ _ _ _ _ hw hl h)
/-! ===== X1_first ===== -/
theorem dX1_first_0 : decode cX1_first 0 = .ok (.iload_n 1, 1) := by decide +kernel
theorem dX1_first_1 : decode cX1_first 1 = .ok (.ifCond .lt 18, 3) := by decide +kernel
theorem dX1_first_4 : decode cX1_first 4 = .ok (.iload_n 1, 1) := by decide +kernel
theorem dX1_first_5 : decode cX1_first 5 = .ok (.bipush 8, 2) := by decide +kernel
theorem dX1_first_7 : decode cX1_first 7 = .ok (.if_icmp .ge 12, 3) := by decide +kernel
theorem dX1_first_10 : decode cX1_first 10 = .ok (.aload_n 0, 1) := by decide +kernel
theorem dX1_first_11 : decode cX1_first 11 = .ok (.getfield 15, 3) := by decide +kernel
theorem dX1_first_14 : decode cX1_first 14 = .ok (.iload_n 1, 1) := by decide +kernel
theorem dX1_first_15 : decode cX1_first 15 = .ok (.iaload, 1) := by decide +kernel
theorem dX1_first_16 : decode cX1_first 16 = .ok (.goto 4, 3) := by decide +kernel
theorem dX1_first_19 : decode cX1_first 19 = .ok (.iconst 0, 1) := by decide +kernel
theorem dX1_first_20 : decode cX1_first 20 = .ok (.ireturn, 1) := by decide +kernel
theorem o_g0_1 {p : Program} {l : Launch} {e : Env} {R : Room} {s : State} {m : MethodId} {args : Array Value} {below : List Frame} {meth : Method} {c : Code} {H : Heap} {locs : List Loc} {cells slots : Nat} {Q : State → Prop} {G : GX} {A : Nat → Prop} {ad : Nat → Nat} {u : OS} {cc : ByteArray} {nL pc : Nat} {y : MethodName} {ret : Option FieldType} {ls : Array Slot} {rest : List Value} (F : FX p m c cc nL s args y ret RX1 meth) (hw : WD G A s (ow G ad u) H locs) (hdg : decode cc pc = .ok (.getfield 15, 3)) (kk : W p l e R s m args below meth c H locs cells slots Q (F0 m (pc + 3) ls (.ref (ad 2) :: rest))) : W p l e R s m args below meth c H locs cells slots Q (F0 m pc ls (.ref (ad 0) :: rest)) := va_get (D := G.1) (ci := 1) (C := RX1) (T := TX1) (N := 3) (Ts := lw_gt) F.1.1 F.1.2.1 (fun _ h => F.tb h) inX1 F.1.2.2.2.1 hw.1.1 hw.2.1 0 rfl rfl 1 (by decide) (F.tb (tw 35 (by decide +kernel) rfl)) (fun _ h9 => h9) rfl hdg kk
theorem o_l2 {i : Int32} {p : Program} {l : Launch} {e : Env} {R : Room} {s : State} {m : MethodId} {args : Array Value} {below : List Frame} {meth : Method} {c : Code} {H : Heap} {locs : List Loc} {cells slots : Nat} {Q : State → Prop} {G : GX} {A : Nat → Prop} {ad : Nat → Nat} {u : OS} {cc : ByteArray} {nL pc : Nat} {y : MethodName} {ret : Option FieldType} {ls : Array Slot} {rest : List Value} (F : FX p m c cc nL s args y ret RX1 meth) (hw : WD G A s (ow G ad u) H locs) (hi : ix i 9 = true) (hdg : decode cc pc = .ok (.iaload, 1)) (kk : W p l e R s m args below meth c H locs cells slots Q (F0 m (pc + 1) ls (.int ((u 2) i.toNatClampNeg) :: rest))) : W p l e R s m args below meth c H locs cells slots Q (F0 m pc ls (.int i :: .ref (ad 2) :: rest)) := va_iald F.1.1 F.1.2.1 hw.1.1 hw.2.1 2 0 rfl rfl (ix_in hi) hdg kk
def rmX1_first : Room := { frames := 0, cells := 0, slots := 0, locals := 0 }
noncomputable def f_X1_first (x1 : Int32) (u : OS) : Option (Int32) := (if x1 < 0 then some 0 else (if (8 : Int32) ≤ x1 then some 0 else (if ix x1 9 = true then some ((u 2) (Int32.toNatClampNeg x1)) else none)))
section
variable {p : Program} {l : Launch} {e : Env} {s : State} {m : MethodId} {args : Array Value} {below : List Frame} {meth : Method} {c : Code}
variable {G : GX} {A : Nat → Prop} {ad : Nat → Nat} 
set_option maxHeartbeats 4000000 in
set_option maxRecDepth 100000 in
theorem w_X1_first_0 (F : FX p m c cX1_first 2 s args yX1_first (some .int) RX1 meth) {z : Int32} : ∀ (x1 : Int32) (u : OS) (ls : Array Slot), WD G A s (ow G ad u) s.heap [] → lv_has ls 2 [(0, .ref (ad 0)), (1, .int x1)] → f_X1_first x1 u = some z → W p l e rmX1_first s m args below meth c s.heap [] 0 0 (MQ below (QO (some (.int z))) args s 0 0 (fun _ => False)) (F0 m 0 ls []) := by
  obtain ⟨⟨hx, hb, hml, hown, hts⟩, hr, hlocks⟩ := id F
  intro x1 u ls hw hl h
  unfold f_X1_first at h
  refine lv_iload_n hx hb dX1_first_0 rfl (lv_at hl 1 rfl) ?_
  refine lv_if_lt (tgt := 19) hx hb dX1_first_1 rfl (fun c1 => ?_) (fun c1 => ?_)
  · replace h := itT h c1
    refine lv_iconst (v := 0) hx hb dX1_first_19 rfl ?_
    cases h
    exact retO_i F dX1_first_20
  · replace h := itF h c1
    refine lv_iload_n hx hb dX1_first_4 rfl (lv_at hl 1 rfl) ?_
    refine lv_bipush (v := 8) hx hb dX1_first_5 rfl ?_
    refine lv_icmp_ge (tgt := 19) hx hb dX1_first_7 rfl (fun c2 => ?_) (fun c2 => ?_)
    · replace h := itT h c2
      refine lv_iconst (v := 0) hx hb dX1_first_19 rfl ?_
      cases h
      exact retO_i F dX1_first_20
    · replace h := itF h c2
      refine lv_aload_n hx hb dX1_first_10 rfl (lv_at hl 0 rfl) ?_
      refine o_g0_1 F hw dX1_first_11 ?_
      refine lv_iload_n hx hb dX1_first_14 rfl (lv_at hl 1 rfl) ?_
      obtain ⟨g3, h⟩ := gd h
      refine o_l2 F hw g3 dX1_first_15 ?_
      refine lv_goto (tgt := 20) hx hb dX1_first_16 rfl ?_
      cases h
      exact retO_i F dX1_first_20
end
theorem c_X1_first {l : Launch} {G : GX} {ad : Nat → Nat} {x1 : Int32} {u : OS} {z : Int32} (h : f_X1_first x1 u = some z) : MO l yX1_first cX1_first 2 (some .int) rmX1_first G (ow G ad u) [.ref (ad 0), .int x1] (some (.int z)) := MO.of (by decide) (Nat.le_of_ble_eq_true rfl) (fun p e s m below meth c ls F hw hl => w_X1_first_0 F _ _ _ hw hl h)
/-! ===== X1_end ===== -/
theorem dX1_end_0 : decode cX1_end 0 = .ok (.iload_n 1, 1) := by decide +kernel
theorem dX1_end_1 : decode cX1_end 1 = .ok (.ifCond .lt 20, 3) := by decide +kernel
theorem dX1_end_4 : decode cX1_end 4 = .ok (.iload_n 1, 1) := by decide +kernel
theorem dX1_end_5 : decode cX1_end 5 = .ok (.bipush 8, 2) := by decide +kernel
theorem dX1_end_7 : decode cX1_end 7 = .ok (.if_icmp .ge 14, 3) := by decide +kernel
theorem dX1_end_10 : decode cX1_end 10 = .ok (.aload_n 0, 1) := by decide +kernel
theorem dX1_end_11 : decode cX1_end 11 = .ok (.getfield 15, 3) := by decide +kernel
theorem dX1_end_14 : decode cX1_end 14 = .ok (.iload_n 1, 1) := by decide +kernel
theorem dX1_end_15 : decode cX1_end 15 = .ok (.iconst 1, 1) := by decide +kernel
theorem dX1_end_16 : decode cX1_end 16 = .ok (.iadd, 1) := by decide +kernel
theorem dX1_end_17 : decode cX1_end 17 = .ok (.iaload, 1) := by decide +kernel
theorem dX1_end_18 : decode cX1_end 18 = .ok (.goto 4, 3) := by decide +kernel
theorem dX1_end_21 : decode cX1_end 21 = .ok (.iconst 0, 1) := by decide +kernel
theorem dX1_end_22 : decode cX1_end 22 = .ok (.ireturn, 1) := by decide +kernel
def rmX1_end : Room := { frames := 0, cells := 0, slots := 0, locals := 0 }
noncomputable def f_X1_end (x1 : Int32) (u : OS) : Option (Int32) := (if x1 < 0 then some 0 else (if (8 : Int32) ≤ x1 then some 0 else (if ix (x1 + 1) 9 = true then some ((u 2) (Int32.toNatClampNeg (x1 + 1))) else none)))
section
variable {p : Program} {l : Launch} {e : Env} {s : State} {m : MethodId} {args : Array Value} {below : List Frame} {meth : Method} {c : Code}
variable {G : GX} {A : Nat → Prop} {ad : Nat → Nat} 
set_option maxHeartbeats 4000000 in
set_option maxRecDepth 100000 in
theorem w_X1_end_0 (F : FX p m c cX1_end 2 s args yX1_end (some .int) RX1 meth) {z : Int32} : ∀ (x1 : Int32) (u : OS) (ls : Array Slot), WD G A s (ow G ad u) s.heap [] → lv_has ls 2 [(0, .ref (ad 0)), (1, .int x1)] → f_X1_end x1 u = some z → W p l e rmX1_end s m args below meth c s.heap [] 0 0 (MQ below (QO (some (.int z))) args s 0 0 (fun _ => False)) (F0 m 0 ls []) := by
  obtain ⟨⟨hx, hb, hml, hown, hts⟩, hr, hlocks⟩ := id F
  intro x1 u ls hw hl h
  unfold f_X1_end at h
  refine lv_iload_n hx hb dX1_end_0 rfl (lv_at hl 1 rfl) ?_
  refine lv_if_lt (tgt := 21) hx hb dX1_end_1 rfl (fun c1 => ?_) (fun c1 => ?_)
  · replace h := itT h c1
    refine lv_iconst (v := 0) hx hb dX1_end_21 rfl ?_
    cases h
    exact retO_i F dX1_end_22
  · replace h := itF h c1
    refine lv_iload_n hx hb dX1_end_4 rfl (lv_at hl 1 rfl) ?_
    refine lv_bipush (v := 8) hx hb dX1_end_5 rfl ?_
    refine lv_icmp_ge (tgt := 21) hx hb dX1_end_7 rfl (fun c2 => ?_) (fun c2 => ?_)
    · replace h := itT h c2
      refine lv_iconst (v := 0) hx hb dX1_end_21 rfl ?_
      cases h
      exact retO_i F dX1_end_22
    · replace h := itF h c2
      refine lv_aload_n hx hb dX1_end_10 rfl (lv_at hl 0 rfl) ?_
      refine o_g0_1 F hw dX1_end_11 ?_
      refine lv_iload_n hx hb dX1_end_14 rfl (lv_at hl 1 rfl) ?_
      refine lv_iconst (v := 1) hx hb dX1_end_15 rfl ?_
      refine lv_iadd hx hb dX1_end_16 ?_
      obtain ⟨g3, h⟩ := gd h
      refine o_l2 F hw g3 dX1_end_17 ?_
      refine lv_goto (tgt := 22) hx hb dX1_end_18 rfl ?_
      cases h
      exact retO_i F dX1_end_22
end
theorem c_X1_end {l : Launch} {G : GX} {ad : Nat → Nat} {x1 : Int32} {u : OS} {z : Int32} (h : f_X1_end x1 u = some z) : MO l yX1_end cX1_end 2 (some .int) rmX1_end G (ow G ad u) [.ref (ad 0), .int x1] (some (.int z)) := MO.of (by decide) (Nat.le_of_ble_eq_true rfl) (fun p e s m below meth c ls F hw hl => w_X1_end_0 F _ _ _ hw hl h)
/-! ===== X1_length ===== -/
theorem dX1_length_0 : decode cX1_length 0 = .ok (.aload_n 0, 1) := by decide +kernel
theorem dX1_length_1 : decode cX1_length 1 = .ok (.iload_n 1, 1) := by decide +kernel
theorem dX1_length_2 : decode cX1_length 2 = .ok (.invokevirtual 33, 3) := by decide +kernel
theorem dX1_length_5 : decode cX1_length 5 = .ok (.aload_n 0, 1) := by decide +kernel
theorem dX1_length_6 : decode cX1_length 6 = .ok (.iload_n 1, 1) := by decide +kernel
theorem dX1_length_7 : decode cX1_length 7 = .ok (.invokevirtual 37, 3) := by decide +kernel
theorem dX1_length_10 : decode cX1_length 10 = .ok (.isub, 1) := by decide +kernel
theorem dX1_length_11 : decode cX1_length 11 = .ok (.ireturn, 1) := by decide +kernel
theorem yv_X1_end_X1 : YV RX1 33 yX1_end cX1_end 2 (some .int) 1 := ⟨(tw 219 (by decide +kernel) rfl), (tw 3 (by decide +kernel) rfl), (tw 216 (by decide +kernel) rfl), (tw 217 (by decide +kernel) rfl), (tw 218 (by decide +kernel) rfl), by decide +kernel⟩
theorem k_X1_end_o_ {p : Program} {l : Launch} {e : Env} {R : Room} {s : State} {m : MethodId} {args : Array Value} {below : List Frame} {meth : Method} {c : Code} {H : Heap} {locs : List Loc} {cells slots : Nat} {Q : State → Prop} {G : GX} {A : Nat → Prop} {ad : Nat → Nat} {u : OS} {cc : ByteArray} {nL pc : Nat} {y : MethodName} {ret : Option FieldType} {ls : Array Slot} {rest : List Value} {x1 : Int32} {z : Int32} (F : FX p m c cc nL s args y ret RX1 meth) (hw : WD G A s (ow G ad u) H locs) (h : f_X1_end x1 u = some z) (hR : rmX1_end.frames + 1 ≤ R.frames ∧ 8 + (2 + 11) + rmX1_end.locals ≤ R.locals) (hcs : cells ≤ R.cells ∧ slots ≤ R.slots) (hsz : ls.size = nL) (hW : (rest.map fun v => v.category).sum ≤ 8) (hdg : decode cc pc = .ok (.invokevirtual 33, 3)) (kk : W p l e R s m args below meth c H locs cells slots Q (F0 m (pc + 3) ls (.int z :: rest))) : W p l e R s m args below meth c H locs cells slots Q (F0 m pc ls (.int x1 :: .ref (ad 0) :: rest)) := callO (runV F yv_X1_end_X1 (c_X1_end h) hw.1 hw.2.1 hw.2.2.1 rfl rfl rfl ⟨rfl, rfl⟩ hR hcs rfl hsz rfl hW hdg) kk
theorem yv_X1_first_X1 : YV RX1 37 yX1_first cX1_first 2 (some .int) 1 := ⟨(tw 206 (by decide +kernel) rfl), (tw 3 (by decide +kernel) rfl), (tw 215 (by decide +kernel) rfl), (tw 204 (by decide +kernel) rfl), (tw 205 (by decide +kernel) rfl), by decide +kernel⟩
theorem k_X1_first_o_ {p : Program} {l : Launch} {e : Env} {R : Room} {s : State} {m : MethodId} {args : Array Value} {below : List Frame} {meth : Method} {c : Code} {H : Heap} {locs : List Loc} {cells slots : Nat} {Q : State → Prop} {G : GX} {A : Nat → Prop} {ad : Nat → Nat} {u : OS} {cc : ByteArray} {nL pc : Nat} {y : MethodName} {ret : Option FieldType} {ls : Array Slot} {rest : List Value} {x1 : Int32} {z : Int32} (F : FX p m c cc nL s args y ret RX1 meth) (hw : WD G A s (ow G ad u) H locs) (h : f_X1_first x1 u = some z) (hR : rmX1_first.frames + 1 ≤ R.frames ∧ 8 + (2 + 11) + rmX1_first.locals ≤ R.locals) (hcs : cells ≤ R.cells ∧ slots ≤ R.slots) (hsz : ls.size = nL) (hW : (rest.map fun v => v.category).sum ≤ 8) (hdg : decode cc pc = .ok (.invokevirtual 37, 3)) (kk : W p l e R s m args below meth c H locs cells slots Q (F0 m (pc + 3) ls (.int z :: rest))) : W p l e R s m args below meth c H locs cells slots Q (F0 m pc ls (.int x1 :: .ref (ad 0) :: rest)) := callO (runV F yv_X1_first_X1 (c_X1_first h) hw.1 hw.2.1 hw.2.2.1 rfl rfl rfl ⟨rfl, rfl⟩ hR hcs rfl hsz rfl hW hdg) kk
def rmX1_length : Room := { frames := 1, cells := 0, slots := 0, locals := 21 }
noncomputable def f_X1_length (x1 : Int32) (u : OS) : Option (Int32) := (f_X1_end x1 u).bind (fun z1 => (f_X1_first x1 u).bind (fun z3 => some (z1 - z3)))
section
variable {p : Program} {l : Launch} {e : Env} {s : State} {m : MethodId} {args : Array Value} {below : List Frame} {meth : Method} {c : Code}
variable {G : GX} {A : Nat → Prop} {ad : Nat → Nat} 
set_option maxHeartbeats 4000000 in
set_option maxRecDepth 100000 in
theorem w_X1_length_0 (F : FX p m c cX1_length 2 s args yX1_length (some .int) RX1 meth) {z : Int32} : ∀ (x1 : Int32) (u : OS) (ls : Array Slot), WD G A s (ow G ad u) s.heap [] → lv_has ls 2 [(0, .ref (ad 0)), (1, .int x1)] → f_X1_length x1 u = some z → W p l e rmX1_length s m args below meth c s.heap [] 0 0 (MQ below (QO (some (.int z))) args s 0 0 (fun _ => False)) (F0 m 0 ls []) := by
  obtain ⟨⟨hx, hb, hml, hown, hts⟩, hr, hlocks⟩ := id F
  intro x1 u ls hw hl h
  unfold f_X1_length at h
  refine lv_aload_n hx hb dX1_length_0 rfl (lv_at hl 0 rfl) ?_
  refine lv_iload_n hx hb dX1_length_1 rfl (lv_at hl 1 rfl) ?_
  obtain ⟨z1, e2, h⟩ := bnd h
  refine k_X1_end_o_ F hw e2 ⟨Nat.le_of_ble_eq_true rfl, Nat.le_of_ble_eq_true rfl⟩ ⟨Nat.zero_le _, Nat.zero_le _⟩ hl.1 (Nat.le_of_ble_eq_true rfl) dX1_length_2 ?_
  refine lv_aload_n hx hb dX1_length_5 rfl (lv_at hl 0 rfl) ?_
  refine lv_iload_n hx hb dX1_length_6 rfl (lv_at hl 1 rfl) ?_
  obtain ⟨z3, e4, h⟩ := bnd h
  refine k_X1_first_o_ F hw e4 ⟨Nat.le_of_ble_eq_true rfl, Nat.le_of_ble_eq_true rfl⟩ ⟨Nat.zero_le _, Nat.zero_le _⟩ hl.1 (Nat.le_of_ble_eq_true rfl) dX1_length_7 ?_
  refine lv_isub hx hb dX1_length_10 ?_
  cases h
  exact retO_i F dX1_length_11
end
theorem c_X1_length {l : Launch} {G : GX} {ad : Nat → Nat} {x1 : Int32} {u : OS} {z : Int32} (h : f_X1_length x1 u = some z) : MO l yX1_length cX1_length 2 (some .int) rmX1_length G (ow G ad u) [.ref (ad 0), .int x1] (some (.int z)) := MO.of (by decide) (Nat.le_of_ble_eq_true rfl) (fun p e s m below meth c ls F hw hl => w_X1_length_0 F _ _ _ hw hl h)
/-! ===== X1_rowOfThing ===== -/
theorem dX1_rowOfThing_0 : decode cX1_rowOfThing 0 = .ok (.iload_n 1, 1) := by decide +kernel
theorem dX1_rowOfThing_1 : decode cX1_rowOfThing 1 = .ok (.ifCond .lt 19, 3) := by decide +kernel
theorem dX1_rowOfThing_4 : decode cX1_rowOfThing 4 = .ok (.iload_n 1, 1) := by decide +kernel
theorem dX1_rowOfThing_5 : decode cX1_rowOfThing 5 = .ok (.sipush 300, 3) := by decide +kernel
theorem dX1_rowOfThing_8 : decode cX1_rowOfThing 8 = .ok (.if_icmp .ge 12, 3) := by decide +kernel
theorem dX1_rowOfThing_11 : decode cX1_rowOfThing 11 = .ok (.aload_n 0, 1) := by decide +kernel
theorem dX1_rowOfThing_12 : decode cX1_rowOfThing 12 = .ok (.getfield 18, 3) := by decide +kernel
theorem dX1_rowOfThing_15 : decode cX1_rowOfThing 15 = .ok (.iload_n 1, 1) := by decide +kernel
theorem dX1_rowOfThing_16 : decode cX1_rowOfThing 16 = .ok (.iaload, 1) := by decide +kernel
theorem dX1_rowOfThing_17 : decode cX1_rowOfThing 17 = .ok (.goto 4, 3) := by decide +kernel
theorem dX1_rowOfThing_20 : decode cX1_rowOfThing 20 = .ok (.iconst (-1), 1) := by decide +kernel
theorem dX1_rowOfThing_21 : decode cX1_rowOfThing 21 = .ok (.ireturn, 1) := by decide +kernel
theorem o_g0_2 {p : Program} {l : Launch} {e : Env} {R : Room} {s : State} {m : MethodId} {args : Array Value} {below : List Frame} {meth : Method} {c : Code} {H : Heap} {locs : List Loc} {cells slots : Nat} {Q : State → Prop} {G : GX} {A : Nat → Prop} {ad : Nat → Nat} {u : OS} {cc : ByteArray} {nL pc : Nat} {y : MethodName} {ret : Option FieldType} {ls : Array Slot} {rest : List Value} (F : FX p m c cc nL s args y ret RX1 meth) (hw : WD G A s (ow G ad u) H locs) (hdg : decode cc pc = .ok (.getfield 18, 3)) (kk : W p l e R s m args below meth c H locs cells slots Q (F0 m (pc + 3) ls (.ref (ad 3) :: rest))) : W p l e R s m args below meth c H locs cells slots Q (F0 m pc ls (.ref (ad 0) :: rest)) := va_get (D := G.1) (ci := 1) (C := RX1) (T := TX1) (N := 3) (Ts := lw_gt) F.1.1 F.1.2.1 (fun _ h => F.tb h) inX1 F.1.2.2.2.1 hw.1.1 hw.2.1 0 rfl rfl 2 (by decide) (F.tb (tw 36 (by decide +kernel) rfl)) (fun _ h9 => h9) rfl hdg kk
theorem o_l3 {i : Int32} {p : Program} {l : Launch} {e : Env} {R : Room} {s : State} {m : MethodId} {args : Array Value} {below : List Frame} {meth : Method} {c : Code} {H : Heap} {locs : List Loc} {cells slots : Nat} {Q : State → Prop} {G : GX} {A : Nat → Prop} {ad : Nat → Nat} {u : OS} {cc : ByteArray} {nL pc : Nat} {y : MethodName} {ret : Option FieldType} {ls : Array Slot} {rest : List Value} (F : FX p m c cc nL s args y ret RX1 meth) (hw : WD G A s (ow G ad u) H locs) (hi : ix i 300 = true) (hdg : decode cc pc = .ok (.iaload, 1)) (kk : W p l e R s m args below meth c H locs cells slots Q (F0 m (pc + 1) ls (.int ((u 3) i.toNatClampNeg) :: rest))) : W p l e R s m args below meth c H locs cells slots Q (F0 m pc ls (.int i :: .ref (ad 3) :: rest)) := va_iald F.1.1 F.1.2.1 hw.1.1 hw.2.1 3 0 rfl rfl (ix_in hi) hdg kk
def rmX1_rowOfThing : Room := { frames := 0, cells := 0, slots := 0, locals := 0 }
noncomputable def f_X1_rowOfThing (x1 : Int32) (u : OS) : Option (Int32) := (if x1 < 0 then some (-1) else (if (300 : Int32) ≤ x1 then some (-1) else (if ix x1 300 = true then some ((u 3) (Int32.toNatClampNeg x1)) else none)))
section
variable {p : Program} {l : Launch} {e : Env} {s : State} {m : MethodId} {args : Array Value} {below : List Frame} {meth : Method} {c : Code}
variable {G : GX} {A : Nat → Prop} {ad : Nat → Nat} 
set_option maxHeartbeats 4000000 in
set_option maxRecDepth 100000 in
theorem w_X1_rowOfThing_0 (F : FX p m c cX1_rowOfThing 2 s args yX1_rowOfThing (some .int) RX1 meth) {z : Int32} : ∀ (x1 : Int32) (u : OS) (ls : Array Slot), WD G A s (ow G ad u) s.heap [] → lv_has ls 2 [(0, .ref (ad 0)), (1, .int x1)] → f_X1_rowOfThing x1 u = some z → W p l e rmX1_rowOfThing s m args below meth c s.heap [] 0 0 (MQ below (QO (some (.int z))) args s 0 0 (fun _ => False)) (F0 m 0 ls []) := by
  obtain ⟨⟨hx, hb, hml, hown, hts⟩, hr, hlocks⟩ := id F
  intro x1 u ls hw hl h
  unfold f_X1_rowOfThing at h
  refine lv_iload_n hx hb dX1_rowOfThing_0 rfl (lv_at hl 1 rfl) ?_
  refine lv_if_lt (tgt := 20) hx hb dX1_rowOfThing_1 rfl (fun c1 => ?_) (fun c1 => ?_)
  · replace h := itT h c1
    refine lv_iconst (v := (-1)) hx hb dX1_rowOfThing_20 rfl ?_
    cases h
    exact retO_i F dX1_rowOfThing_21
  · replace h := itF h c1
    refine lv_iload_n hx hb dX1_rowOfThing_4 rfl (lv_at hl 1 rfl) ?_
    refine lv_sipush (v := 300) hx hb dX1_rowOfThing_5 rfl ?_
    refine lv_icmp_ge (tgt := 20) hx hb dX1_rowOfThing_8 rfl (fun c2 => ?_) (fun c2 => ?_)
    · replace h := itT h c2
      refine lv_iconst (v := (-1)) hx hb dX1_rowOfThing_20 rfl ?_
      cases h
      exact retO_i F dX1_rowOfThing_21
    · replace h := itF h c2
      refine lv_aload_n hx hb dX1_rowOfThing_11 rfl (lv_at hl 0 rfl) ?_
      refine o_g0_2 F hw dX1_rowOfThing_12 ?_
      refine lv_iload_n hx hb dX1_rowOfThing_15 rfl (lv_at hl 1 rfl) ?_
      obtain ⟨g3, h⟩ := gd h
      refine o_l3 F hw g3 dX1_rowOfThing_16 ?_
      refine lv_goto (tgt := 21) hx hb dX1_rowOfThing_17 rfl ?_
      cases h
      exact retO_i F dX1_rowOfThing_21
end
theorem c_X1_rowOfThing {l : Launch} {G : GX} {ad : Nat → Nat} {x1 : Int32} {u : OS} {z : Int32} (h : f_X1_rowOfThing x1 u = some z) : MO l yX1_rowOfThing cX1_rowOfThing 2 (some .int) rmX1_rowOfThing G (ow G ad u) [.ref (ad 0), .int x1] (some (.int z)) := MO.of (by decide) (Nat.le_of_ble_eq_true rfl) (fun p e s m below meth c ls F hw hl => w_X1_rowOfThing_0 F _ _ _ hw hl h)
/-! ===== X1_standAt ===== -/
theorem dX1_standAt_0 : decode cX1_standAt 0 = .ok (.iload_n 1, 1) := by decide +kernel
theorem dX1_standAt_1 : decode cX1_standAt 1 = .ok (.ifCond .lt 19, 3) := by decide +kernel
theorem dX1_standAt_4 : decode cX1_standAt 4 = .ok (.iload_n 1, 1) := by decide +kernel
theorem dX1_standAt_5 : decode cX1_standAt 5 = .ok (.sipush 600, 3) := by decide +kernel
theorem dX1_standAt_8 : decode cX1_standAt 8 = .ok (.if_icmp .ge 12, 3) := by decide +kernel
theorem dX1_standAt_11 : decode cX1_standAt 11 = .ok (.aload_n 0, 1) := by decide +kernel
theorem dX1_standAt_12 : decode cX1_standAt 12 = .ok (.getfield 9, 3) := by decide +kernel
theorem dX1_standAt_15 : decode cX1_standAt 15 = .ok (.iload_n 1, 1) := by decide +kernel
theorem dX1_standAt_16 : decode cX1_standAt 16 = .ok (.iaload, 1) := by decide +kernel
theorem dX1_standAt_17 : decode cX1_standAt 17 = .ok (.goto 4, 3) := by decide +kernel
theorem dX1_standAt_20 : decode cX1_standAt 20 = .ok (.iconst (-1), 1) := by decide +kernel
theorem dX1_standAt_21 : decode cX1_standAt 21 = .ok (.ireturn, 1) := by decide +kernel
theorem o_g0_0 {p : Program} {l : Launch} {e : Env} {R : Room} {s : State} {m : MethodId} {args : Array Value} {below : List Frame} {meth : Method} {c : Code} {H : Heap} {locs : List Loc} {cells slots : Nat} {Q : State → Prop} {G : GX} {A : Nat → Prop} {ad : Nat → Nat} {u : OS} {cc : ByteArray} {nL pc : Nat} {y : MethodName} {ret : Option FieldType} {ls : Array Slot} {rest : List Value} (F : FX p m c cc nL s args y ret RX1 meth) (hw : WD G A s (ow G ad u) H locs) (hdg : decode cc pc = .ok (.getfield 9, 3)) (kk : W p l e R s m args below meth c H locs cells slots Q (F0 m (pc + 3) ls (.ref (ad 1) :: rest))) : W p l e R s m args below meth c H locs cells slots Q (F0 m pc ls (.ref (ad 0) :: rest)) := va_get (D := G.1) (ci := 1) (C := RX1) (T := TX1) (N := 3) (Ts := lw_gt) F.1.1 F.1.2.1 (fun _ h => F.tb h) inX1 F.1.2.2.2.1 hw.1.1 hw.2.1 0 rfl rfl 0 (by decide) (F.tb (tw 33 (by decide +kernel) rfl)) (fun _ h9 => h9) rfl hdg kk
theorem o_l1 {i : Int32} {p : Program} {l : Launch} {e : Env} {R : Room} {s : State} {m : MethodId} {args : Array Value} {below : List Frame} {meth : Method} {c : Code} {H : Heap} {locs : List Loc} {cells slots : Nat} {Q : State → Prop} {G : GX} {A : Nat → Prop} {ad : Nat → Nat} {u : OS} {cc : ByteArray} {nL pc : Nat} {y : MethodName} {ret : Option FieldType} {ls : Array Slot} {rest : List Value} (F : FX p m c cc nL s args y ret RX1 meth) (hw : WD G A s (ow G ad u) H locs) (hi : ix i 600 = true) (hdg : decode cc pc = .ok (.iaload, 1)) (kk : W p l e R s m args below meth c H locs cells slots Q (F0 m (pc + 1) ls (.int ((u 1) i.toNatClampNeg) :: rest))) : W p l e R s m args below meth c H locs cells slots Q (F0 m pc ls (.int i :: .ref (ad 1) :: rest)) := va_iald F.1.1 F.1.2.1 hw.1.1 hw.2.1 1 0 rfl rfl (ix_in hi) hdg kk
def rmX1_standAt : Room := { frames := 0, cells := 0, slots := 0, locals := 0 }
noncomputable def f_X1_standAt (x1 : Int32) (u : OS) : Option (Int32) := (if x1 < 0 then some (-1) else (if (600 : Int32) ≤ x1 then some (-1) else (if ix x1 600 = true then some ((u 1) (Int32.toNatClampNeg x1)) else none)))
section
variable {p : Program} {l : Launch} {e : Env} {s : State} {m : MethodId} {args : Array Value} {below : List Frame} {meth : Method} {c : Code}
variable {G : GX} {A : Nat → Prop} {ad : Nat → Nat} 
set_option maxHeartbeats 4000000 in
set_option maxRecDepth 100000 in
theorem w_X1_standAt_0 (F : FX p m c cX1_standAt 2 s args yX1_standAt (some .int) RX1 meth) {z : Int32} : ∀ (x1 : Int32) (u : OS) (ls : Array Slot), WD G A s (ow G ad u) s.heap [] → lv_has ls 2 [(0, .ref (ad 0)), (1, .int x1)] → f_X1_standAt x1 u = some z → W p l e rmX1_standAt s m args below meth c s.heap [] 0 0 (MQ below (QO (some (.int z))) args s 0 0 (fun _ => False)) (F0 m 0 ls []) := by
  obtain ⟨⟨hx, hb, hml, hown, hts⟩, hr, hlocks⟩ := id F
  intro x1 u ls hw hl h
  unfold f_X1_standAt at h
  refine lv_iload_n hx hb dX1_standAt_0 rfl (lv_at hl 1 rfl) ?_
  refine lv_if_lt (tgt := 20) hx hb dX1_standAt_1 rfl (fun c1 => ?_) (fun c1 => ?_)
  · replace h := itT h c1
    refine lv_iconst (v := (-1)) hx hb dX1_standAt_20 rfl ?_
    cases h
    exact retO_i F dX1_standAt_21
  · replace h := itF h c1
    refine lv_iload_n hx hb dX1_standAt_4 rfl (lv_at hl 1 rfl) ?_
    refine lv_sipush (v := 600) hx hb dX1_standAt_5 rfl ?_
    refine lv_icmp_ge (tgt := 20) hx hb dX1_standAt_8 rfl (fun c2 => ?_) (fun c2 => ?_)
    · replace h := itT h c2
      refine lv_iconst (v := (-1)) hx hb dX1_standAt_20 rfl ?_
      cases h
      exact retO_i F dX1_standAt_21
    · replace h := itF h c2
      refine lv_aload_n hx hb dX1_standAt_11 rfl (lv_at hl 0 rfl) ?_
      refine o_g0_0 F hw dX1_standAt_12 ?_
      refine lv_iload_n hx hb dX1_standAt_15 rfl (lv_at hl 1 rfl) ?_
      obtain ⟨g3, h⟩ := gd h
      refine o_l1 F hw g3 dX1_standAt_16 ?_
      refine lv_goto (tgt := 21) hx hb dX1_standAt_17 rfl ?_
      cases h
      exact retO_i F dX1_standAt_21
end
theorem c_X1_standAt {l : Launch} {G : GX} {ad : Nat → Nat} {x1 : Int32} {u : OS} {z : Int32} (h : f_X1_standAt x1 u = some z) : MO l yX1_standAt cX1_standAt 2 (some .int) rmX1_standAt G (ow G ad u) [.ref (ad 0), .int x1] (some (.int z)) := MO.of (by decide) (Nat.le_of_ble_eq_true rfl) (fun p e s m below meth c ls F hw hl => w_X1_standAt_0 F _ _ _ hw hl h)
/-! ===== X1_lastStand ===== -/
theorem dX1_lastStand_0 : decode cX1_lastStand 0 = .ok (.aload_n 0, 1) := by decide +kernel
theorem dX1_lastStand_1 : decode cX1_lastStand 1 = .ok (.iload_n 1, 1) := by decide +kernel
theorem dX1_lastStand_2 : decode cX1_lastStand 2 = .ok (.invokevirtual 40, 3) := by decide +kernel
theorem dX1_lastStand_5 : decode cX1_lastStand 5 = .ok (.ifCond .le 17, 3) := by decide +kernel
theorem dX1_lastStand_8 : decode cX1_lastStand 8 = .ok (.aload_n 0, 1) := by decide +kernel
theorem dX1_lastStand_9 : decode cX1_lastStand 9 = .ok (.aload_n 0, 1) := by decide +kernel
theorem dX1_lastStand_10 : decode cX1_lastStand 10 = .ok (.iload_n 1, 1) := by decide +kernel
theorem dX1_lastStand_11 : decode cX1_lastStand 11 = .ok (.invokevirtual 33, 3) := by decide +kernel
theorem dX1_lastStand_14 : decode cX1_lastStand 14 = .ok (.iconst 1, 1) := by decide +kernel
theorem dX1_lastStand_15 : decode cX1_lastStand 15 = .ok (.isub, 1) := by decide +kernel
theorem dX1_lastStand_16 : decode cX1_lastStand 16 = .ok (.invokevirtual 43, 3) := by decide +kernel
theorem dX1_lastStand_19 : decode cX1_lastStand 19 = .ok (.goto 4, 3) := by decide +kernel
theorem dX1_lastStand_22 : decode cX1_lastStand 22 = .ok (.iconst (-1), 1) := by decide +kernel
theorem dX1_lastStand_23 : decode cX1_lastStand 23 = .ok (.ireturn, 1) := by decide +kernel
theorem yv_X1_length_X1 : YV RX1 40 yX1_length cX1_length 2 (some .int) 1 := ⟨(tw 245 (by decide +kernel) rfl), (tw 3 (by decide +kernel) rfl), (tw 355 (by decide +kernel) rfl), (tw 243 (by decide +kernel) rfl), (tw 244 (by decide +kernel) rfl), by decide +kernel⟩
theorem k_X1_length_o_ {p : Program} {l : Launch} {e : Env} {R : Room} {s : State} {m : MethodId} {args : Array Value} {below : List Frame} {meth : Method} {c : Code} {H : Heap} {locs : List Loc} {cells slots : Nat} {Q : State → Prop} {G : GX} {A : Nat → Prop} {ad : Nat → Nat} {u : OS} {cc : ByteArray} {nL pc : Nat} {y : MethodName} {ret : Option FieldType} {ls : Array Slot} {rest : List Value} {x1 : Int32} {z : Int32} (F : FX p m c cc nL s args y ret RX1 meth) (hw : WD G A s (ow G ad u) H locs) (h : f_X1_length x1 u = some z) (hR : rmX1_length.frames + 1 ≤ R.frames ∧ 8 + (2 + 11) + rmX1_length.locals ≤ R.locals) (hcs : cells ≤ R.cells ∧ slots ≤ R.slots) (hsz : ls.size = nL) (hW : (rest.map fun v => v.category).sum ≤ 8) (hdg : decode cc pc = .ok (.invokevirtual 40, 3)) (kk : W p l e R s m args below meth c H locs cells slots Q (F0 m (pc + 3) ls (.int z :: rest))) : W p l e R s m args below meth c H locs cells slots Q (F0 m pc ls (.int x1 :: .ref (ad 0) :: rest)) := callO (runV F yv_X1_length_X1 (c_X1_length h) hw.1 hw.2.1 hw.2.2.1 rfl rfl rfl ⟨rfl, rfl⟩ hR hcs rfl hsz rfl hW hdg) kk
theorem yv_X1_standAt_X1 : YV RX1 43 yX1_standAt cX1_standAt 2 (some .int) 1 := ⟨(tw 227 (by decide +kernel) rfl), (tw 3 (by decide +kernel) rfl), (tw 356 (by decide +kernel) rfl), (tw 225 (by decide +kernel) rfl), (tw 226 (by decide +kernel) rfl), by decide +kernel⟩
theorem k_X1_standAt_o_ {p : Program} {l : Launch} {e : Env} {R : Room} {s : State} {m : MethodId} {args : Array Value} {below : List Frame} {meth : Method} {c : Code} {H : Heap} {locs : List Loc} {cells slots : Nat} {Q : State → Prop} {G : GX} {A : Nat → Prop} {ad : Nat → Nat} {u : OS} {cc : ByteArray} {nL pc : Nat} {y : MethodName} {ret : Option FieldType} {ls : Array Slot} {rest : List Value} {x1 : Int32} {z : Int32} (F : FX p m c cc nL s args y ret RX1 meth) (hw : WD G A s (ow G ad u) H locs) (h : f_X1_standAt x1 u = some z) (hR : rmX1_standAt.frames + 1 ≤ R.frames ∧ 8 + (2 + 11) + rmX1_standAt.locals ≤ R.locals) (hcs : cells ≤ R.cells ∧ slots ≤ R.slots) (hsz : ls.size = nL) (hW : (rest.map fun v => v.category).sum ≤ 8) (hdg : decode cc pc = .ok (.invokevirtual 43, 3)) (kk : W p l e R s m args below meth c H locs cells slots Q (F0 m (pc + 3) ls (.int z :: rest))) : W p l e R s m args below meth c H locs cells slots Q (F0 m pc ls (.int x1 :: .ref (ad 0) :: rest)) := callO (runV F yv_X1_standAt_X1 (c_X1_standAt h) hw.1 hw.2.1 hw.2.2.1 rfl rfl rfl ⟨rfl, rfl⟩ hR hcs rfl hsz rfl hW hdg) kk
def rmX1_lastStand : Room := { frames := 2, cells := 0, slots := 0, locals := 42 }
noncomputable def f_X1_lastStand (x1 : Int32) (u : OS) : Option (Int32) := (f_X1_length x1 u).bind (fun z1 => (if z1 ≤ 0 then some (-1) else (f_X1_end x1 u).bind (fun z4 => (f_X1_standAt (z4 - 1) u).bind (fun z6 => some z6))))
section
variable {p : Program} {l : Launch} {e : Env} {s : State} {m : MethodId} {args : Array Value} {below : List Frame} {meth : Method} {c : Code}
variable {G : GX} {A : Nat → Prop} {ad : Nat → Nat} 
set_option maxHeartbeats 4000000 in
set_option maxRecDepth 100000 in
theorem w_X1_lastStand_0 (F : FX p m c cX1_lastStand 2 s args yX1_lastStand (some .int) RX1 meth) {z : Int32} : ∀ (x1 : Int32) (u : OS) (ls : Array Slot), WD G A s (ow G ad u) s.heap [] → lv_has ls 2 [(0, .ref (ad 0)), (1, .int x1)] → f_X1_lastStand x1 u = some z → W p l e rmX1_lastStand s m args below meth c s.heap [] 0 0 (MQ below (QO (some (.int z))) args s 0 0 (fun _ => False)) (F0 m 0 ls []) := by
  obtain ⟨⟨hx, hb, hml, hown, hts⟩, hr, hlocks⟩ := id F
  intro x1 u ls hw hl h
  unfold f_X1_lastStand at h
  refine lv_aload_n hx hb dX1_lastStand_0 rfl (lv_at hl 0 rfl) ?_
  refine lv_iload_n hx hb dX1_lastStand_1 rfl (lv_at hl 1 rfl) ?_
  obtain ⟨z1, e2, h⟩ := bnd h
  refine k_X1_length_o_ F hw e2 ⟨Nat.le_of_ble_eq_true rfl, Nat.le_of_ble_eq_true rfl⟩ ⟨Nat.zero_le _, Nat.zero_le _⟩ hl.1 (Nat.le_of_ble_eq_true rfl) dX1_lastStand_2 ?_
  refine lv_if_le (tgt := 22) hx hb dX1_lastStand_5 rfl (fun c3 => ?_) (fun c3 => ?_)
  · replace h := itT h c3
    refine lv_iconst (v := (-1)) hx hb dX1_lastStand_22 rfl ?_
    cases h
    exact retO_i F dX1_lastStand_23
  · replace h := itF h c3
    refine lv_aload_n hx hb dX1_lastStand_8 rfl (lv_at hl 0 rfl) ?_
    refine lv_aload_n hx hb dX1_lastStand_9 rfl (lv_at hl 0 rfl) ?_
    refine lv_iload_n hx hb dX1_lastStand_10 rfl (lv_at hl 1 rfl) ?_
    obtain ⟨z4, e5, h⟩ := bnd h
    refine k_X1_end_o_ F hw e5 ⟨Nat.le_of_ble_eq_true rfl, Nat.le_of_ble_eq_true rfl⟩ ⟨Nat.zero_le _, Nat.zero_le _⟩ hl.1 (Nat.le_of_ble_eq_true rfl) dX1_lastStand_11 ?_
    refine lv_iconst (v := 1) hx hb dX1_lastStand_14 rfl ?_
    refine lv_isub hx hb dX1_lastStand_15 ?_
    obtain ⟨z6, e7, h⟩ := bnd h
    refine k_X1_standAt_o_ F hw e7 ⟨Nat.le_of_ble_eq_true rfl, Nat.le_of_ble_eq_true rfl⟩ ⟨Nat.zero_le _, Nat.zero_le _⟩ hl.1 (Nat.le_of_ble_eq_true rfl) dX1_lastStand_16 ?_
    refine lv_goto (tgt := 23) hx hb dX1_lastStand_19 rfl ?_
    cases h
    exact retO_i F dX1_lastStand_23
end
theorem c_X1_lastStand {l : Launch} {G : GX} {ad : Nat → Nat} {x1 : Int32} {u : OS} {z : Int32} (h : f_X1_lastStand x1 u = some z) : MO l yX1_lastStand cX1_lastStand 2 (some .int) rmX1_lastStand G (ow G ad u) [.ref (ad 0), .int x1] (some (.int z)) := MO.of (by decide) (Nat.le_of_ble_eq_true rfl) (fun p e s m below meth c ls F hw hl => w_X1_lastStand_0 F _ _ _ hw hl h)
/-! ===== X1_placeOf ===== -/
theorem dX1_placeOf_0 : decode cX1_placeOf 0 = .ok (.aload_n 0, 1) := by decide +kernel
theorem dX1_placeOf_1 : decode cX1_placeOf 1 = .ok (.iload_n 1, 1) := by decide +kernel
theorem dX1_placeOf_2 : decode cX1_placeOf 2 = .ok (.invokestatic 46, 3) := by decide +kernel
theorem dX1_placeOf_5 : decode cX1_placeOf 5 = .ok (.invokevirtual 49, 3) := by decide +kernel
theorem dX1_placeOf_8 : decode cX1_placeOf 8 = .ok (.istore_n 2, 1) := by decide +kernel
theorem dX1_placeOf_9 : decode cX1_placeOf 9 = .ok (.iload_n 2, 1) := by decide +kernel
theorem dX1_placeOf_10 : decode cX1_placeOf 10 = .ok (.iconst (-1), 1) := by decide +kernel
theorem dX1_placeOf_11 : decode cX1_placeOf 11 = .ok (.if_icmp .ne 5, 3) := by decide +kernel
theorem dX1_placeOf_14 : decode cX1_placeOf 14 = .ok (.iconst (-1), 1) := by decide +kernel
theorem dX1_placeOf_15 : decode cX1_placeOf 15 = .ok (.ireturn, 1) := by decide +kernel
theorem dX1_placeOf_16 : decode cX1_placeOf 16 = .ok (.aload_n 0, 1) := by decide +kernel
theorem dX1_placeOf_17 : decode cX1_placeOf 17 = .ok (.iload_n 2, 1) := by decide +kernel
theorem dX1_placeOf_18 : decode cX1_placeOf 18 = .ok (.invokevirtual 37, 3) := by decide +kernel
theorem dX1_placeOf_21 : decode cX1_placeOf 21 = .ok (.istore_n 3, 1) := by decide +kernel
theorem dX1_placeOf_22 : decode cX1_placeOf 22 = .ok (.iload_n 3, 1) := by decide +kernel
theorem dX1_placeOf_23 : decode cX1_placeOf 23 = .ok (.aload_n 0, 1) := by decide +kernel
theorem dX1_placeOf_24 : decode cX1_placeOf 24 = .ok (.iload_n 2, 1) := by decide +kernel
theorem dX1_placeOf_25 : decode cX1_placeOf 25 = .ok (.invokevirtual 33, 3) := by decide +kernel
theorem dX1_placeOf_28 : decode cX1_placeOf 28 = .ok (.if_icmp .ge 21, 3) := by decide +kernel
theorem dX1_placeOf_31 : decode cX1_placeOf 31 = .ok (.aload_n 0, 1) := by decide +kernel
theorem dX1_placeOf_32 : decode cX1_placeOf 32 = .ok (.getfield 9, 3) := by decide +kernel
theorem dX1_placeOf_35 : decode cX1_placeOf 35 = .ok (.iload_n 3, 1) := by decide +kernel
theorem dX1_placeOf_36 : decode cX1_placeOf 36 = .ok (.iaload, 1) := by decide +kernel
theorem dX1_placeOf_37 : decode cX1_placeOf 37 = .ok (.iload_n 1, 1) := by decide +kernel
theorem dX1_placeOf_38 : decode cX1_placeOf 38 = .ok (.if_icmp .ne 5, 3) := by decide +kernel
theorem dX1_placeOf_41 : decode cX1_placeOf 41 = .ok (.iload_n 3, 1) := by decide +kernel
theorem dX1_placeOf_42 : decode cX1_placeOf 42 = .ok (.ireturn, 1) := by decide +kernel
theorem dX1_placeOf_43 : decode cX1_placeOf 43 = .ok (.iinc 3 1, 3) := by decide +kernel
theorem dX1_placeOf_46 : decode cX1_placeOf 46 = .ok (.goto (-24), 3) := by decide +kernel
theorem dX1_placeOf_49 : decode cX1_placeOf 49 = .ok (.iconst (-1), 1) := by decide +kernel
theorem dX1_placeOf_50 : decode cX1_placeOf 50 = .ok (.ireturn, 1) := by decide +kernel
theorem yv_X3_thingOf_X1 : YN RX1 46 yX3_thingOf RX3 cX3_thingOf 1 (some .int) 1 := ⟨(tw 213 (by decide +kernel) rfl), (tw 1 (by decide +kernel) rfl), fun _ h => h.1, (tw 212 (by decide +kernel) rfl), by decide +kernel⟩
theorem k_X3_thingOf_o_ {p : Program} {l : Launch} {e : Env} {R : Room} {s : State} {m : MethodId} {args : Array Value} {below : List Frame} {meth : Method} {c : Code} {H : Heap} {locs : List Loc} {cells slots : Nat} {Q : State → Prop} {G : GX} {A : Nat → Prop} {ad : Nat → Nat} {u : OS} {cc : ByteArray} {nL pc : Nat} {y : MethodName} {ret : Option FieldType} {ls : Array Slot} {rest : List Value} {x0 : Int32} {z : Int32} (F : FX p m c cc nL s args y ret RX1 meth) (hw : WD G A s (ow G ad u) H locs) (h : f_X3_thingOf x0 = some z) (hR : rmX3_thingOf.frames + 1 ≤ R.frames ∧ 8 + (1 + 11) + rmX3_thingOf.locals ≤ R.locals) (hcs : cells ≤ R.cells ∧ slots ≤ R.slots) (hsz : ls.size = nL) (hW : (rest.map fun v => v.category).sum ≤ 8) (hdg : decode cc pc = .ok (.invokestatic 46, 3)) (kk : W p l e R s m args below meth c H locs cells slots Q (F0 m (pc + 3) ls (.int z :: rest))) : W p l e R s m args below meth c H locs cells slots Q (F0 m pc ls (.int x0 :: rest)) := callO (runN F yv_X3_thingOf_X1 (c_X3_thingOf h (G := G)) hw.1 nil_P (A := A) nil_D ⟨rfl, rfl⟩ hR hcs rfl hsz rfl hW hdg) kk
theorem yv_X1_rowOfThing_X1 : YV RX1 49 yX1_rowOfThing cX1_rowOfThing 2 (some .int) 1 := ⟨(tw 186 (by decide +kernel) rfl), (tw 3 (by decide +kernel) rfl), (tw 214 (by decide +kernel) rfl), (tw 184 (by decide +kernel) rfl), (tw 185 (by decide +kernel) rfl), by decide +kernel⟩
theorem k_X1_rowOfThing_o_ {p : Program} {l : Launch} {e : Env} {R : Room} {s : State} {m : MethodId} {args : Array Value} {below : List Frame} {meth : Method} {c : Code} {H : Heap} {locs : List Loc} {cells slots : Nat} {Q : State → Prop} {G : GX} {A : Nat → Prop} {ad : Nat → Nat} {u : OS} {cc : ByteArray} {nL pc : Nat} {y : MethodName} {ret : Option FieldType} {ls : Array Slot} {rest : List Value} {x1 : Int32} {z : Int32} (F : FX p m c cc nL s args y ret RX1 meth) (hw : WD G A s (ow G ad u) H locs) (h : f_X1_rowOfThing x1 u = some z) (hR : rmX1_rowOfThing.frames + 1 ≤ R.frames ∧ 8 + (2 + 11) + rmX1_rowOfThing.locals ≤ R.locals) (hcs : cells ≤ R.cells ∧ slots ≤ R.slots) (hsz : ls.size = nL) (hW : (rest.map fun v => v.category).sum ≤ 8) (hdg : decode cc pc = .ok (.invokevirtual 49, 3)) (kk : W p l e R s m args below meth c H locs cells slots Q (F0 m (pc + 3) ls (.int z :: rest))) : W p l e R s m args below meth c H locs cells slots Q (F0 m pc ls (.int x1 :: .ref (ad 0) :: rest)) := callO (runV F yv_X1_rowOfThing_X1 (c_X1_rowOfThing h) hw.1 hw.2.1 hw.2.2.1 rfl rfl rfl ⟨rfl, rfl⟩ hR hcs rfl hsz rfl hW hdg) kk
def rmX1_placeOf : Room := { frames := 1, cells := 0, slots := 0, locals := 21 }
noncomputable def f_X1_placeOf_22 : Nat → Int32 → Int32 → Int32 → OS → Option (Int32)
  | 0, _, _, _, _ => none
  | n + 1, x1, x2, x3, u => (f_X1_end x2 u).bind (fun z8 => (if z8 ≤ x3 then some (-1) else (if ix x3 600 = true then (if ((u 1) (Int32.toNatClampNeg x3)) = x1 then some x3 else f_X1_placeOf_22 n x1 x2 (x3 + 1) u) else none)))
noncomputable def f_X1_placeOf (x1 : Int32) (u : OS) : Option (Int32) := (f_X3_thingOf x1).bind (fun z1 => (f_X1_rowOfThing z1 u).bind (fun z3 => (if z3 = ((-1) : Int32) then some (-1) else (f_X1_first z3 u).bind (fun z6 => f_X1_placeOf_22 NF x1 z3 z6 u))))
section
variable {p : Program} {l : Launch} {e : Env} {s : State} {m : MethodId} {args : Array Value} {below : List Frame} {meth : Method} {c : Code}
variable {G : GX} {A : Nat → Prop} {ad : Nat → Nat} 
set_option maxHeartbeats 4000000 in
set_option maxRecDepth 100000 in
theorem w_X1_placeOf_22 (F : FX p m c cX1_placeOf 4 s args yX1_placeOf (some .int) RX1 meth) {z : Int32} : ∀ (n : Nat) (x1 : Int32) (x2 : Int32) (x3 : Int32) (u : OS) (ls : Array Slot), WD G A s (ow G ad u) s.heap [] → lv_has ls 4 [(0, .ref (ad 0)), (1, .int x1), (2, .int x2), (3, .int x3)] → f_X1_placeOf_22 n x1 x2 x3 u = some z → W p l e rmX1_placeOf s m args below meth c s.heap [] 0 0 (MQ below (QO (some (.int z))) args s 0 0 (fun _ => False)) (F0 m 22 ls []) := by
  obtain ⟨⟨hx, hb, hml, hown, hts⟩, hr, hlocks⟩ := id F
  intro n
  induction n with
  | zero =>
    intro x1 x2 x3 u ls hw hl h
    rw [f_X1_placeOf_22] at h
    cases h
  | succ n ih =>
    intro x1 x2 x3 u ls hw hl h
    rw [f_X1_placeOf_22] at h
    refine lv_iload_n hx hb dX1_placeOf_22 rfl (lv_at hl 3 rfl) ?_
    refine lv_aload_n hx hb dX1_placeOf_23 rfl (lv_at hl 0 rfl) ?_
    refine lv_iload_n hx hb dX1_placeOf_24 rfl (lv_at hl 2 rfl) ?_
    obtain ⟨z8, e9, h⟩ := bnd h
    refine k_X1_end_o_ F hw e9 ⟨Nat.le_of_ble_eq_true rfl, Nat.le_of_ble_eq_true rfl⟩ ⟨Nat.zero_le _, Nat.zero_le _⟩ hl.1 (Nat.le_of_ble_eq_true rfl) dX1_placeOf_25 ?_
    refine lv_icmp_ge (tgt := 49) hx hb dX1_placeOf_28 rfl (fun c10 => ?_) (fun c10 => ?_)
    · replace h := itT h c10
      refine lv_iconst (v := (-1)) hx hb dX1_placeOf_49 rfl ?_
      cases h
      exact retO_i F dX1_placeOf_50
    · replace h := itF h c10
      refine lv_aload_n hx hb dX1_placeOf_31 rfl (lv_at hl 0 rfl) ?_
      refine o_g0_0 F hw dX1_placeOf_32 ?_
      refine lv_iload_n hx hb dX1_placeOf_35 rfl (lv_at hl 3 rfl) ?_
      obtain ⟨g11, h⟩ := gd h
      refine o_l1 F hw g11 dX1_placeOf_36 ?_
      refine lv_iload_n hx hb dX1_placeOf_37 rfl (lv_at hl 1 rfl) ?_
      refine lv_icmp_ne (tgt := 43) hx hb dX1_placeOf_38 rfl (fun c12 => ?_) (fun c12 => ?_)
      · replace h := itF h c12
        refine lv_iinc (v := (x3 + 1)) (lv' := [(3, .int (x3 + 1)), (0, .ref (ad 0)), (1, .int x1), (2, .int x2)]) hx hb dX1_placeOf_43 hl (k := 3) rfl rfl (by decide) rfl (fun ls hl => ?_)
        refine lv_goto (tgt := 22) hx hb dX1_placeOf_46 rfl ?_
        exact ih _ _ _ _ _ hw (lv_sub hl [1, 2, 3, 0] rfl) h
      · replace h := itT h c12
        refine lv_iload_n hx hb dX1_placeOf_41 rfl (lv_at hl 3 rfl) ?_
        cases h
        exact retO_i F dX1_placeOf_42
set_option maxHeartbeats 4000000 in
set_option maxRecDepth 100000 in
theorem w_X1_placeOf_0 (F : FX p m c cX1_placeOf 4 s args yX1_placeOf (some .int) RX1 meth) {z : Int32} : ∀ (x1 : Int32) (u : OS) (ls : Array Slot), WD G A s (ow G ad u) s.heap [] → lv_has ls 4 [(0, .ref (ad 0)), (1, .int x1)] → f_X1_placeOf x1 u = some z → W p l e rmX1_placeOf s m args below meth c s.heap [] 0 0 (MQ below (QO (some (.int z))) args s 0 0 (fun _ => False)) (F0 m 0 ls []) := by
  obtain ⟨⟨hx, hb, hml, hown, hts⟩, hr, hlocks⟩ := id F
  intro x1 u ls hw hl h
  unfold f_X1_placeOf at h
  refine lv_aload_n hx hb dX1_placeOf_0 rfl (lv_at hl 0 rfl) ?_
  refine lv_iload_n hx hb dX1_placeOf_1 rfl (lv_at hl 1 rfl) ?_
  obtain ⟨z1, e2, h⟩ := bnd h
  refine k_X3_thingOf_o_ F hw e2 ⟨Nat.le_of_ble_eq_true rfl, Nat.le_of_ble_eq_true rfl⟩ ⟨Nat.zero_le _, Nat.zero_le _⟩ hl.1 (Nat.le_of_ble_eq_true rfl) dX1_placeOf_2 ?_
  obtain ⟨z3, e4, h⟩ := bnd h
  refine k_X1_rowOfThing_o_ F hw e4 ⟨Nat.le_of_ble_eq_true rfl, Nat.le_of_ble_eq_true rfl⟩ ⟨Nat.zero_le _, Nat.zero_le _⟩ hl.1 (Nat.le_of_ble_eq_true rfl) dX1_placeOf_5 ?_
  refine lv_istore_n (lv' := [(2, .int z3), (0, .ref (ad 0)), (1, .int x1)]) hx hb dX1_placeOf_8 rfl hl (by decide) rfl (fun ls hl => ?_)
  refine lv_iload_n hx hb dX1_placeOf_9 rfl (lv_at hl 0 rfl) ?_
  refine lv_iconst (v := (-1)) hx hb dX1_placeOf_10 rfl ?_
  refine lv_icmp_ne (tgt := 16) hx hb dX1_placeOf_11 rfl (fun c5 => ?_) (fun c5 => ?_)
  · replace h := itF h c5
    refine lv_aload_n hx hb dX1_placeOf_16 rfl (lv_at hl 1 rfl) ?_
    refine lv_iload_n hx hb dX1_placeOf_17 rfl (lv_at hl 0 rfl) ?_
    obtain ⟨z6, e7, h⟩ := bnd h
    refine k_X1_first_o_ F hw e7 ⟨Nat.le_of_ble_eq_true rfl, Nat.le_of_ble_eq_true rfl⟩ ⟨Nat.zero_le _, Nat.zero_le _⟩ hl.1 (Nat.le_of_ble_eq_true rfl) dX1_placeOf_18 ?_
    refine lv_istore_n (lv' := [(3, .int z6), (2, .int z3), (0, .ref (ad 0)), (1, .int x1)]) hx hb dX1_placeOf_21 rfl hl (by decide) rfl (fun ls hl => ?_)
    exact w_X1_placeOf_22 F NF _ _ _ _ _ hw (lv_sub hl [2, 3, 1, 0] rfl) h
  · replace h := itT h c5
    refine lv_iconst (v := (-1)) hx hb dX1_placeOf_14 rfl ?_
    cases h
    exact retO_i F dX1_placeOf_15
end
theorem c_X1_placeOf {l : Launch} {G : GX} {ad : Nat → Nat} {x1 : Int32} {u : OS} {z : Int32} (h : f_X1_placeOf x1 u = some z) : MO l yX1_placeOf cX1_placeOf 4 (some .int) rmX1_placeOf G (ow G ad u) [.ref (ad 0), .int x1] (some (.int z)) := MO.of (by decide) (Nat.le_of_ble_eq_true rfl) (fun p e s m below meth c ls F hw hl => w_X1_placeOf_0 F _ _ _ hw hl h)
/-! ===== X1_insert ===== -/
theorem dX1_insert_0 : decode cX1_insert 0 = .ok (.aload_n 0, 1) := by decide +kernel
theorem dX1_insert_1 : decode cX1_insert 1 = .ok (.getfield 15, 3) := by decide +kernel
theorem dX1_insert_4 : decode cX1_insert 4 = .ok (.bipush 8, 2) := by decide +kernel
theorem dX1_insert_6 : decode cX1_insert 6 = .ok (.iaload, 1) := by decide +kernel
theorem dX1_insert_7 : decode cX1_insert 7 = .ok (.istore 4, 2) := by decide +kernel
theorem dX1_insert_9 : decode cX1_insert 9 = .ok (.iload 4, 2) := by decide +kernel
theorem dX1_insert_11 : decode cX1_insert 11 = .ok (.sipush 600, 3) := by decide +kernel
theorem dX1_insert_14 : decode cX1_insert 14 = .ok (.if_icmp .ge 21, 3) := by decide +kernel
theorem dX1_insert_17 : decode cX1_insert 17 = .ok (.iload_n 2, 1) := by decide +kernel
theorem dX1_insert_18 : decode cX1_insert 18 = .ok (.aload_n 0, 1) := by decide +kernel
theorem dX1_insert_19 : decode cX1_insert 19 = .ok (.iload_n 1, 1) := by decide +kernel
theorem dX1_insert_20 : decode cX1_insert 20 = .ok (.invokevirtual 37, 3) := by decide +kernel
theorem dX1_insert_23 : decode cX1_insert 23 = .ok (.if_icmp .lt 12, 3) := by decide +kernel
theorem dX1_insert_26 : decode cX1_insert 26 = .ok (.iload_n 2, 1) := by decide +kernel
theorem dX1_insert_27 : decode cX1_insert 27 = .ok (.aload_n 0, 1) := by decide +kernel
theorem dX1_insert_28 : decode cX1_insert 28 = .ok (.iload_n 1, 1) := by decide +kernel
theorem dX1_insert_29 : decode cX1_insert 29 = .ok (.invokevirtual 33, 3) := by decide +kernel
theorem dX1_insert_32 : decode cX1_insert 32 = .ok (.if_icmp .le 4, 3) := by decide +kernel
theorem dX1_insert_35 : decode cX1_insert 35 = .ok (.return_, 1) := by decide +kernel
theorem dX1_insert_36 : decode cX1_insert 36 = .ok (.aload_n 0, 1) := by decide +kernel
theorem dX1_insert_37 : decode cX1_insert 37 = .ok (.getfield 9, 3) := by decide +kernel
theorem dX1_insert_40 : decode cX1_insert 40 = .ok (.iload_n 2, 1) := by decide +kernel
theorem dX1_insert_41 : decode cX1_insert 41 = .ok (.aload_n 0, 1) := by decide +kernel
theorem dX1_insert_42 : decode cX1_insert 42 = .ok (.getfield 9, 3) := by decide +kernel
theorem dX1_insert_45 : decode cX1_insert 45 = .ok (.iload_n 2, 1) := by decide +kernel
theorem dX1_insert_46 : decode cX1_insert 46 = .ok (.iconst 1, 1) := by decide +kernel
theorem dX1_insert_47 : decode cX1_insert 47 = .ok (.iadd, 1) := by decide +kernel
theorem dX1_insert_48 : decode cX1_insert 48 = .ok (.iload 4, 2) := by decide +kernel
theorem dX1_insert_50 : decode cX1_insert 50 = .ok (.iload_n 2, 1) := by decide +kernel
theorem dX1_insert_51 : decode cX1_insert 51 = .ok (.isub, 1) := by decide +kernel
theorem dX1_insert_52 : decode cX1_insert 52 = .ok (.invokestatic 27, 3) := by decide +kernel
theorem dX1_insert_55 : decode cX1_insert 55 = .ok (.aload_n 0, 1) := by decide +kernel
theorem dX1_insert_56 : decode cX1_insert 56 = .ok (.getfield 9, 3) := by decide +kernel
theorem dX1_insert_59 : decode cX1_insert 59 = .ok (.iload_n 2, 1) := by decide +kernel
theorem dX1_insert_60 : decode cX1_insert 60 = .ok (.iload_n 3, 1) := by decide +kernel
theorem dX1_insert_61 : decode cX1_insert 61 = .ok (.iastore, 1) := by decide +kernel
theorem dX1_insert_62 : decode cX1_insert 62 = .ok (.aload_n 0, 1) := by decide +kernel
theorem dX1_insert_63 : decode cX1_insert 63 = .ok (.getfield 18, 3) := by decide +kernel
theorem dX1_insert_66 : decode cX1_insert 66 = .ok (.iload_n 3, 1) := by decide +kernel
theorem dX1_insert_67 : decode cX1_insert 67 = .ok (.invokestatic 46, 3) := by decide +kernel
theorem dX1_insert_70 : decode cX1_insert 70 = .ok (.iload_n 1, 1) := by decide +kernel
theorem dX1_insert_71 : decode cX1_insert 71 = .ok (.iastore, 1) := by decide +kernel
theorem dX1_insert_72 : decode cX1_insert 72 = .ok (.iload_n 1, 1) := by decide +kernel
theorem dX1_insert_73 : decode cX1_insert 73 = .ok (.iconst 1, 1) := by decide +kernel
theorem dX1_insert_74 : decode cX1_insert 74 = .ok (.iadd, 1) := by decide +kernel
theorem dX1_insert_75 : decode cX1_insert 75 = .ok (.istore 5, 2) := by decide +kernel
theorem dX1_insert_77 : decode cX1_insert 77 = .ok (.iload 5, 2) := by decide +kernel
theorem dX1_insert_79 : decode cX1_insert 79 = .ok (.bipush 8, 2) := by decide +kernel
theorem dX1_insert_81 : decode cX1_insert 81 = .ok (.if_icmp .gt 20, 3) := by decide +kernel
theorem dX1_insert_84 : decode cX1_insert 84 = .ok (.aload_n 0, 1) := by decide +kernel
theorem dX1_insert_85 : decode cX1_insert 85 = .ok (.getfield 15, 3) := by decide +kernel
theorem dX1_insert_88 : decode cX1_insert 88 = .ok (.iload 5, 2) := by decide +kernel
theorem dX1_insert_90 : decode cX1_insert 90 = .ok (.dup2, 1) := by decide +kernel
theorem dX1_insert_91 : decode cX1_insert 91 = .ok (.iaload, 1) := by decide +kernel
theorem dX1_insert_92 : decode cX1_insert 92 = .ok (.iconst 1, 1) := by decide +kernel
theorem dX1_insert_93 : decode cX1_insert 93 = .ok (.iadd, 1) := by decide +kernel
theorem dX1_insert_94 : decode cX1_insert 94 = .ok (.iastore, 1) := by decide +kernel
theorem dX1_insert_95 : decode cX1_insert 95 = .ok (.iinc 5 1, 3) := by decide +kernel
theorem dX1_insert_98 : decode cX1_insert 98 = .ok (.goto (-21), 3) := by decide +kernel
theorem dX1_insert_101 : decode cX1_insert 101 = .ok (.return_, 1) := by decide +kernel
theorem o_c1_1 {i j n : Int32} {p : Program} {l : Launch} {e : Env} {R : Room} {s : State} {m : MethodId} {args : Array Value} {below : List Frame} {meth : Method} {c : Code} {H : Heap} {locs : List Loc} {cells slots : Nat} {Q : State → Prop} {G : GX} {A : Nat → Prop} {ad : Nat → Nat} {u : OS} {cc : ByteArray} {nL pc : Nat} {y : MethodName} {ret : Option FieldType} {ls : Array Slot} {rest : List Value} (F : FX p m c cc nL s args y ret RX1 meth) (hw : WD G A s (ow G ad u) H locs) (hi : acp i j n 600 600 = true) (hsz : ls.size = nL) (hfr : 1 ≤ R.frames) (hlo : (rest.map fun v => v.category).sum + 18 ≤ R.locals) (hdg : decode cc pc = .ok (.invokestatic 27, 3)) (kk : ∀ (H : Heap) (locs : List Loc), WD G A s (ow G ad (va_up u 1 (va_cpy (u 1) (u 1) i.toNatClampNeg j.toNatClampNeg n.toNatClampNeg))) H locs → W p l e R s m args below meth c H locs cells slots Q (F0 m (pc + 3) ls (rest))) : W p l e R s m args below meth c H locs cells slots Q (F0 m pc ls (.int n :: .int j :: .ref (ad 1) :: .int i :: .ref (ad 1) :: rest)) := va_copyi (ty := .int) F.1.1 F.1.2.1 (F.1.2.2.1.trans hsz.symm) F.1.2.2.2.1 (F.tb (tw 147 (by decide +kernel) rfl)) (F.tb (tw 149 (by decide +kernel) rfl)) (F.tb (tw 148 (by decide +kernel) rfl)) (F.tb (tw 7 (by decide +kernel) rfl)) hw.1.1 hw.2.1 hw.2.2.1 hw.2.2.2 1 1 0 0 rfl rfl rfl rfl rfl (acp_ok hi).1 (acp_ok hi).2.1 (acp_ok hi).2.2.1 (acp_ok hi).2.2.2.1 (acp_ok hi).2.2.2.2 (fun _ _ => rfl) hfr (by rw [nfw]; exact hlo) hdg (fun H1 l1 hP hD hS => kk H1 l1 ⟨hw.1, hP, hD, hS⟩)
theorem o_s1 {i : Int32} {x : Int32} {p : Program} {l : Launch} {e : Env} {R : Room} {s : State} {m : MethodId} {args : Array Value} {below : List Frame} {meth : Method} {c : Code} {H : Heap} {locs : List Loc} {cells slots : Nat} {Q : State → Prop} {G : GX} {A : Nat → Prop} {ad : Nat → Nat} {u : OS} {cc : ByteArray} {nL pc : Nat} {y : MethodName} {ret : Option FieldType} {ls : Array Slot} {rest : List Value} (F : FX p m c cc nL s args y ret RX1 meth) (hw : WD G A s (ow G ad u) H locs) (hi : ix i 600 = true) (hdg : decode cc pc = .ok (.iastore, 1)) (kk : ∀ (H : Heap) (locs : List Loc), WD G A s (ow G ad (oA u 1 i.toNatClampNeg x)) H locs → W p l e R s m args below meth c H locs cells slots Q (F0 m (pc + 1) ls (rest))) : W p l e R s m args below meth c H locs cells slots Q (F0 m pc ls (.int x :: .int i :: .ref (ad 1) :: rest)) := va_iast F.1.1 F.1.2.1 hw.1.1 hw.2.1 hw.2.2.1 hw.2.2.2 1 0 rfl rfl (ix_in hi) hdg (fun H1 l1 hP hD hS => kk H1 l1 ⟨hw.1, hP, hD, hS⟩)
theorem o_s3 {i : Int32} {x : Int32} {p : Program} {l : Launch} {e : Env} {R : Room} {s : State} {m : MethodId} {args : Array Value} {below : List Frame} {meth : Method} {c : Code} {H : Heap} {locs : List Loc} {cells slots : Nat} {Q : State → Prop} {G : GX} {A : Nat → Prop} {ad : Nat → Nat} {u : OS} {cc : ByteArray} {nL pc : Nat} {y : MethodName} {ret : Option FieldType} {ls : Array Slot} {rest : List Value} (F : FX p m c cc nL s args y ret RX1 meth) (hw : WD G A s (ow G ad u) H locs) (hi : ix i 300 = true) (hdg : decode cc pc = .ok (.iastore, 1)) (kk : ∀ (H : Heap) (locs : List Loc), WD G A s (ow G ad (oA u 3 i.toNatClampNeg x)) H locs → W p l e R s m args below meth c H locs cells slots Q (F0 m (pc + 1) ls (rest))) : W p l e R s m args below meth c H locs cells slots Q (F0 m pc ls (.int x :: .int i :: .ref (ad 3) :: rest)) := va_iast F.1.1 F.1.2.1 hw.1.1 hw.2.1 hw.2.2.1 hw.2.2.2 3 0 rfl rfl (ix_in hi) hdg (fun H1 l1 hP hD hS => kk H1 l1 ⟨hw.1, hP, hD, hS⟩)
theorem o_s2 {i : Int32} {x : Int32} {p : Program} {l : Launch} {e : Env} {R : Room} {s : State} {m : MethodId} {args : Array Value} {below : List Frame} {meth : Method} {c : Code} {H : Heap} {locs : List Loc} {cells slots : Nat} {Q : State → Prop} {G : GX} {A : Nat → Prop} {ad : Nat → Nat} {u : OS} {cc : ByteArray} {nL pc : Nat} {y : MethodName} {ret : Option FieldType} {ls : Array Slot} {rest : List Value} (F : FX p m c cc nL s args y ret RX1 meth) (hw : WD G A s (ow G ad u) H locs) (hi : ix i 9 = true) (hdg : decode cc pc = .ok (.iastore, 1)) (kk : ∀ (H : Heap) (locs : List Loc), WD G A s (ow G ad (oA u 2 i.toNatClampNeg x)) H locs → W p l e R s m args below meth c H locs cells slots Q (F0 m (pc + 1) ls (rest))) : W p l e R s m args below meth c H locs cells slots Q (F0 m pc ls (.int x :: .int i :: .ref (ad 2) :: rest)) := va_iast F.1.1 F.1.2.1 hw.1.1 hw.2.1 hw.2.2.1 hw.2.2.2 2 0 rfl rfl (ix_in hi) hdg (fun H1 l1 hP hD hS => kk H1 l1 ⟨hw.1, hP, hD, hS⟩)
def rmX1_insert : Room := { frames := 1, cells := 0, slots := 0, locals := 21 }
noncomputable def f_X1_insert_77 : Nat → Int32 → OS → Option (OS)
  | 0, _, _ => none
  | n + 1, x5, u => (if (8 : Int32) < x5 then some u else (if ix x5 9 = true then (if ix x5 9 = true then f_X1_insert_77 n (x5 + 1) (oA u 2 (Int32.toNatClampNeg x5) (((u 2) (Int32.toNatClampNeg x5)) + 1)) else none) else none))
noncomputable def f_X1_insert (x1 : Int32) (x2 : Int32) (x3 : Int32) (u : OS) : Option (OS) := (if ix 8 9 = true then (if (600 : Int32) ≤ ((u 2) (Int32.toNatClampNeg 8)) then some u else (f_X1_first x1 u).bind (fun z3 => (if x2 < z3 then some u else (f_X1_end x1 u).bind (fun z6 => (if x2 ≤ z6 then (if acp x2 (x2 + 1) (((u 2) (Int32.toNatClampNeg 8)) - x2) 600 600 = true then (if ix x2 600 = true then (f_X3_thingOf x3).bind (fun z11 => (if ix z11 300 = true then f_X1_insert_77 NF (x1 + 1) (oA (oA (va_up u 1 (va_cpy (u 1) (u 1) (Int32.toNatClampNeg x2) (Int32.toNatClampNeg (x2 + 1)) (Int32.toNatClampNeg (((u 2) (Int32.toNatClampNeg 8)) - x2)))) 1 (Int32.toNatClampNeg x2) x3) 3 (Int32.toNatClampNeg z11) x1) else none)) else none) else none) else some u))))) else none)
section
variable {p : Program} {l : Launch} {e : Env} {s : State} {m : MethodId} {args : Array Value} {below : List Frame} {meth : Method} {c : Code}
variable {G : GX} {A : Nat → Prop} {ad : Nat → Nat} 
set_option maxHeartbeats 4000000 in
set_option maxRecDepth 100000 in
theorem w_X1_insert_77 (F : FX p m c cX1_insert 6 s args yX1_insert none RX1 meth) {z : OS} : ∀ (n : Nat) (x5 : Int32) (u : OS) (H : Heap) (locs : List Loc) (ls : Array Slot), WD G A s (ow G ad u) H locs → lv_has ls 6 [(0, .ref (ad 0)), (5, .int x5)] → f_X1_insert_77 n x5 u = some z → W p l e rmX1_insert s m args below meth c H locs 0 0 (MQ below (QW G (ow G ad z) A none) args s 0 0 A) (F0 m 77 ls []) := by
  obtain ⟨⟨hx, hb, hml, hown, hts⟩, hr, hlocks⟩ := id F
  intro n
  induction n with
  | zero =>
    intro x5 u H locs ls hw hl h
    rw [f_X1_insert_77] at h
    cases h
  | succ n ih =>
    intro x5 u H locs ls hw hl h
    rw [f_X1_insert_77] at h
    refine lv_iload hx hb dX1_insert_77 (lv_at hl 1 rfl) ?_
    refine lv_bipush (v := 8) hx hb dX1_insert_79 rfl ?_
    refine lv_icmp_gt (tgt := 101) hx hb dX1_insert_81 rfl (fun c14 => ?_) (fun c14 => ?_)
    · replace h := itT h c14
      cases h
      exact retW_v F hw dX1_insert_101
    · replace h := itF h c14
      refine lv_aload_n hx hb dX1_insert_84 rfl (lv_at hl 0 rfl) ?_
      refine o_g0_1 F hw dX1_insert_85 ?_
      refine lv_iload hx hb dX1_insert_88 (lv_at hl 1 rfl) ?_
      refine lv_dup2_11 hx hb dX1_insert_90 rfl rfl ?_
      obtain ⟨g15, h⟩ := gd h
      refine o_l2 F hw g15 dX1_insert_91 ?_
      refine lv_iconst (v := 1) hx hb dX1_insert_92 rfl ?_
      refine lv_iadd hx hb dX1_insert_93 ?_
      obtain ⟨g16, h⟩ := gd h
      refine o_s2 F hw g16 dX1_insert_94 (fun H locs hw => ?_)
      refine lv_iinc (v := (x5 + 1)) (lv' := [(5, .int (x5 + 1)), (0, .ref (ad 0))]) hx hb dX1_insert_95 hl (k := 1) rfl rfl (by decide) rfl (fun ls hl => ?_)
      refine lv_goto (tgt := 77) hx hb dX1_insert_98 rfl ?_
      exact ih _ _ _ _ _ hw (lv_sub hl [1, 0] rfl) h
set_option maxHeartbeats 4000000 in
set_option maxRecDepth 100000 in
theorem w_X1_insert_0 (F : FX p m c cX1_insert 6 s args yX1_insert none RX1 meth) {z : OS} : ∀ (x1 : Int32) (x2 : Int32) (x3 : Int32) (u : OS) (H : Heap) (locs : List Loc) (ls : Array Slot), WD G A s (ow G ad u) H locs → lv_has ls 6 [(0, .ref (ad 0)), (1, .int x1), (2, .int x2), (3, .int x3)] → f_X1_insert x1 x2 x3 u = some z → W p l e rmX1_insert s m args below meth c H locs 0 0 (MQ below (QW G (ow G ad z) A none) args s 0 0 A) (F0 m 0 ls []) := by
  obtain ⟨⟨hx, hb, hml, hown, hts⟩, hr, hlocks⟩ := id F
  intro x1 x2 x3 u H locs ls hw hl h
  unfold f_X1_insert at h
  refine lv_aload_n hx hb dX1_insert_0 rfl (lv_at hl 0 rfl) ?_
  refine o_g0_1 F hw dX1_insert_1 ?_
  refine lv_bipush (v := 8) hx hb dX1_insert_4 rfl ?_
  obtain ⟨g1, h⟩ := gd h
  refine o_l2 F hw g1 dX1_insert_6 ?_
  refine lv_istore (lv' := [(4, .int ((u 2) (Int32.toNatClampNeg 8))), (0, .ref (ad 0)), (1, .int x1), (2, .int x2), (3, .int x3)]) hx hb dX1_insert_7 hl (by decide) rfl (fun ls hl => ?_)
  refine lv_iload hx hb dX1_insert_9 (lv_at hl 0 rfl) ?_
  refine lv_sipush (v := 600) hx hb dX1_insert_11 rfl ?_
  refine lv_icmp_ge (tgt := 35) hx hb dX1_insert_14 rfl (fun c2 => ?_) (fun c2 => ?_)
  · replace h := itT h c2
    cases h
    exact retW_v F hw dX1_insert_35
  · replace h := itF h c2
    refine lv_iload_n hx hb dX1_insert_17 rfl (lv_at hl 3 rfl) ?_
    refine lv_aload_n hx hb dX1_insert_18 rfl (lv_at hl 1 rfl) ?_
    refine lv_iload_n hx hb dX1_insert_19 rfl (lv_at hl 2 rfl) ?_
    obtain ⟨z3, e4, h⟩ := bnd h
    refine k_X1_first_o_ F hw e4 ⟨Nat.le_of_ble_eq_true rfl, Nat.le_of_ble_eq_true rfl⟩ ⟨Nat.zero_le _, Nat.zero_le _⟩ hl.1 (Nat.le_of_ble_eq_true rfl) dX1_insert_20 ?_
    refine lv_icmp_lt (tgt := 35) hx hb dX1_insert_23 rfl (fun c5 => ?_) (fun c5 => ?_)
    · replace h := itT h c5
      cases h
      exact retW_v F hw dX1_insert_35
    · replace h := itF h c5
      refine lv_iload_n hx hb dX1_insert_26 rfl (lv_at hl 3 rfl) ?_
      refine lv_aload_n hx hb dX1_insert_27 rfl (lv_at hl 1 rfl) ?_
      refine lv_iload_n hx hb dX1_insert_28 rfl (lv_at hl 2 rfl) ?_
      obtain ⟨z6, e7, h⟩ := bnd h
      refine k_X1_end_o_ F hw e7 ⟨Nat.le_of_ble_eq_true rfl, Nat.le_of_ble_eq_true rfl⟩ ⟨Nat.zero_le _, Nat.zero_le _⟩ hl.1 (Nat.le_of_ble_eq_true rfl) dX1_insert_29 ?_
      refine lv_icmp_le (tgt := 36) hx hb dX1_insert_32 rfl (fun c8 => ?_) (fun c8 => ?_)
      · replace h := itT h c8
        refine lv_aload_n hx hb dX1_insert_36 rfl (lv_at hl 1 rfl) ?_
        refine o_g0_0 F hw dX1_insert_37 ?_
        refine lv_iload_n hx hb dX1_insert_40 rfl (lv_at hl 3 rfl) ?_
        refine lv_aload_n hx hb dX1_insert_41 rfl (lv_at hl 1 rfl) ?_
        refine o_g0_0 F hw dX1_insert_42 ?_
        refine lv_iload_n hx hb dX1_insert_45 rfl (lv_at hl 3 rfl) ?_
        refine lv_iconst (v := 1) hx hb dX1_insert_46 rfl ?_
        refine lv_iadd hx hb dX1_insert_47 ?_
        refine lv_iload hx hb dX1_insert_48 (lv_at hl 0 rfl) ?_
        refine lv_iload_n hx hb dX1_insert_50 rfl (lv_at hl 3 rfl) ?_
        refine lv_isub hx hb dX1_insert_51 ?_
        obtain ⟨g9, h⟩ := gd h
        refine o_c1_1 F hw g9 hl.1 (Nat.le_of_ble_eq_true rfl) (Nat.le_of_ble_eq_true rfl) dX1_insert_52 (fun H locs hw => ?_)
        refine lv_aload_n hx hb dX1_insert_55 rfl (lv_at hl 1 rfl) ?_
        refine o_g0_0 F hw dX1_insert_56 ?_
        refine lv_iload_n hx hb dX1_insert_59 rfl (lv_at hl 3 rfl) ?_
        refine lv_iload_n hx hb dX1_insert_60 rfl (lv_at hl 4 rfl) ?_
        obtain ⟨g10, h⟩ := gd h
        refine o_s1 F hw g10 dX1_insert_61 (fun H locs hw => ?_)
        refine lv_aload_n hx hb dX1_insert_62 rfl (lv_at hl 1 rfl) ?_
        refine o_g0_2 F hw dX1_insert_63 ?_
        refine lv_iload_n hx hb dX1_insert_66 rfl (lv_at hl 4 rfl) ?_
        obtain ⟨z11, e12, h⟩ := bnd h
        refine k_X3_thingOf_o_ F hw e12 ⟨Nat.le_of_ble_eq_true rfl, Nat.le_of_ble_eq_true rfl⟩ ⟨Nat.zero_le _, Nat.zero_le _⟩ hl.1 (Nat.le_of_ble_eq_true rfl) dX1_insert_67 ?_
        refine lv_iload_n hx hb dX1_insert_70 rfl (lv_at hl 2 rfl) ?_
        obtain ⟨g13, h⟩ := gd h
        refine o_s3 F hw g13 dX1_insert_71 (fun H locs hw => ?_)
        refine lv_iload_n hx hb dX1_insert_72 rfl (lv_at hl 2 rfl) ?_
        refine lv_iconst (v := 1) hx hb dX1_insert_73 rfl ?_
        refine lv_iadd hx hb dX1_insert_74 ?_
        refine lv_istore (lv' := [(5, .int (x1 + 1)), (4, .int ((u 2) (Int32.toNatClampNeg 8))), (0, .ref (ad 0)), (1, .int x1), (2, .int x2), (3, .int x3)]) hx hb dX1_insert_75 hl (by decide) rfl (fun ls hl => ?_)
        exact w_X1_insert_77 F NF _ _ _ _ _ hw (lv_sub hl [2, 0] rfl) h
      · replace h := itF h c8
        cases h
        exact retW_v F hw dX1_insert_35
end
theorem c_X1_insert {l : Launch} {G : GX} {ad : Nat → Nat} {x1 : Int32} {x2 : Int32} {x3 : Int32} {u : OS} {z : OS} (h : f_X1_insert x1 x2 x3 u = some z) : MW l yX1_insert cX1_insert 6 none rmX1_insert G (ow G ad u) (ow G ad z) [.ref (ad 0), .int x1, .int x2, .int x3] none := MW.of (by decide) (Nat.le_of_ble_eq_true rfl) (fun p e s m below meth c ls F hw hl => w_X1_insert_0 F _ _ _ _ _ _ _ hw hl h)
/-! ===== X1_remove ===== -/
theorem dX1_remove_0 : decode cX1_remove 0 = .ok (.iload_n 2, 1) := by decide +kernel
theorem dX1_remove_1 : decode cX1_remove 1 = .ok (.aload_n 0, 1) := by decide +kernel
theorem dX1_remove_2 : decode cX1_remove 2 = .ok (.iload_n 1, 1) := by decide +kernel
theorem dX1_remove_3 : decode cX1_remove 3 = .ok (.invokevirtual 37, 3) := by decide +kernel
theorem dX1_remove_6 : decode cX1_remove 6 = .ok (.if_icmp .lt 17, 3) := by decide +kernel
theorem dX1_remove_9 : decode cX1_remove 9 = .ok (.iload_n 3, 1) := by decide +kernel
theorem dX1_remove_10 : decode cX1_remove 10 = .ok (.iload_n 2, 1) := by decide +kernel
theorem dX1_remove_11 : decode cX1_remove 11 = .ok (.if_icmp .lt 12, 3) := by decide +kernel
theorem dX1_remove_14 : decode cX1_remove 14 = .ok (.iload_n 3, 1) := by decide +kernel
theorem dX1_remove_15 : decode cX1_remove 15 = .ok (.aload_n 0, 1) := by decide +kernel
theorem dX1_remove_16 : decode cX1_remove 16 = .ok (.iload_n 1, 1) := by decide +kernel
theorem dX1_remove_17 : decode cX1_remove 17 = .ok (.invokevirtual 33, 3) := by decide +kernel
theorem dX1_remove_20 : decode cX1_remove 20 = .ok (.if_icmp .le 4, 3) := by decide +kernel
theorem dX1_remove_23 : decode cX1_remove 23 = .ok (.return_, 1) := by decide +kernel
theorem dX1_remove_24 : decode cX1_remove 24 = .ok (.iload_n 2, 1) := by decide +kernel
theorem dX1_remove_25 : decode cX1_remove 25 = .ok (.istore 4, 2) := by decide +kernel
theorem dX1_remove_27 : decode cX1_remove 27 = .ok (.iload 4, 2) := by decide +kernel
theorem dX1_remove_29 : decode cX1_remove 29 = .ok (.iload_n 3, 1) := by decide +kernel
theorem dX1_remove_30 : decode cX1_remove 30 = .ok (.if_icmp .ge 25, 3) := by decide +kernel
theorem dX1_remove_33 : decode cX1_remove 33 = .ok (.aload_n 0, 1) := by decide +kernel
theorem dX1_remove_34 : decode cX1_remove 34 = .ok (.getfield 18, 3) := by decide +kernel
theorem dX1_remove_37 : decode cX1_remove 37 = .ok (.aload_n 0, 1) := by decide +kernel
theorem dX1_remove_38 : decode cX1_remove 38 = .ok (.getfield 9, 3) := by decide +kernel
theorem dX1_remove_41 : decode cX1_remove 41 = .ok (.iload 4, 2) := by decide +kernel
theorem dX1_remove_43 : decode cX1_remove 43 = .ok (.iaload, 1) := by decide +kernel
theorem dX1_remove_44 : decode cX1_remove 44 = .ok (.invokestatic 46, 3) := by decide +kernel
theorem dX1_remove_47 : decode cX1_remove 47 = .ok (.iconst (-1), 1) := by decide +kernel
theorem dX1_remove_48 : decode cX1_remove 48 = .ok (.iastore, 1) := by decide +kernel
theorem dX1_remove_49 : decode cX1_remove 49 = .ok (.iinc 4 1, 3) := by decide +kernel
theorem dX1_remove_52 : decode cX1_remove 52 = .ok (.goto (-25), 3) := by decide +kernel
theorem dX1_remove_55 : decode cX1_remove 55 = .ok (.aload_n 0, 1) := by decide +kernel
theorem dX1_remove_56 : decode cX1_remove 56 = .ok (.getfield 9, 3) := by decide +kernel
theorem dX1_remove_59 : decode cX1_remove 59 = .ok (.iload_n 3, 1) := by decide +kernel
theorem dX1_remove_60 : decode cX1_remove 60 = .ok (.aload_n 0, 1) := by decide +kernel
theorem dX1_remove_61 : decode cX1_remove 61 = .ok (.getfield 9, 3) := by decide +kernel
theorem dX1_remove_64 : decode cX1_remove 64 = .ok (.iload_n 2, 1) := by decide +kernel
theorem dX1_remove_65 : decode cX1_remove 65 = .ok (.aload_n 0, 1) := by decide +kernel
theorem dX1_remove_66 : decode cX1_remove 66 = .ok (.getfield 15, 3) := by decide +kernel
theorem dX1_remove_69 : decode cX1_remove 69 = .ok (.bipush 8, 2) := by decide +kernel
theorem dX1_remove_71 : decode cX1_remove 71 = .ok (.iaload, 1) := by decide +kernel
theorem dX1_remove_72 : decode cX1_remove 72 = .ok (.iload_n 3, 1) := by decide +kernel
theorem dX1_remove_73 : decode cX1_remove 73 = .ok (.isub, 1) := by decide +kernel
theorem dX1_remove_74 : decode cX1_remove 74 = .ok (.invokestatic 27, 3) := by decide +kernel
theorem dX1_remove_77 : decode cX1_remove 77 = .ok (.iload_n 1, 1) := by decide +kernel
theorem dX1_remove_78 : decode cX1_remove 78 = .ok (.iconst 1, 1) := by decide +kernel
theorem dX1_remove_79 : decode cX1_remove 79 = .ok (.iadd, 1) := by decide +kernel
theorem dX1_remove_80 : decode cX1_remove 80 = .ok (.istore 4, 2) := by decide +kernel
theorem dX1_remove_82 : decode cX1_remove 82 = .ok (.iload 4, 2) := by decide +kernel
theorem dX1_remove_84 : decode cX1_remove 84 = .ok (.bipush 8, 2) := by decide +kernel
theorem dX1_remove_86 : decode cX1_remove 86 = .ok (.if_icmp .gt 22, 3) := by decide +kernel
theorem dX1_remove_89 : decode cX1_remove 89 = .ok (.aload_n 0, 1) := by decide +kernel
theorem dX1_remove_90 : decode cX1_remove 90 = .ok (.getfield 15, 3) := by decide +kernel
theorem dX1_remove_93 : decode cX1_remove 93 = .ok (.iload 4, 2) := by decide +kernel
theorem dX1_remove_95 : decode cX1_remove 95 = .ok (.dup2, 1) := by decide +kernel
theorem dX1_remove_96 : decode cX1_remove 96 = .ok (.iaload, 1) := by decide +kernel
theorem dX1_remove_97 : decode cX1_remove 97 = .ok (.iload_n 3, 1) := by decide +kernel
theorem dX1_remove_98 : decode cX1_remove 98 = .ok (.iload_n 2, 1) := by decide +kernel
theorem dX1_remove_99 : decode cX1_remove 99 = .ok (.isub, 1) := by decide +kernel
theorem dX1_remove_100 : decode cX1_remove 100 = .ok (.isub, 1) := by decide +kernel
theorem dX1_remove_101 : decode cX1_remove 101 = .ok (.iastore, 1) := by decide +kernel
theorem dX1_remove_102 : decode cX1_remove 102 = .ok (.iinc 4 1, 3) := by decide +kernel
theorem dX1_remove_105 : decode cX1_remove 105 = .ok (.goto (-23), 3) := by decide +kernel
theorem dX1_remove_108 : decode cX1_remove 108 = .ok (.return_, 1) := by decide +kernel
def rmX1_remove : Room := { frames := 1, cells := 0, slots := 0, locals := 21 }
noncomputable def f_X1_remove_82 : Nat → Int32 → Int32 → Int32 → OS → Option (OS)
  | 0, _, _, _, _ => none
  | n + 1, x2, x3, x4, u => (if (8 : Int32) < x4 then some u else (if ix x4 9 = true then (if ix x4 9 = true then f_X1_remove_82 n x2 x3 (x4 + 1) (oA u 2 (Int32.toNatClampNeg x4) (((u 2) (Int32.toNatClampNeg x4)) - (x3 - x2))) else none) else none))
noncomputable def f_X1_remove_27 : Nat → Int32 → Int32 → Int32 → Int32 → OS → Option (OS)
  | 0, _, _, _, _, _ => none
  | n + 1, x1, x2, x3, x4, u => (if x3 ≤ x4 then (if ix 8 9 = true then (if acp x3 x2 (((u 2) (Int32.toNatClampNeg 8)) - x3) 600 600 = true then f_X1_remove_82 NF x2 x3 (x1 + 1) (va_up u 1 (va_cpy (u 1) (u 1) (Int32.toNatClampNeg x3) (Int32.toNatClampNeg x2) (Int32.toNatClampNeg (((u 2) (Int32.toNatClampNeg 8)) - x3)))) else none) else none) else (if ix x4 600 = true then (f_X3_thingOf ((u 1) (Int32.toNatClampNeg x4))).bind (fun z12 => (if ix z12 300 = true then f_X1_remove_27 n x1 x2 x3 (x4 + 1) (oA u 3 (Int32.toNatClampNeg z12) (-1)) else none)) else none))
noncomputable def f_X1_remove (x1 : Int32) (x2 : Int32) (x3 : Int32) (u : OS) : Option (OS) := (f_X1_first x1 u).bind (fun z1 => (if x2 < z1 then some u else (if x3 < x2 then some u else (f_X1_end x1 u).bind (fun z5 => (if x3 ≤ z5 then f_X1_remove_27 NF x1 x2 x3 x2 u else some u)))))
section
variable {p : Program} {l : Launch} {e : Env} {s : State} {m : MethodId} {args : Array Value} {below : List Frame} {meth : Method} {c : Code}
variable {G : GX} {A : Nat → Prop} {ad : Nat → Nat} 
set_option maxHeartbeats 4000000 in
set_option maxRecDepth 100000 in
theorem w_X1_remove_82 (F : FX p m c cX1_remove 5 s args yX1_remove none RX1 meth) {z : OS} : ∀ (n : Nat) (x2 : Int32) (x3 : Int32) (x4 : Int32) (u : OS) (H : Heap) (locs : List Loc) (ls : Array Slot), WD G A s (ow G ad u) H locs → lv_has ls 5 [(0, .ref (ad 0)), (2, .int x2), (3, .int x3), (4, .int x4)] → f_X1_remove_82 n x2 x3 x4 u = some z → W p l e rmX1_remove s m args below meth c H locs 0 0 (MQ below (QW G (ow G ad z) A none) args s 0 0 A) (F0 m 82 ls []) := by
  obtain ⟨⟨hx, hb, hml, hown, hts⟩, hr, hlocks⟩ := id F
  intro n
  induction n with
  | zero =>
    intro x2 x3 x4 u H locs ls hw hl h
    rw [f_X1_remove_82] at h
    cases h
  | succ n ih =>
    intro x2 x3 x4 u H locs ls hw hl h
    rw [f_X1_remove_82] at h
    refine lv_iload hx hb dX1_remove_82 (lv_at hl 3 rfl) ?_
    refine lv_bipush (v := 8) hx hb dX1_remove_84 rfl ?_
    refine lv_icmp_gt (tgt := 108) hx hb dX1_remove_86 rfl (fun c15 => ?_) (fun c15 => ?_)
    · replace h := itT h c15
      cases h
      exact retW_v F hw dX1_remove_108
    · replace h := itF h c15
      refine lv_aload_n hx hb dX1_remove_89 rfl (lv_at hl 0 rfl) ?_
      refine o_g0_1 F hw dX1_remove_90 ?_
      refine lv_iload hx hb dX1_remove_93 (lv_at hl 3 rfl) ?_
      refine lv_dup2_11 hx hb dX1_remove_95 rfl rfl ?_
      obtain ⟨g16, h⟩ := gd h
      refine o_l2 F hw g16 dX1_remove_96 ?_
      refine lv_iload_n hx hb dX1_remove_97 rfl (lv_at hl 2 rfl) ?_
      refine lv_iload_n hx hb dX1_remove_98 rfl (lv_at hl 1 rfl) ?_
      refine lv_isub hx hb dX1_remove_99 ?_
      refine lv_isub hx hb dX1_remove_100 ?_
      obtain ⟨g17, h⟩ := gd h
      refine o_s2 F hw g17 dX1_remove_101 (fun H locs hw => ?_)
      refine lv_iinc (v := (x4 + 1)) (lv' := [(4, .int (x4 + 1)), (0, .ref (ad 0)), (2, .int x2), (3, .int x3)]) hx hb dX1_remove_102 hl (k := 3) rfl rfl (by decide) rfl (fun ls hl => ?_)
      refine lv_goto (tgt := 82) hx hb dX1_remove_105 rfl ?_
      exact ih _ _ _ _ _ _ _ hw (lv_sub hl [1, 2, 3, 0] rfl) h
set_option maxHeartbeats 4000000 in
set_option maxRecDepth 100000 in
theorem w_X1_remove_27 (F : FX p m c cX1_remove 5 s args yX1_remove none RX1 meth) {z : OS} : ∀ (n : Nat) (x1 : Int32) (x2 : Int32) (x3 : Int32) (x4 : Int32) (u : OS) (H : Heap) (locs : List Loc) (ls : Array Slot), WD G A s (ow G ad u) H locs → lv_has ls 5 [(0, .ref (ad 0)), (1, .int x1), (2, .int x2), (3, .int x3), (4, .int x4)] → f_X1_remove_27 n x1 x2 x3 x4 u = some z → W p l e rmX1_remove s m args below meth c H locs 0 0 (MQ below (QW G (ow G ad z) A none) args s 0 0 A) (F0 m 27 ls []) := by
  obtain ⟨⟨hx, hb, hml, hown, hts⟩, hr, hlocks⟩ := id F
  intro n
  induction n with
  | zero =>
    intro x1 x2 x3 x4 u H locs ls hw hl h
    rw [f_X1_remove_27] at h
    cases h
  | succ n ih =>
    intro x1 x2 x3 x4 u H locs ls hw hl h
    rw [f_X1_remove_27] at h
    refine lv_iload hx hb dX1_remove_27 (lv_at hl 4 rfl) ?_
    refine lv_iload_n hx hb dX1_remove_29 rfl (lv_at hl 3 rfl) ?_
    refine lv_icmp_ge (tgt := 55) hx hb dX1_remove_30 rfl (fun c8 => ?_) (fun c8 => ?_)
    · replace h := itT h c8
      refine lv_aload_n hx hb dX1_remove_55 rfl (lv_at hl 0 rfl) ?_
      refine o_g0_0 F hw dX1_remove_56 ?_
      refine lv_iload_n hx hb dX1_remove_59 rfl (lv_at hl 3 rfl) ?_
      refine lv_aload_n hx hb dX1_remove_60 rfl (lv_at hl 0 rfl) ?_
      refine o_g0_0 F hw dX1_remove_61 ?_
      refine lv_iload_n hx hb dX1_remove_64 rfl (lv_at hl 2 rfl) ?_
      refine lv_aload_n hx hb dX1_remove_65 rfl (lv_at hl 0 rfl) ?_
      refine o_g0_1 F hw dX1_remove_66 ?_
      refine lv_bipush (v := 8) hx hb dX1_remove_69 rfl ?_
      obtain ⟨g9, h⟩ := gd h
      refine o_l2 F hw g9 dX1_remove_71 ?_
      refine lv_iload_n hx hb dX1_remove_72 rfl (lv_at hl 3 rfl) ?_
      refine lv_isub hx hb dX1_remove_73 ?_
      obtain ⟨g10, h⟩ := gd h
      refine o_c1_1 F hw g10 hl.1 (Nat.le_of_ble_eq_true rfl) (Nat.le_of_ble_eq_true rfl) dX1_remove_74 (fun H locs hw => ?_)
      refine lv_iload_n hx hb dX1_remove_77 rfl (lv_at hl 1 rfl) ?_
      refine lv_iconst (v := 1) hx hb dX1_remove_78 rfl ?_
      refine lv_iadd hx hb dX1_remove_79 ?_
      refine lv_istore (lv' := [(4, .int (x1 + 1)), (0, .ref (ad 0)), (1, .int x1), (2, .int x2), (3, .int x3)]) hx hb dX1_remove_80 hl (by decide) rfl (fun ls hl => ?_)
      exact w_X1_remove_82 F NF _ _ _ _ _ _ _ hw (lv_sub hl [1, 3, 4, 0] rfl) h
    · replace h := itF h c8
      refine lv_aload_n hx hb dX1_remove_33 rfl (lv_at hl 0 rfl) ?_
      refine o_g0_2 F hw dX1_remove_34 ?_
      refine lv_aload_n hx hb dX1_remove_37 rfl (lv_at hl 0 rfl) ?_
      refine o_g0_0 F hw dX1_remove_38 ?_
      refine lv_iload hx hb dX1_remove_41 (lv_at hl 4 rfl) ?_
      obtain ⟨g11, h⟩ := gd h
      refine o_l1 F hw g11 dX1_remove_43 ?_
      obtain ⟨z12, e13, h⟩ := bnd h
      refine k_X3_thingOf_o_ F hw e13 ⟨Nat.le_of_ble_eq_true rfl, Nat.le_of_ble_eq_true rfl⟩ ⟨Nat.zero_le _, Nat.zero_le _⟩ hl.1 (Nat.le_of_ble_eq_true rfl) dX1_remove_44 ?_
      refine lv_iconst (v := (-1)) hx hb dX1_remove_47 rfl ?_
      obtain ⟨g14, h⟩ := gd h
      refine o_s3 F hw g14 dX1_remove_48 (fun H locs hw => ?_)
      refine lv_iinc (v := (x4 + 1)) (lv' := [(4, .int (x4 + 1)), (0, .ref (ad 0)), (1, .int x1), (2, .int x2), (3, .int x3)]) hx hb dX1_remove_49 hl (k := 4) rfl rfl (by decide) rfl (fun ls hl => ?_)
      refine lv_goto (tgt := 27) hx hb dX1_remove_52 rfl ?_
      exact ih _ _ _ _ _ _ _ _ hw (lv_sub hl [1, 2, 3, 4, 0] rfl) h
set_option maxHeartbeats 4000000 in
set_option maxRecDepth 100000 in
theorem w_X1_remove_0 (F : FX p m c cX1_remove 5 s args yX1_remove none RX1 meth) {z : OS} : ∀ (x1 : Int32) (x2 : Int32) (x3 : Int32) (u : OS) (H : Heap) (locs : List Loc) (ls : Array Slot), WD G A s (ow G ad u) H locs → lv_has ls 5 [(0, .ref (ad 0)), (1, .int x1), (2, .int x2), (3, .int x3)] → f_X1_remove x1 x2 x3 u = some z → W p l e rmX1_remove s m args below meth c H locs 0 0 (MQ below (QW G (ow G ad z) A none) args s 0 0 A) (F0 m 0 ls []) := by
  obtain ⟨⟨hx, hb, hml, hown, hts⟩, hr, hlocks⟩ := id F
  intro x1 x2 x3 u H locs ls hw hl h
  unfold f_X1_remove at h
  refine lv_iload_n hx hb dX1_remove_0 rfl (lv_at hl 2 rfl) ?_
  refine lv_aload_n hx hb dX1_remove_1 rfl (lv_at hl 0 rfl) ?_
  refine lv_iload_n hx hb dX1_remove_2 rfl (lv_at hl 1 rfl) ?_
  obtain ⟨z1, e2, h⟩ := bnd h
  refine k_X1_first_o_ F hw e2 ⟨Nat.le_of_ble_eq_true rfl, Nat.le_of_ble_eq_true rfl⟩ ⟨Nat.zero_le _, Nat.zero_le _⟩ hl.1 (Nat.le_of_ble_eq_true rfl) dX1_remove_3 ?_
  refine lv_icmp_lt (tgt := 23) hx hb dX1_remove_6 rfl (fun c3 => ?_) (fun c3 => ?_)
  · replace h := itT h c3
    cases h
    exact retW_v F hw dX1_remove_23
  · replace h := itF h c3
    refine lv_iload_n hx hb dX1_remove_9 rfl (lv_at hl 3 rfl) ?_
    refine lv_iload_n hx hb dX1_remove_10 rfl (lv_at hl 2 rfl) ?_
    refine lv_icmp_lt (tgt := 23) hx hb dX1_remove_11 rfl (fun c4 => ?_) (fun c4 => ?_)
    · replace h := itT h c4
      cases h
      exact retW_v F hw dX1_remove_23
    · replace h := itF h c4
      refine lv_iload_n hx hb dX1_remove_14 rfl (lv_at hl 3 rfl) ?_
      refine lv_aload_n hx hb dX1_remove_15 rfl (lv_at hl 0 rfl) ?_
      refine lv_iload_n hx hb dX1_remove_16 rfl (lv_at hl 1 rfl) ?_
      obtain ⟨z5, e6, h⟩ := bnd h
      refine k_X1_end_o_ F hw e6 ⟨Nat.le_of_ble_eq_true rfl, Nat.le_of_ble_eq_true rfl⟩ ⟨Nat.zero_le _, Nat.zero_le _⟩ hl.1 (Nat.le_of_ble_eq_true rfl) dX1_remove_17 ?_
      refine lv_icmp_le (tgt := 24) hx hb dX1_remove_20 rfl (fun c7 => ?_) (fun c7 => ?_)
      · replace h := itT h c7
        refine lv_iload_n hx hb dX1_remove_24 rfl (lv_at hl 2 rfl) ?_
        refine lv_istore (lv' := [(4, .int x2), (0, .ref (ad 0)), (1, .int x1), (2, .int x2), (3, .int x3)]) hx hb dX1_remove_25 hl (by decide) rfl (fun ls hl => ?_)
        exact w_X1_remove_27 F NF _ _ _ _ _ _ _ _ hw (lv_sub hl [1, 2, 3, 4, 0] rfl) h
      · replace h := itF h c7
        cases h
        exact retW_v F hw dX1_remove_23
end
theorem c_X1_remove {l : Launch} {G : GX} {ad : Nat → Nat} {x1 : Int32} {x2 : Int32} {x3 : Int32} {u : OS} {z : OS} (h : f_X1_remove x1 x2 x3 u = some z) : MW l yX1_remove cX1_remove 5 none rmX1_remove G (ow G ad u) (ow G ad z) [.ref (ad 0), .int x1, .int x2, .int x3] none := MW.of (by decide) (Nat.le_of_ble_eq_true rfl) (fun p e s m below meth c ls F hw hl => w_X1_remove_0 F _ _ _ _ _ _ _ hw hl h)
/-! ===== X0_isSet ===== -/
theorem dX0_isSet_0 : decode cX0_isSet 0 = .ok (.iload_n 1, 1) := by decide +kernel
theorem dX0_isSet_1 : decode cX0_isSet 1 = .ok (.ifCond .lt 23, 3) := by decide +kernel
theorem dX0_isSet_4 : decode cX0_isSet 4 = .ok (.iload_n 1, 1) := by decide +kernel
theorem dX0_isSet_5 : decode cX0_isSet 5 = .ok (.bipush 20, 2) := by decide +kernel
theorem dX0_isSet_7 : decode cX0_isSet 7 = .ok (.if_icmp .ge 17, 3) := by decide +kernel
theorem dX0_isSet_10 : decode cX0_isSet 10 = .ok (.aload_n 0, 1) := by decide +kernel
theorem dX0_isSet_11 : decode cX0_isSet 11 = .ok (.getfield 9, 3) := by decide +kernel
theorem dX0_isSet_14 : decode cX0_isSet 14 = .ok (.iload_n 1, 1) := by decide +kernel
theorem dX0_isSet_15 : decode cX0_isSet 15 = .ok (.iaload, 1) := by decide +kernel
theorem dX0_isSet_16 : decode cX0_isSet 16 = .ok (.iconst (-1), 1) := by decide +kernel
theorem dX0_isSet_17 : decode cX0_isSet 17 = .ok (.if_icmp .eq 7, 3) := by decide +kernel
theorem dX0_isSet_20 : decode cX0_isSet 20 = .ok (.iconst 1, 1) := by decide +kernel
theorem dX0_isSet_21 : decode cX0_isSet 21 = .ok (.goto 4, 3) := by decide +kernel
theorem dX0_isSet_24 : decode cX0_isSet 24 = .ok (.iconst 0, 1) := by decide +kernel
theorem dX0_isSet_25 : decode cX0_isSet 25 = .ok (.ireturn, 1) := by decide +kernel
theorem q_g0_0 {p : Program} {l : Launch} {e : Env} {R : Room} {s : State} {m : MethodId} {args : Array Value} {below : List Frame} {meth : Method} {c : Code} {H : Heap} {locs : List Loc} {cells slots : Nat} {Q : State → Prop} {G : GX} {A : Nat → Prop} {ad : Nat → Nat} {u : OS} {cc : ByteArray} {nL pc : Nat} {y : MethodName} {ret : Option FieldType} {ls : Array Slot} {rest : List Value} (F : FX p m c cc nL s args y ret RX0 meth) (hw : WD G A s (kw G ad u) H locs) (hdg : decode cc pc = .ok (.getfield 9, 3)) (kk : W p l e R s m args below meth c H locs cells slots Q (F0 m (pc + 3) ls (.ref (ad 1) :: rest))) : W p l e R s m args below meth c H locs cells slots Q (F0 m pc ls (.ref (ad 0) :: rest)) := va_get (D := G.1) (ci := 0) (C := RX0) (T := TX0) (N := 3) (Ts := lw_gt) F.1.1 F.1.2.1 (fun _ h => F.tb h) inX0 F.1.2.2.2.1 hw.1.1 hw.2.1 0 rfl rfl 0 (by decide) (F.tb (tw 52 (by decide +kernel) rfl)) (fun _ h9 => h9) rfl hdg kk
theorem q_l1 {i : Int32} {p : Program} {l : Launch} {e : Env} {R : Room} {s : State} {m : MethodId} {args : Array Value} {below : List Frame} {meth : Method} {c : Code} {H : Heap} {locs : List Loc} {cells slots : Nat} {Q : State → Prop} {G : GX} {A : Nat → Prop} {ad : Nat → Nat} {u : OS} {cc : ByteArray} {nL pc : Nat} {y : MethodName} {ret : Option FieldType} {ls : Array Slot} {rest : List Value} (F : FX p m c cc nL s args y ret RX0 meth) (hw : WD G A s (kw G ad u) H locs) (hi : ix i 20 = true) (hdg : decode cc pc = .ok (.iaload, 1)) (kk : W p l e R s m args below meth c H locs cells slots Q (F0 m (pc + 1) ls (.int ((u 1) i.toNatClampNeg) :: rest))) : W p l e R s m args below meth c H locs cells slots Q (F0 m pc ls (.int i :: .ref (ad 1) :: rest)) := va_iald F.1.1 F.1.2.1 hw.1.1 hw.2.1 1 0 rfl rfl (ix_in hi) hdg kk
def rmX0_isSet : Room := { frames := 0, cells := 0, slots := 0, locals := 0 }
noncomputable def f_X0_isSet (x1 : Int32) (u : OS) : Option (Int32) := (if x1 < 0 then some 0 else (if (20 : Int32) ≤ x1 then some 0 else (if ix x1 20 = true then (if ((u 1) (Int32.toNatClampNeg x1)) = ((-1) : Int32) then some 0 else some 1) else none)))
section
variable {p : Program} {l : Launch} {e : Env} {s : State} {m : MethodId} {args : Array Value} {below : List Frame} {meth : Method} {c : Code}
variable {G : GX} {A : Nat → Prop} {ad : Nat → Nat} 
set_option maxHeartbeats 4000000 in
set_option maxRecDepth 100000 in
theorem w_X0_isSet_0 (F : FX p m c cX0_isSet 2 s args yX0_isSet (some .boolean) RX0 meth) {z : Int32} : ∀ (x1 : Int32) (u : OS) (ls : Array Slot), WD G A s (kw G ad u) s.heap [] → lv_has ls 2 [(0, .ref (ad 0)), (1, .int x1)] → f_X0_isSet x1 u = some z → W p l e rmX0_isSet s m args below meth c s.heap [] 0 0 (MQ below (QO (some (.int z))) args s 0 0 (fun _ => False)) (F0 m 0 ls []) := by
  obtain ⟨⟨hx, hb, hml, hown, hts⟩, hr, hlocks⟩ := id F
  intro x1 u ls hw hl h
  unfold f_X0_isSet at h
  refine lv_iload_n hx hb dX0_isSet_0 rfl (lv_at hl 1 rfl) ?_
  refine lv_if_lt (tgt := 24) hx hb dX0_isSet_1 rfl (fun c1 => ?_) (fun c1 => ?_)
  · replace h := itT h c1
    refine lv_iconst (v := 0) hx hb dX0_isSet_24 rfl ?_
    cases h
    exact retO_z F narrow_b0 dX0_isSet_25
  · replace h := itF h c1
    refine lv_iload_n hx hb dX0_isSet_4 rfl (lv_at hl 1 rfl) ?_
    refine lv_bipush (v := 20) hx hb dX0_isSet_5 rfl ?_
    refine lv_icmp_ge (tgt := 24) hx hb dX0_isSet_7 rfl (fun c2 => ?_) (fun c2 => ?_)
    · replace h := itT h c2
      refine lv_iconst (v := 0) hx hb dX0_isSet_24 rfl ?_
      cases h
      exact retO_z F narrow_b0 dX0_isSet_25
    · replace h := itF h c2
      refine lv_aload_n hx hb dX0_isSet_10 rfl (lv_at hl 0 rfl) ?_
      refine q_g0_0 F hw dX0_isSet_11 ?_
      refine lv_iload_n hx hb dX0_isSet_14 rfl (lv_at hl 1 rfl) ?_
      obtain ⟨g3, h⟩ := gd h
      refine q_l1 F hw g3 dX0_isSet_15 ?_
      refine lv_iconst (v := (-1)) hx hb dX0_isSet_16 rfl ?_
      refine lv_icmp_eq (tgt := 24) hx hb dX0_isSet_17 rfl (fun c4 => ?_) (fun c4 => ?_)
      · replace h := itT h c4
        refine lv_iconst (v := 0) hx hb dX0_isSet_24 rfl ?_
        cases h
        exact retO_z F narrow_b0 dX0_isSet_25
      · replace h := itF h c4
        refine lv_iconst (v := 1) hx hb dX0_isSet_20 rfl ?_
        refine lv_goto (tgt := 25) hx hb dX0_isSet_21 rfl ?_
        cases h
        exact retO_z F narrow_b1 dX0_isSet_25
end
theorem c_X0_isSet {l : Launch} {G : GX} {ad : Nat → Nat} {x1 : Int32} {u : OS} {z : Int32} (h : f_X0_isSet x1 u = some z) : MO l yX0_isSet cX0_isSet 2 (some .boolean) rmX0_isSet G (kw G ad u) [.ref (ad 0), .int x1] (some (.int z)) := MO.of (by decide) (Nat.le_of_ble_eq_true rfl) (fun p e s m below meth c ls F hw hl => w_X0_isSet_0 F _ _ _ hw hl h)
/-! ===== X0_setCount ===== -/
theorem dX0_setCount_0 : decode cX0_setCount 0 = .ok (.iconst 0, 1) := by decide +kernel
theorem dX0_setCount_1 : decode cX0_setCount 1 = .ok (.istore_n 1, 1) := by decide +kernel
theorem dX0_setCount_2 : decode cX0_setCount 2 = .ok (.iconst 0, 1) := by decide +kernel
theorem dX0_setCount_3 : decode cX0_setCount 3 = .ok (.istore_n 2, 1) := by decide +kernel
theorem dX0_setCount_4 : decode cX0_setCount 4 = .ok (.iload_n 2, 1) := by decide +kernel
theorem dX0_setCount_5 : decode cX0_setCount 5 = .ok (.bipush 20, 2) := by decide +kernel
theorem dX0_setCount_7 : decode cX0_setCount 7 = .ok (.if_icmp .ge 22, 3) := by decide +kernel
theorem dX0_setCount_10 : decode cX0_setCount 10 = .ok (.aload_n 0, 1) := by decide +kernel
theorem dX0_setCount_11 : decode cX0_setCount 11 = .ok (.getfield 9, 3) := by decide +kernel
theorem dX0_setCount_14 : decode cX0_setCount 14 = .ok (.iload_n 2, 1) := by decide +kernel
theorem dX0_setCount_15 : decode cX0_setCount 15 = .ok (.iaload, 1) := by decide +kernel
theorem dX0_setCount_16 : decode cX0_setCount 16 = .ok (.iconst (-1), 1) := by decide +kernel
theorem dX0_setCount_17 : decode cX0_setCount 17 = .ok (.if_icmp .eq 6, 3) := by decide +kernel
theorem dX0_setCount_20 : decode cX0_setCount 20 = .ok (.iinc 1 1, 3) := by decide +kernel
theorem dX0_setCount_23 : decode cX0_setCount 23 = .ok (.iinc 2 1, 3) := by decide +kernel
theorem dX0_setCount_26 : decode cX0_setCount 26 = .ok (.goto (-22), 3) := by decide +kernel
theorem dX0_setCount_29 : decode cX0_setCount 29 = .ok (.iload_n 1, 1) := by decide +kernel
theorem dX0_setCount_30 : decode cX0_setCount 30 = .ok (.ireturn, 1) := by decide +kernel
def rmX0_setCount : Room := { frames := 0, cells := 0, slots := 0, locals := 0 }
noncomputable def f_X0_setCount_4 : Nat → Int32 → Int32 → OS → Option (Int32)
  | 0, _, _, _ => none
  | n + 1, x1, x2, u => (if (20 : Int32) ≤ x2 then some x1 else (if ix x2 20 = true then (if ((u 1) (Int32.toNatClampNeg x2)) = ((-1) : Int32) then f_X0_setCount_4 n x1 (x2 + 1) u else f_X0_setCount_4 n (x1 + 1) (x2 + 1) u) else none))
noncomputable def f_X0_setCount (u : OS) : Option (Int32) := f_X0_setCount_4 NF 0 0 u
section
variable {p : Program} {l : Launch} {e : Env} {s : State} {m : MethodId} {args : Array Value} {below : List Frame} {meth : Method} {c : Code}
variable {G : GX} {A : Nat → Prop} {ad : Nat → Nat} 
set_option maxHeartbeats 4000000 in
set_option maxRecDepth 100000 in
theorem w_X0_setCount_4 (F : FX p m c cX0_setCount 3 s args yX0_setCount (some .int) RX0 meth) {z : Int32} : ∀ (n : Nat) (x1 : Int32) (x2 : Int32) (u : OS) (ls : Array Slot), WD G A s (kw G ad u) s.heap [] → lv_has ls 3 [(0, .ref (ad 0)), (1, .int x1), (2, .int x2)] → f_X0_setCount_4 n x1 x2 u = some z → W p l e rmX0_setCount s m args below meth c s.heap [] 0 0 (MQ below (QO (some (.int z))) args s 0 0 (fun _ => False)) (F0 m 4 ls []) := by
  obtain ⟨⟨hx, hb, hml, hown, hts⟩, hr, hlocks⟩ := id F
  intro n
  induction n with
  | zero =>
    intro x1 x2 u ls hw hl h
    rw [f_X0_setCount_4] at h
    cases h
  | succ n ih =>
    intro x1 x2 u ls hw hl h
    rw [f_X0_setCount_4] at h
    refine lv_iload_n hx hb dX0_setCount_4 rfl (lv_at hl 2 rfl) ?_
    refine lv_bipush (v := 20) hx hb dX0_setCount_5 rfl ?_
    refine lv_icmp_ge (tgt := 29) hx hb dX0_setCount_7 rfl (fun c1 => ?_) (fun c1 => ?_)
    · replace h := itT h c1
      refine lv_iload_n hx hb dX0_setCount_29 rfl (lv_at hl 1 rfl) ?_
      cases h
      exact retO_i F dX0_setCount_30
    · replace h := itF h c1
      refine lv_aload_n hx hb dX0_setCount_10 rfl (lv_at hl 0 rfl) ?_
      refine q_g0_0 F hw dX0_setCount_11 ?_
      refine lv_iload_n hx hb dX0_setCount_14 rfl (lv_at hl 2 rfl) ?_
      obtain ⟨g2, h⟩ := gd h
      refine q_l1 F hw g2 dX0_setCount_15 ?_
      refine lv_iconst (v := (-1)) hx hb dX0_setCount_16 rfl ?_
      refine lv_icmp_eq (tgt := 23) hx hb dX0_setCount_17 rfl (fun c3 => ?_) (fun c3 => ?_)
      · replace h := itT h c3
        refine lv_iinc (v := (x2 + 1)) (lv' := [(2, .int (x2 + 1)), (0, .ref (ad 0)), (1, .int x1)]) hx hb dX0_setCount_23 hl (k := 2) rfl rfl (by decide) rfl (fun ls hl => ?_)
        refine lv_goto (tgt := 4) hx hb dX0_setCount_26 rfl ?_
        exact ih _ _ _ _ hw (lv_sub hl [1, 2, 0] rfl) h
      · replace h := itF h c3
        refine lv_iinc (v := (x1 + 1)) (lv' := [(1, .int (x1 + 1)), (0, .ref (ad 0)), (2, .int x2)]) hx hb dX0_setCount_20 hl (k := 1) rfl rfl (by decide) rfl (fun ls hl => ?_)
        refine lv_iinc (v := (x2 + 1)) (lv' := [(2, .int (x2 + 1)), (1, .int (x1 + 1)), (0, .ref (ad 0))]) hx hb dX0_setCount_23 hl (k := 2) rfl rfl (by decide) rfl (fun ls hl => ?_)
        refine lv_goto (tgt := 4) hx hb dX0_setCount_26 rfl ?_
        exact ih _ _ _ _ hw (lv_sub hl [2, 1, 0] rfl) h
set_option maxHeartbeats 4000000 in
set_option maxRecDepth 100000 in
theorem w_X0_setCount_0 (F : FX p m c cX0_setCount 3 s args yX0_setCount (some .int) RX0 meth) {z : Int32} : ∀ (u : OS) (ls : Array Slot), WD G A s (kw G ad u) s.heap [] → lv_has ls 3 [(0, .ref (ad 0))] → f_X0_setCount u = some z → W p l e rmX0_setCount s m args below meth c s.heap [] 0 0 (MQ below (QO (some (.int z))) args s 0 0 (fun _ => False)) (F0 m 0 ls []) := by
  obtain ⟨⟨hx, hb, hml, hown, hts⟩, hr, hlocks⟩ := id F
  intro u ls hw hl h
  unfold f_X0_setCount at h
  refine lv_iconst (v := 0) hx hb dX0_setCount_0 rfl ?_
  refine lv_istore_n (lv' := [(1, .int 0), (0, .ref (ad 0))]) hx hb dX0_setCount_1 rfl hl (by decide) rfl (fun ls hl => ?_)
  refine lv_iconst (v := 0) hx hb dX0_setCount_2 rfl ?_
  refine lv_istore_n (lv' := [(2, .int 0), (1, .int 0), (0, .ref (ad 0))]) hx hb dX0_setCount_3 rfl hl (by decide) rfl (fun ls hl => ?_)
  exact w_X0_setCount_4 F NF _ _ _ _ hw (lv_sub hl [2, 1, 0] rfl) h
end
theorem c_X0_setCount {l : Launch} {G : GX} {ad : Nat → Nat} {u : OS} {z : Int32} (h : f_X0_setCount u = some z) : MO l yX0_setCount cX0_setCount 3 (some .int) rmX0_setCount G (kw G ad u) [.ref (ad 0)] (some (.int z)) := MO.of (by decide) (Nat.le_of_ble_eq_true rfl) (fun p e s m below meth c ls F hw hl => w_X0_setCount_0 F  _ _ hw hl h)
/-! ===== X0_set ===== -/
theorem dX0_set_0 : decode cX0_set 0 = .ok (.aload_n 0, 1) := by decide +kernel
theorem dX0_set_1 : decode cX0_set 1 = .ok (.getfield 9, 3) := by decide +kernel
theorem dX0_set_4 : decode cX0_set 4 = .ok (.iload_n 1, 1) := by decide +kernel
theorem dX0_set_5 : decode cX0_set 5 = .ok (.iload_n 2, 1) := by decide +kernel
theorem dX0_set_6 : decode cX0_set 6 = .ok (.iastore, 1) := by decide +kernel
theorem dX0_set_7 : decode cX0_set 7 = .ok (.aload_n 0, 1) := by decide +kernel
theorem dX0_set_8 : decode cX0_set 8 = .ok (.getfield 15, 3) := by decide +kernel
theorem dX0_set_11 : decode cX0_set 11 = .ok (.iload_n 1, 1) := by decide +kernel
theorem dX0_set_12 : decode cX0_set 12 = .ok (.iload_n 3, 1) := by decide +kernel
theorem dX0_set_13 : decode cX0_set 13 = .ok (.iastore, 1) := by decide +kernel
theorem dX0_set_14 : decode cX0_set 14 = .ok (.aload_n 0, 1) := by decide +kernel
theorem dX0_set_15 : decode cX0_set 15 = .ok (.getfield 18, 3) := by decide +kernel
theorem dX0_set_18 : decode cX0_set 18 = .ok (.iload_n 1, 1) := by decide +kernel
theorem dX0_set_19 : decode cX0_set 19 = .ok (.iload 4, 2) := by decide +kernel
theorem dX0_set_21 : decode cX0_set 21 = .ok (.iastore, 1) := by decide +kernel
theorem dX0_set_22 : decode cX0_set 22 = .ok (.return_, 1) := by decide +kernel
theorem q_s1 {i : Int32} {x : Int32} {p : Program} {l : Launch} {e : Env} {R : Room} {s : State} {m : MethodId} {args : Array Value} {below : List Frame} {meth : Method} {c : Code} {H : Heap} {locs : List Loc} {cells slots : Nat} {Q : State → Prop} {G : GX} {A : Nat → Prop} {ad : Nat → Nat} {u : OS} {cc : ByteArray} {nL pc : Nat} {y : MethodName} {ret : Option FieldType} {ls : Array Slot} {rest : List Value} (F : FX p m c cc nL s args y ret RX0 meth) (hw : WD G A s (kw G ad u) H locs) (hi : ix i 20 = true) (hdg : decode cc pc = .ok (.iastore, 1)) (kk : ∀ (H : Heap) (locs : List Loc), WD G A s (kw G ad (oA u 1 i.toNatClampNeg x)) H locs → W p l e R s m args below meth c H locs cells slots Q (F0 m (pc + 1) ls (rest))) : W p l e R s m args below meth c H locs cells slots Q (F0 m pc ls (.int x :: .int i :: .ref (ad 1) :: rest)) := va_iast F.1.1 F.1.2.1 hw.1.1 hw.2.1 hw.2.2.1 hw.2.2.2 1 0 rfl rfl (ix_in hi) hdg (fun H1 l1 hP hD hS => kk H1 l1 ⟨hw.1, hP, hD, hS⟩)
theorem q_g0_1 {p : Program} {l : Launch} {e : Env} {R : Room} {s : State} {m : MethodId} {args : Array Value} {below : List Frame} {meth : Method} {c : Code} {H : Heap} {locs : List Loc} {cells slots : Nat} {Q : State → Prop} {G : GX} {A : Nat → Prop} {ad : Nat → Nat} {u : OS} {cc : ByteArray} {nL pc : Nat} {y : MethodName} {ret : Option FieldType} {ls : Array Slot} {rest : List Value} (F : FX p m c cc nL s args y ret RX0 meth) (hw : WD G A s (kw G ad u) H locs) (hdg : decode cc pc = .ok (.getfield 15, 3)) (kk : W p l e R s m args below meth c H locs cells slots Q (F0 m (pc + 3) ls (.ref (ad 2) :: rest))) : W p l e R s m args below meth c H locs cells slots Q (F0 m pc ls (.ref (ad 0) :: rest)) := va_get (D := G.1) (ci := 0) (C := RX0) (T := TX0) (N := 3) (Ts := lw_gt) F.1.1 F.1.2.1 (fun _ h => F.tb h) inX0 F.1.2.2.2.1 hw.1.1 hw.2.1 0 rfl rfl 1 (by decide) (F.tb (tw 55 (by decide +kernel) rfl)) (fun _ h9 => h9) rfl hdg kk
theorem q_s2 {i : Int32} {x : Int32} {p : Program} {l : Launch} {e : Env} {R : Room} {s : State} {m : MethodId} {args : Array Value} {below : List Frame} {meth : Method} {c : Code} {H : Heap} {locs : List Loc} {cells slots : Nat} {Q : State → Prop} {G : GX} {A : Nat → Prop} {ad : Nat → Nat} {u : OS} {cc : ByteArray} {nL pc : Nat} {y : MethodName} {ret : Option FieldType} {ls : Array Slot} {rest : List Value} (F : FX p m c cc nL s args y ret RX0 meth) (hw : WD G A s (kw G ad u) H locs) (hi : ix i 20 = true) (hdg : decode cc pc = .ok (.iastore, 1)) (kk : ∀ (H : Heap) (locs : List Loc), WD G A s (kw G ad (oA u 2 i.toNatClampNeg x)) H locs → W p l e R s m args below meth c H locs cells slots Q (F0 m (pc + 1) ls (rest))) : W p l e R s m args below meth c H locs cells slots Q (F0 m pc ls (.int x :: .int i :: .ref (ad 2) :: rest)) := va_iast F.1.1 F.1.2.1 hw.1.1 hw.2.1 hw.2.2.1 hw.2.2.2 2 0 rfl rfl (ix_in hi) hdg (fun H1 l1 hP hD hS => kk H1 l1 ⟨hw.1, hP, hD, hS⟩)
theorem q_g0_2 {p : Program} {l : Launch} {e : Env} {R : Room} {s : State} {m : MethodId} {args : Array Value} {below : List Frame} {meth : Method} {c : Code} {H : Heap} {locs : List Loc} {cells slots : Nat} {Q : State → Prop} {G : GX} {A : Nat → Prop} {ad : Nat → Nat} {u : OS} {cc : ByteArray} {nL pc : Nat} {y : MethodName} {ret : Option FieldType} {ls : Array Slot} {rest : List Value} (F : FX p m c cc nL s args y ret RX0 meth) (hw : WD G A s (kw G ad u) H locs) (hdg : decode cc pc = .ok (.getfield 18, 3)) (kk : W p l e R s m args below meth c H locs cells slots Q (F0 m (pc + 3) ls (.ref (ad 3) :: rest))) : W p l e R s m args below meth c H locs cells slots Q (F0 m pc ls (.ref (ad 0) :: rest)) := va_get (D := G.1) (ci := 0) (C := RX0) (T := TX0) (N := 3) (Ts := lw_gt) F.1.1 F.1.2.1 (fun _ h => F.tb h) inX0 F.1.2.2.2.1 hw.1.1 hw.2.1 0 rfl rfl 2 (by decide) (F.tb (tw 58 (by decide +kernel) rfl)) (fun _ h9 => h9) rfl hdg kk
theorem q_s3 {i : Int32} {x : Int32} {p : Program} {l : Launch} {e : Env} {R : Room} {s : State} {m : MethodId} {args : Array Value} {below : List Frame} {meth : Method} {c : Code} {H : Heap} {locs : List Loc} {cells slots : Nat} {Q : State → Prop} {G : GX} {A : Nat → Prop} {ad : Nat → Nat} {u : OS} {cc : ByteArray} {nL pc : Nat} {y : MethodName} {ret : Option FieldType} {ls : Array Slot} {rest : List Value} (F : FX p m c cc nL s args y ret RX0 meth) (hw : WD G A s (kw G ad u) H locs) (hi : ix i 20 = true) (hdg : decode cc pc = .ok (.iastore, 1)) (kk : ∀ (H : Heap) (locs : List Loc), WD G A s (kw G ad (oA u 3 i.toNatClampNeg x)) H locs → W p l e R s m args below meth c H locs cells slots Q (F0 m (pc + 1) ls (rest))) : W p l e R s m args below meth c H locs cells slots Q (F0 m pc ls (.int x :: .int i :: .ref (ad 3) :: rest)) := va_iast F.1.1 F.1.2.1 hw.1.1 hw.2.1 hw.2.2.1 hw.2.2.2 3 0 rfl rfl (ix_in hi) hdg (fun H1 l1 hP hD hS => kk H1 l1 ⟨hw.1, hP, hD, hS⟩)
def rmX0_set : Room := { frames := 0, cells := 0, slots := 0, locals := 0 }
noncomputable def f_X0_set (x1 : Int32) (x2 : Int32) (x3 : Int32) (x4 : Int32) (u : OS) : Option (OS) := (if ix x1 20 = true then (if ix x1 20 = true then (if ix x1 20 = true then some (oA (oA (oA u 1 (Int32.toNatClampNeg x1) x2) 2 (Int32.toNatClampNeg x1) x3) 3 (Int32.toNatClampNeg x1) x4) else none) else none) else none)
section
variable {p : Program} {l : Launch} {e : Env} {s : State} {m : MethodId} {args : Array Value} {below : List Frame} {meth : Method} {c : Code}
variable {G : GX} {A : Nat → Prop} {ad : Nat → Nat} 
set_option maxHeartbeats 4000000 in
set_option maxRecDepth 100000 in
theorem w_X0_set_0 (F : FX p m c cX0_set 5 s args yX0_set none RX0 meth) {z : OS} : ∀ (x1 : Int32) (x2 : Int32) (x3 : Int32) (x4 : Int32) (u : OS) (H : Heap) (locs : List Loc) (ls : Array Slot), WD G A s (kw G ad u) H locs → lv_has ls 5 [(0, .ref (ad 0)), (1, .int x1), (2, .int x2), (3, .int x3), (4, .int x4)] → f_X0_set x1 x2 x3 x4 u = some z → W p l e rmX0_set s m args below meth c H locs 0 0 (MQ below (QW G (kw G ad z) A none) args s 0 0 A) (F0 m 0 ls []) := by
  obtain ⟨⟨hx, hb, hml, hown, hts⟩, hr, hlocks⟩ := id F
  intro x1 x2 x3 x4 u H locs ls hw hl h
  unfold f_X0_set at h
  refine lv_aload_n hx hb dX0_set_0 rfl (lv_at hl 0 rfl) ?_
  refine q_g0_0 F hw dX0_set_1 ?_
  refine lv_iload_n hx hb dX0_set_4 rfl (lv_at hl 1 rfl) ?_
  refine lv_iload_n hx hb dX0_set_5 rfl (lv_at hl 2 rfl) ?_
  obtain ⟨g1, h⟩ := gd h
  refine q_s1 F hw g1 dX0_set_6 (fun H locs hw => ?_)
  refine lv_aload_n hx hb dX0_set_7 rfl (lv_at hl 0 rfl) ?_
  refine q_g0_1 F hw dX0_set_8 ?_
  refine lv_iload_n hx hb dX0_set_11 rfl (lv_at hl 1 rfl) ?_
  refine lv_iload_n hx hb dX0_set_12 rfl (lv_at hl 3 rfl) ?_
  obtain ⟨g2, h⟩ := gd h
  refine q_s2 F hw g2 dX0_set_13 (fun H locs hw => ?_)
  refine lv_aload_n hx hb dX0_set_14 rfl (lv_at hl 0 rfl) ?_
  refine q_g0_2 F hw dX0_set_15 ?_
  refine lv_iload_n hx hb dX0_set_18 rfl (lv_at hl 1 rfl) ?_
  refine lv_iload hx hb dX0_set_19 (lv_at hl 4 rfl) ?_
  obtain ⟨g3, h⟩ := gd h
  refine q_s3 F hw g3 dX0_set_21 (fun H locs hw => ?_)
  cases h
  exact retW_v F hw dX0_set_22
end
theorem c_X0_set {l : Launch} {G : GX} {ad : Nat → Nat} {x1 : Int32} {x2 : Int32} {x3 : Int32} {x4 : Int32} {u : OS} {z : OS} (h : f_X0_set x1 x2 x3 x4 u = some z) : MW l yX0_set cX0_set 5 none rmX0_set G (kw G ad u) (kw G ad z) [.ref (ad 0), .int x1, .int x2, .int x3, .int x4] none := MW.of (by decide) (Nat.le_of_ble_eq_true rfl) (fun p e s m below meth c ls F hw hl => w_X0_set_0 F _ _ _ _ _ _ _ _ hw hl h)
/-! ===== X0_follow ===== -/
theorem dX0_follow_0 : decode cX0_follow 0 = .ok (.iconst 0, 1) := by decide +kernel
theorem dX0_follow_1 : decode cX0_follow 1 = .ok (.istore 4, 2) := by decide +kernel
theorem dX0_follow_3 : decode cX0_follow 3 = .ok (.iload 4, 2) := by decide +kernel
theorem dX0_follow_5 : decode cX0_follow 5 = .ok (.bipush 20, 2) := by decide +kernel
theorem dX0_follow_7 : decode cX0_follow 7 = .ok (.if_icmp .ge 50, 3) := by decide +kernel
theorem dX0_follow_10 : decode cX0_follow 10 = .ok (.aload_n 0, 1) := by decide +kernel
theorem dX0_follow_11 : decode cX0_follow 11 = .ok (.getfield 9, 3) := by decide +kernel
theorem dX0_follow_14 : decode cX0_follow 14 = .ok (.iload 4, 2) := by decide +kernel
theorem dX0_follow_16 : decode cX0_follow 16 = .ok (.iaload, 1) := by decide +kernel
theorem dX0_follow_17 : decode cX0_follow 17 = .ok (.iload_n 1, 1) := by decide +kernel
theorem dX0_follow_18 : decode cX0_follow 18 = .ok (.if_icmp .ne 33, 3) := by decide +kernel
theorem dX0_follow_21 : decode cX0_follow 21 = .ok (.aload_n 0, 1) := by decide +kernel
theorem dX0_follow_22 : decode cX0_follow 22 = .ok (.getfield 15, 3) := by decide +kernel
theorem dX0_follow_25 : decode cX0_follow 25 = .ok (.iload 4, 2) := by decide +kernel
theorem dX0_follow_27 : decode cX0_follow 27 = .ok (.iaload, 1) := by decide +kernel
theorem dX0_follow_28 : decode cX0_follow 28 = .ok (.iload_n 2, 1) := by decide +kernel
theorem dX0_follow_29 : decode cX0_follow 29 = .ok (.if_icmp .ne 22, 3) := by decide +kernel
theorem dX0_follow_32 : decode cX0_follow 32 = .ok (.aload_n 0, 1) := by decide +kernel
theorem dX0_follow_33 : decode cX0_follow 33 = .ok (.getfield 18, 3) := by decide +kernel
theorem dX0_follow_36 : decode cX0_follow 36 = .ok (.iload 4, 2) := by decide +kernel
theorem dX0_follow_38 : decode cX0_follow 38 = .ok (.iaload, 1) := by decide +kernel
theorem dX0_follow_39 : decode cX0_follow 39 = .ok (.iconst 1, 1) := by decide +kernel
theorem dX0_follow_40 : decode cX0_follow 40 = .ok (.if_icmp .ne 11, 3) := by decide +kernel
theorem dX0_follow_43 : decode cX0_follow 43 = .ok (.aload_n 0, 1) := by decide +kernel
theorem dX0_follow_44 : decode cX0_follow 44 = .ok (.getfield 15, 3) := by decide +kernel
theorem dX0_follow_47 : decode cX0_follow 47 = .ok (.iload 4, 2) := by decide +kernel
theorem dX0_follow_49 : decode cX0_follow 49 = .ok (.iload_n 3, 1) := by decide +kernel
theorem dX0_follow_50 : decode cX0_follow 50 = .ok (.iastore, 1) := by decide +kernel
theorem dX0_follow_51 : decode cX0_follow 51 = .ok (.iinc 4 1, 3) := by decide +kernel
theorem dX0_follow_54 : decode cX0_follow 54 = .ok (.goto (-51), 3) := by decide +kernel
theorem dX0_follow_57 : decode cX0_follow 57 = .ok (.return_, 1) := by decide +kernel
theorem q_l2 {i : Int32} {p : Program} {l : Launch} {e : Env} {R : Room} {s : State} {m : MethodId} {args : Array Value} {below : List Frame} {meth : Method} {c : Code} {H : Heap} {locs : List Loc} {cells slots : Nat} {Q : State → Prop} {G : GX} {A : Nat → Prop} {ad : Nat → Nat} {u : OS} {cc : ByteArray} {nL pc : Nat} {y : MethodName} {ret : Option FieldType} {ls : Array Slot} {rest : List Value} (F : FX p m c cc nL s args y ret RX0 meth) (hw : WD G A s (kw G ad u) H locs) (hi : ix i 20 = true) (hdg : decode cc pc = .ok (.iaload, 1)) (kk : W p l e R s m args below meth c H locs cells slots Q (F0 m (pc + 1) ls (.int ((u 2) i.toNatClampNeg) :: rest))) : W p l e R s m args below meth c H locs cells slots Q (F0 m pc ls (.int i :: .ref (ad 2) :: rest)) := va_iald F.1.1 F.1.2.1 hw.1.1 hw.2.1 2 0 rfl rfl (ix_in hi) hdg kk
theorem q_l3 {i : Int32} {p : Program} {l : Launch} {e : Env} {R : Room} {s : State} {m : MethodId} {args : Array Value} {below : List Frame} {meth : Method} {c : Code} {H : Heap} {locs : List Loc} {cells slots : Nat} {Q : State → Prop} {G : GX} {A : Nat → Prop} {ad : Nat → Nat} {u : OS} {cc : ByteArray} {nL pc : Nat} {y : MethodName} {ret : Option FieldType} {ls : Array Slot} {rest : List Value} (F : FX p m c cc nL s args y ret RX0 meth) (hw : WD G A s (kw G ad u) H locs) (hi : ix i 20 = true) (hdg : decode cc pc = .ok (.iaload, 1)) (kk : W p l e R s m args below meth c H locs cells slots Q (F0 m (pc + 1) ls (.int ((u 3) i.toNatClampNeg) :: rest))) : W p l e R s m args below meth c H locs cells slots Q (F0 m pc ls (.int i :: .ref (ad 3) :: rest)) := va_iald F.1.1 F.1.2.1 hw.1.1 hw.2.1 3 0 rfl rfl (ix_in hi) hdg kk
def rmX0_follow : Room := { frames := 0, cells := 0, slots := 0, locals := 0 }
noncomputable def f_X0_follow_3 : Nat → Int32 → Int32 → Int32 → Int32 → OS → Option (OS)
  | 0, _, _, _, _, _ => none
  | n + 1, x1, x2, x3, x4, u => (if (20 : Int32) ≤ x4 then some u else (if ix x4 20 = true then (if ((u 1) (Int32.toNatClampNeg x4)) = x1 then (if ix x4 20 = true then (if ((u 2) (Int32.toNatClampNeg x4)) = x2 then (if ix x4 20 = true then (if ((u 3) (Int32.toNatClampNeg x4)) = (1 : Int32) then (if ix x4 20 = true then f_X0_follow_3 n x1 x2 x3 (x4 + 1) (oA u 2 (Int32.toNatClampNeg x4) x3) else none) else f_X0_follow_3 n x1 x2 x3 (x4 + 1) u) else none) else f_X0_follow_3 n x1 x2 x3 (x4 + 1) u) else none) else f_X0_follow_3 n x1 x2 x3 (x4 + 1) u) else none))
noncomputable def f_X0_follow (x1 : Int32) (x2 : Int32) (x3 : Int32) (u : OS) : Option (OS) := f_X0_follow_3 NF x1 x2 x3 0 u
section
variable {p : Program} {l : Launch} {e : Env} {s : State} {m : MethodId} {args : Array Value} {below : List Frame} {meth : Method} {c : Code}
variable {G : GX} {A : Nat → Prop} {ad : Nat → Nat} 
set_option maxHeartbeats 4000000 in
set_option maxRecDepth 100000 in
theorem w_X0_follow_3 (F : FX p m c cX0_follow 5 s args yX0_follow none RX0 meth) {z : OS} : ∀ (n : Nat) (x1 : Int32) (x2 : Int32) (x3 : Int32) (x4 : Int32) (u : OS) (H : Heap) (locs : List Loc) (ls : Array Slot), WD G A s (kw G ad u) H locs → lv_has ls 5 [(0, .ref (ad 0)), (1, .int x1), (2, .int x2), (3, .int x3), (4, .int x4)] → f_X0_follow_3 n x1 x2 x3 x4 u = some z → W p l e rmX0_follow s m args below meth c H locs 0 0 (MQ below (QW G (kw G ad z) A none) args s 0 0 A) (F0 m 3 ls []) := by
  obtain ⟨⟨hx, hb, hml, hown, hts⟩, hr, hlocks⟩ := id F
  intro n
  induction n with
  | zero =>
    intro x1 x2 x3 x4 u H locs ls hw hl h
    rw [f_X0_follow_3] at h
    cases h
  | succ n ih =>
    intro x1 x2 x3 x4 u H locs ls hw hl h
    rw [f_X0_follow_3] at h
    refine lv_iload hx hb dX0_follow_3 (lv_at hl 4 rfl) ?_
    refine lv_bipush (v := 20) hx hb dX0_follow_5 rfl ?_
    refine lv_icmp_ge (tgt := 57) hx hb dX0_follow_7 rfl (fun c1 => ?_) (fun c1 => ?_)
    · replace h := itT h c1
      cases h
      exact retW_v F hw dX0_follow_57
    · replace h := itF h c1
      refine lv_aload_n hx hb dX0_follow_10 rfl (lv_at hl 0 rfl) ?_
      refine q_g0_0 F hw dX0_follow_11 ?_
      refine lv_iload hx hb dX0_follow_14 (lv_at hl 4 rfl) ?_
      obtain ⟨g2, h⟩ := gd h
      refine q_l1 F hw g2 dX0_follow_16 ?_
      refine lv_iload_n hx hb dX0_follow_17 rfl (lv_at hl 1 rfl) ?_
      refine lv_icmp_ne (tgt := 51) hx hb dX0_follow_18 rfl (fun c3 => ?_) (fun c3 => ?_)
      · replace h := itF h c3
        refine lv_iinc (v := (x4 + 1)) (lv' := [(4, .int (x4 + 1)), (0, .ref (ad 0)), (1, .int x1), (2, .int x2), (3, .int x3)]) hx hb dX0_follow_51 hl (k := 4) rfl rfl (by decide) rfl (fun ls hl => ?_)
        refine lv_goto (tgt := 3) hx hb dX0_follow_54 rfl ?_
        exact ih _ _ _ _ _ _ _ _ hw (lv_sub hl [1, 2, 3, 4, 0] rfl) h
      · replace h := itT h c3
        refine lv_aload_n hx hb dX0_follow_21 rfl (lv_at hl 0 rfl) ?_
        refine q_g0_1 F hw dX0_follow_22 ?_
        refine lv_iload hx hb dX0_follow_25 (lv_at hl 4 rfl) ?_
        obtain ⟨g4, h⟩ := gd h
        refine q_l2 F hw g4 dX0_follow_27 ?_
        refine lv_iload_n hx hb dX0_follow_28 rfl (lv_at hl 2 rfl) ?_
        refine lv_icmp_ne (tgt := 51) hx hb dX0_follow_29 rfl (fun c5 => ?_) (fun c5 => ?_)
        · replace h := itF h c5
          refine lv_iinc (v := (x4 + 1)) (lv' := [(4, .int (x4 + 1)), (0, .ref (ad 0)), (1, .int x1), (2, .int x2), (3, .int x3)]) hx hb dX0_follow_51 hl (k := 4) rfl rfl (by decide) rfl (fun ls hl => ?_)
          refine lv_goto (tgt := 3) hx hb dX0_follow_54 rfl ?_
          exact ih _ _ _ _ _ _ _ _ hw (lv_sub hl [1, 2, 3, 4, 0] rfl) h
        · replace h := itT h c5
          refine lv_aload_n hx hb dX0_follow_32 rfl (lv_at hl 0 rfl) ?_
          refine q_g0_2 F hw dX0_follow_33 ?_
          refine lv_iload hx hb dX0_follow_36 (lv_at hl 4 rfl) ?_
          obtain ⟨g6, h⟩ := gd h
          refine q_l3 F hw g6 dX0_follow_38 ?_
          refine lv_iconst (v := 1) hx hb dX0_follow_39 rfl ?_
          refine lv_icmp_ne (tgt := 51) hx hb dX0_follow_40 rfl (fun c7 => ?_) (fun c7 => ?_)
          · replace h := itF h c7
            refine lv_iinc (v := (x4 + 1)) (lv' := [(4, .int (x4 + 1)), (0, .ref (ad 0)), (1, .int x1), (2, .int x2), (3, .int x3)]) hx hb dX0_follow_51 hl (k := 4) rfl rfl (by decide) rfl (fun ls hl => ?_)
            refine lv_goto (tgt := 3) hx hb dX0_follow_54 rfl ?_
            exact ih _ _ _ _ _ _ _ _ hw (lv_sub hl [1, 2, 3, 4, 0] rfl) h
          · replace h := itT h c7
            refine lv_aload_n hx hb dX0_follow_43 rfl (lv_at hl 0 rfl) ?_
            refine q_g0_1 F hw dX0_follow_44 ?_
            refine lv_iload hx hb dX0_follow_47 (lv_at hl 4 rfl) ?_
            refine lv_iload_n hx hb dX0_follow_49 rfl (lv_at hl 3 rfl) ?_
            obtain ⟨g8, h⟩ := gd h
            refine q_s2 F hw g8 dX0_follow_50 (fun H locs hw => ?_)
            refine lv_iinc (v := (x4 + 1)) (lv' := [(4, .int (x4 + 1)), (0, .ref (ad 0)), (1, .int x1), (2, .int x2), (3, .int x3)]) hx hb dX0_follow_51 hl (k := 4) rfl rfl (by decide) rfl (fun ls hl => ?_)
            refine lv_goto (tgt := 3) hx hb dX0_follow_54 rfl ?_
            exact ih _ _ _ _ _ _ _ _ hw (lv_sub hl [1, 2, 3, 4, 0] rfl) h
set_option maxHeartbeats 4000000 in
set_option maxRecDepth 100000 in
theorem w_X0_follow_0 (F : FX p m c cX0_follow 5 s args yX0_follow none RX0 meth) {z : OS} : ∀ (x1 : Int32) (x2 : Int32) (x3 : Int32) (u : OS) (H : Heap) (locs : List Loc) (ls : Array Slot), WD G A s (kw G ad u) H locs → lv_has ls 5 [(0, .ref (ad 0)), (1, .int x1), (2, .int x2), (3, .int x3)] → f_X0_follow x1 x2 x3 u = some z → W p l e rmX0_follow s m args below meth c H locs 0 0 (MQ below (QW G (kw G ad z) A none) args s 0 0 A) (F0 m 0 ls []) := by
  obtain ⟨⟨hx, hb, hml, hown, hts⟩, hr, hlocks⟩ := id F
  intro x1 x2 x3 u H locs ls hw hl h
  unfold f_X0_follow at h
  refine lv_iconst (v := 0) hx hb dX0_follow_0 rfl ?_
  refine lv_istore (lv' := [(4, .int 0), (0, .ref (ad 0)), (1, .int x1), (2, .int x2), (3, .int x3)]) hx hb dX0_follow_1 hl (by decide) rfl (fun ls hl => ?_)
  exact w_X0_follow_3 F NF _ _ _ _ _ _ _ _ hw (lv_sub hl [1, 2, 3, 4, 0] rfl) h
end
theorem c_X0_follow {l : Launch} {G : GX} {ad : Nat → Nat} {x1 : Int32} {x2 : Int32} {x3 : Int32} {u : OS} {z : OS} (h : f_X0_follow x1 x2 x3 u = some z) : MW l yX0_follow cX0_follow 5 none rmX0_follow G (kw G ad u) (kw G ad z) [.ref (ad 0), .int x1, .int x2, .int x3] none := MW.of (by decide) (Nat.le_of_ble_eq_true rfl) (fun p e s m below meth c ls F hw hl => w_X0_follow_0 F _ _ _ _ _ _ _ hw hl h)
