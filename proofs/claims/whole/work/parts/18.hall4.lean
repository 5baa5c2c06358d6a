/-! ===== X3_inner ===== -/
theorem dX3_inner_0 : decode cX3_inner 0 = .ok (.aload_n 0, 1) := by decide +kernel
theorem dX3_inner_1 : decode cX3_inner 1 = .ok (.iload_n 1, 1) := by decide +kernel
theorem dX3_inner_2 : decode cX3_inner 2 = .ok (.iload_n 2, 1) := by decide +kernel
theorem dX3_inner_3 : decode cX3_inner 3 = .ok (.invokevirtual 118, 3) := by decide +kernel
theorem dX3_inner_6 : decode cX3_inner 6 = .ok (.ifCond .ne 6, 3) := by decide +kernel
theorem dX3_inner_9 : decode cX3_inner 9 = .ok (.bipush (-3), 2) := by decide +kernel
theorem dX3_inner_11 : decode cX3_inner 11 = .ok (.ireturn, 1) := by decide +kernel
theorem dX3_inner_12 : decode cX3_inner 12 = .ok (.aload_n 0, 1) := by decide +kernel
theorem dX3_inner_13 : decode cX3_inner 13 = .ok (.getfield 20, 3) := by decide +kernel
theorem dX3_inner_16 : decode cX3_inner 16 = .ok (.aload_n 0, 1) := by decide +kernel
theorem dX3_inner_17 : decode cX3_inner 17 = .ok (.getfield 20, 3) := by decide +kernel
theorem dX3_inner_20 : decode cX3_inner 20 = .ok (.getfield 69, 3) := by decide +kernel
theorem dX3_inner_23 : decode cX3_inner 23 = .ok (.iload_n 1, 1) := by decide +kernel
theorem dX3_inner_24 : decode cX3_inner 24 = .ok (.invokevirtual 73, 3) := by decide +kernel
theorem dX3_inner_27 : decode cX3_inner 27 = .ok (.invokevirtual 128, 3) := by decide +kernel
theorem dX3_inner_30 : decode cX3_inner 30 = .ok (.ifCond .eq 19, 3) := by decide +kernel
theorem dX3_inner_33 : decode cX3_inner 33 = .ok (.aload_n 0, 1) := by decide +kernel
theorem dX3_inner_34 : decode cX3_inner 34 = .ok (.getfield 20, 3) := by decide +kernel
theorem dX3_inner_37 : decode cX3_inner 37 = .ok (.getfield 131, 3) := by decide +kernel
theorem dX3_inner_40 : decode cX3_inner 40 = .ok (.iload_n 1, 1) := by decide +kernel
theorem dX3_inner_41 : decode cX3_inner 41 = .ok (.iload_n 2, 1) := by decide +kernel
theorem dX3_inner_42 : decode cX3_inner 42 = .ok (.invokestatic 58, 3) := by decide +kernel
theorem dX3_inner_45 : decode cX3_inner 45 = .ok (.iaload, 1) := by decide +kernel
theorem dX3_inner_46 : decode cX3_inner 46 = .ok (.goto 4, 3) := by decide +kernel
theorem dX3_inner_49 : decode cX3_inner 49 = .ok (.iconst (-1), 1) := by decide +kernel
theorem dX3_inner_50 : decode cX3_inner 50 = .ok (.ireturn, 1) := by decide +kernel
theorem yv_X2_hasBlocks_X3 : YV RX3 128 yX2_hasBlocks cX2_hasBlocks 2 (some .boolean) 1 := ⟨(tw 240 (by decide +kernel) rfl), (tw 2 (by decide +kernel) rfl), (tw 387 (by decide +kernel) rfl), (tw 238 (by decide +kernel) rfl), (tw 239 (by decide +kernel) rfl), by decide +kernel⟩
theorem k_X2_hasBlocks_h_ {p : Program} {l : Launch} {e : Env} {R : Room} {s : State} {m : MethodId} {args : Array Value} {below : List Frame} {meth : Method} {c : Code} {H : Heap} {locs : List Loc} {cells slots : Nat} {Q : State → Prop} {G : GX} {A : Nat → Prop} {ad : Nat → Nat} {u : HS} {cc : ByteArray} {nL pc : Nat} {y : MethodName} {ret : Option FieldType} {ls : Array Slot} {rest : List Value} {x1 : Int32} {z : Int32} (F : FX p m c cc nL s args y ret RX3 meth) (hw : WD G A s (hw_ G ad u) H locs) (h : f_X2_hasBlocks x1 u.2.2.2.2.1 = some z) (hR : rmX2_hasBlocks.frames + 1 ≤ R.frames ∧ 8 + (2 + 11) + rmX2_hasBlocks.locals ≤ R.locals) (hcs : cells ≤ R.cells ∧ slots ≤ R.slots) (hsz : ls.size = nL) (hW : (rest.map fun v => v.category).sum ≤ 8) (hdg : decode cc pc = .ok (.invokevirtual 128, 3)) (kk : W p l e R s m args below meth c H locs cells slots Q (F0 m (pc + 3) ls (.int z :: rest))) : W p l e R s m args below meth c H locs cells slots Q (F0 m pc ls (.int x1 :: .ref (u.1 0) :: rest)) := callO (runV F yv_X2_hasBlocks_X3 (c_X2_hasBlocks h (ad := u.1)) hw.1 (hw.2.1.sub [3, 4, 5, 6, 7, 8, 9, 10, 11, 12, 13, 14, 15, 16] rfl) (hw.2.2.1.sub [3, 4, 5, 6, 7, 8, 9, 10, 11, 12, 13, 14, 15, 16] (by decide) rfl) rfl rfl rfl ⟨rfl, rfl⟩ hR hcs rfl hsz rfl hW hdg) kk
theorem h_g3_6 {p : Program} {l : Launch} {e : Env} {R : Room} {s : State} {m : MethodId} {args : Array Value} {below : List Frame} {meth : Method} {c : Code} {H : Heap} {locs : List Loc} {cells slots : Nat} {Q : State → Prop} {G : GX} {A : Nat → Prop} {ad : Nat → Nat} {u : HS} {cc : ByteArray} {nL pc : Nat} {y : MethodName} {ret : Option FieldType} {ls : Array Slot} {rest : List Value} (F : FX p m c cc nL s args y ret RX3 meth) (hw : WD G A s (hw_ G ad u) H locs) (hdg : decode cc pc = .ok (.getfield 131, 3)) (kk : W p l e R s m args below meth c H locs cells slots Q (F0 m (pc + 3) ls (.ref (u.1 13) :: rest))) : W p l e R s m args below meth c H locs cells slots Q (F0 m pc ls (.ref (u.1 0) :: rest)) := va_get (D := G.1) (ci := 2) (C := RX2) (T := TX2) (N := 8) (Ts := lw_gt) F.1.1 F.1.2.1 (fun _ h => F.tb h) inX2 F.1.2.2.2.1 hw.1.1 hw.2.1 3 rfl rfl 6 (by decide) (F.tb (tw 80 (by decide +kernel) rfl)) (fun _ h9 => h9) rfl hdg kk
theorem h_l16 {i : Int32} {p : Program} {l : Launch} {e : Env} {R : Room} {s : State} {m : MethodId} {args : Array Value} {below : List Frame} {meth : Method} {c : Code} {H : Heap} {locs : List Loc} {cells slots : Nat} {Q : State → Prop} {G : GX} {A : Nat → Prop} {ad : Nat → Nat} {u : HS} {cc : ByteArray} {nL pc : Nat} {y : MethodName} {ret : Option FieldType} {ls : Array Slot} {rest : List Value} (F : FX p m c cc nL s args y ret RX3 meth) (hw : WD G A s (hw_ G ad u) H locs) (hi : ix i 600 = true) (hdg : decode cc pc = .ok (.iaload, 1)) (kk : W p l e R s m args below meth c H locs cells slots Q (F0 m (pc + 1) ls (.int ((u.2.2.2.2.1.2.2.1 6) i.toNatClampNeg) :: rest))) : W p l e R s m args below meth c H locs cells slots Q (F0 m pc ls (.int i :: .ref (u.1 13) :: rest)) := va_iald F.1.1 F.1.2.1 hw.1.1 hw.2.1 16 0 rfl rfl (ix_in hi) hdg kk
def rmX3_inner : Room := { frames := 3, cells := 0, slots := 0, locals := 65 }
noncomputable def f_X3_inner (x1 : Int32) (x2 : Int32) (u : HS) : Option (Int32) := (f_X3_hasStand x1 x2 u).bind (fun z1 => (if z1 = 0 then some (-3) else (f_X1_rowOfThing x1 u.2.2.2.2.1.1).bind (fun z4 => (f_X2_hasBlocks z4 u.2.2.2.2.1).bind (fun z6 => (if z6 = 0 then some (-1) else (f_X3_standOf x1 x2).bind (fun z9 => (if ix z9 600 = true then some ((u.2.2.2.2.1.2.2.1 6) (Int32.toNatClampNeg z9)) else none)))))))
section
variable {p : Program} {l : Launch} {e : Env} {s : State} {m : MethodId} {args : Array Value} {below : List Frame} {meth : Method} {c : Code}
variable {G : GX} {A : Nat → Prop} {ad : Nat → Nat} 
set_option maxHeartbeats 4000000 in
set_option maxRecDepth 100000 in
theorem w_X3_inner_0 (F : FX p m c cX3_inner 3 s args yX3_inner (some .int) RX3 meth) {z : Int32} : ∀ (x1 : Int32) (x2 : Int32) (u : HS) (ls : Array Slot), WD G A s (hw_ G ad u) s.heap [] → lv_has ls 3 [(0, .ref (ad 0)), (1, .int x1), (2, .int x2)] → f_X3_inner x1 x2 u = some z → W p l e rmX3_inner s m args below meth c s.heap [] 0 0 (MQ below (QO (some (.int z))) args s 0 0 (fun _ => False)) (F0 m 0 ls []) := by
  obtain ⟨⟨hx, hb, hml, hown, hts⟩, hr, hlocks⟩ := id F
  intro x1 x2 u ls hw hl h
  unfold f_X3_inner at h
  refine lv_aload_n hx hb dX3_inner_0 rfl (lv_at hl 0 rfl) ?_
  refine lv_iload_n hx hb dX3_inner_1 rfl (lv_at hl 1 rfl) ?_
  refine lv_iload_n hx hb dX3_inner_2 rfl (lv_at hl 2 rfl) ?_
  obtain ⟨z1, e2, h⟩ := bnd h
  refine k_X3_hasStand_h_ F hw e2 ⟨Nat.le_of_ble_eq_true rfl, Nat.le_of_ble_eq_true rfl⟩ ⟨Nat.zero_le _, Nat.zero_le _⟩ hl.1 (Nat.le_of_ble_eq_true rfl) dX3_inner_3 ?_
  refine lv_if_ne (tgt := 12) hx hb dX3_inner_6 rfl (fun c3 => ?_) (fun c3 => ?_)
  · replace h := itF h c3
    refine lv_aload_n hx hb dX3_inner_12 rfl (lv_at hl 0 rfl) ?_
    refine h_g0_2 F hw dX3_inner_13 ?_
    refine lv_aload_n hx hb dX3_inner_16 rfl (lv_at hl 0 rfl) ?_
    refine h_g0_2 F hw dX3_inner_17 ?_
    refine h_g3_0 F hw dX3_inner_20 ?_
    refine lv_iload_n hx hb dX3_inner_23 rfl (lv_at hl 1 rfl) ?_
    obtain ⟨z4, e5, h⟩ := bnd h
    refine k_X1_rowOfThing_h_ F hw e5 ⟨Nat.le_of_ble_eq_true rfl, Nat.le_of_ble_eq_true rfl⟩ ⟨Nat.zero_le _, Nat.zero_le _⟩ hl.1 (Nat.le_of_ble_eq_true rfl) dX3_inner_24 ?_
    obtain ⟨z6, e7, h⟩ := bnd h
    refine k_X2_hasBlocks_h_ F hw e7 ⟨Nat.le_of_ble_eq_true rfl, Nat.le_of_ble_eq_true rfl⟩ ⟨Nat.zero_le _, Nat.zero_le _⟩ hl.1 (Nat.le_of_ble_eq_true rfl) dX3_inner_27 ?_
    refine lv_if_eq (tgt := 49) hx hb dX3_inner_30 rfl (fun c8 => ?_) (fun c8 => ?_)
    · replace h := itT h c8
      refine lv_iconst (v := (-1)) hx hb dX3_inner_49 rfl ?_
      cases h
      exact retO_i F dX3_inner_50
    · replace h := itF h c8
      refine lv_aload_n hx hb dX3_inner_33 rfl (lv_at hl 0 rfl) ?_
      refine h_g0_2 F hw dX3_inner_34 ?_
      refine h_g3_6 F hw dX3_inner_37 ?_
      refine lv_iload_n hx hb dX3_inner_40 rfl (lv_at hl 1 rfl) ?_
      refine lv_iload_n hx hb dX3_inner_41 rfl (lv_at hl 2 rfl) ?_
      obtain ⟨z9, e10, h⟩ := bnd h
      refine k_X3_standOf_h_ F hw e10 ⟨Nat.le_of_ble_eq_true rfl, Nat.le_of_ble_eq_true rfl⟩ ⟨Nat.zero_le _, Nat.zero_le _⟩ hl.1 (Nat.le_of_ble_eq_true rfl) dX3_inner_42 ?_
      obtain ⟨g11, h⟩ := gd h
      refine h_l16 F hw g11 dX3_inner_45 ?_
      refine lv_goto (tgt := 50) hx hb dX3_inner_46 rfl ?_
      cases h
      exact retO_i F dX3_inner_50
  · replace h := itT h c3
    refine lv_bipush (v := (-3)) hx hb dX3_inner_9 rfl ?_
    cases h
    exact retO_i F dX3_inner_11
end
theorem c_X3_inner {l : Launch} {G : GX} {ad : Nat → Nat} {x1 : Int32} {x2 : Int32} {u : HS} {z : Int32} (h : f_X3_inner x1 x2 u = some z) : MO l yX3_inner cX3_inner 3 (some .int) rmX3_inner G (hw_ G ad u) [.ref (ad 0), .int x1, .int x2] (some (.int z)) := MO.of (by decide) (Nat.le_of_ble_eq_true rfl) (fun p e s m below meth c ls F hw hl => w_X3_inner_0 F _ _ _ _ hw hl h)
/-! ===== X3_near ===== -/
theorem dX3_near_0 : decode cX3_near 0 = .ok (.aload_n 0, 1) := by decide +kernel
theorem dX3_near_1 : decode cX3_near 1 = .ok (.iload_n 1, 1) := by decide +kernel
theorem dX3_near_2 : decode cX3_near 2 = .ok (.invokevirtual 66, 3) := by decide +kernel
theorem dX3_near_5 : decode cX3_near 5 = .ok (.ifCond .ne 6, 3) := by decide +kernel
theorem dX3_near_8 : decode cX3_near 8 = .ok (.bipush (-3), 2) := by decide +kernel
theorem dX3_near_10 : decode cX3_near 10 = .ok (.ireturn, 1) := by decide +kernel
theorem dX3_near_11 : decode cX3_near 11 = .ok (.iload_n 2, 1) := by decide +kernel
theorem dX3_near_12 : decode cX3_near 12 = .ok (.tableswitch 71 0 3 #[32, 42, 52, 62], 32) := by decide +kernel
theorem dX3_near_44 : decode cX3_near 44 = .ok (.aload_n 0, 1) := by decide +kernel
theorem dX3_near_45 : decode cX3_near 45 = .ok (.getfield 20, 3) := by decide +kernel
theorem dX3_near_48 : decode cX3_near 48 = .ok (.iload_n 1, 1) := by decide +kernel
theorem dX3_near_49 : decode cX3_near 49 = .ok (.iconst (-1), 1) := by decide +kernel
theorem dX3_near_50 : decode cX3_near 50 = .ok (.invokevirtual 134, 3) := by decide +kernel
theorem dX3_near_53 : decode cX3_near 53 = .ok (.ireturn, 1) := by decide +kernel
theorem dX3_near_54 : decode cX3_near 54 = .ok (.aload_n 0, 1) := by decide +kernel
theorem dX3_near_55 : decode cX3_near 55 = .ok (.getfield 20, 3) := by decide +kernel
theorem dX3_near_58 : decode cX3_near 58 = .ok (.iload_n 1, 1) := by decide +kernel
theorem dX3_near_59 : decode cX3_near 59 = .ok (.iconst 1, 1) := by decide +kernel
theorem dX3_near_60 : decode cX3_near 60 = .ok (.invokevirtual 134, 3) := by decide +kernel
theorem dX3_near_63 : decode cX3_near 63 = .ok (.ireturn, 1) := by decide +kernel
theorem dX3_near_64 : decode cX3_near 64 = .ok (.aload_n 0, 1) := by decide +kernel
theorem dX3_near_65 : decode cX3_near 65 = .ok (.getfield 20, 3) := by decide +kernel
theorem dX3_near_68 : decode cX3_near 68 = .ok (.iload_n 1, 1) := by decide +kernel
theorem dX3_near_69 : decode cX3_near 69 = .ok (.iload_n 1, 1) := by decide +kernel
theorem dX3_near_70 : decode cX3_near 70 = .ok (.invokevirtual 109, 3) := by decide +kernel
theorem dX3_near_73 : decode cX3_near 73 = .ok (.ireturn, 1) := by decide +kernel
theorem dX3_near_74 : decode cX3_near 74 = .ok (.aload_n 0, 1) := by decide +kernel
theorem dX3_near_75 : decode cX3_near 75 = .ok (.getfield 20, 3) := by decide +kernel
theorem dX3_near_78 : decode cX3_near 78 = .ok (.iload_n 1, 1) := by decide +kernel
theorem dX3_near_79 : decode cX3_near 79 = .ok (.invokevirtual 137, 3) := by decide +kernel
theorem dX3_near_82 : decode cX3_near 82 = .ok (.ireturn, 1) := by decide +kernel
theorem dX3_near_83 : decode cX3_near 83 = .ok (.bipush (-3), 2) := by decide +kernel
theorem dX3_near_85 : decode cX3_near 85 = .ok (.ireturn, 1) := by decide +kernel
theorem yv_X2_neighbour_X3 : YV RX3 134 yX2_neighbour cX2_neighbour 3 (some .int) 2 := ⟨(tw 395 (by decide +kernel) rfl), (tw 2 (by decide +kernel) rfl), (tw 392 (by decide +kernel) rfl), (tw 393 (by decide +kernel) rfl), (tw 394 (by decide +kernel) rfl), by decide +kernel⟩
theorem k_X2_neighbour_h_ {p : Program} {l : Launch} {e : Env} {R : Room} {s : State} {m : MethodId} {args : Array Value} {below : List Frame} {meth : Method} {c : Code} {H : Heap} {locs : List Loc} {cells slots : Nat} {Q : State → Prop} {G : GX} {A : Nat → Prop} {ad : Nat → Nat} {u : HS} {cc : ByteArray} {nL pc : Nat} {y : MethodName} {ret : Option FieldType} {ls : Array Slot} {rest : List Value} {x1 : Int32} {x2 : Int32} {z : Int32} (F : FX p m c cc nL s args y ret RX3 meth) (hw : WD G A s (hw_ G ad u) H locs) (h : f_X2_neighbour x1 x2 u.2.2.2.2.1 = some z) (hR : rmX2_neighbour.frames + 1 ≤ R.frames ∧ 8 + (3 + 11) + rmX2_neighbour.locals ≤ R.locals) (hcs : cells ≤ R.cells ∧ slots ≤ R.slots) (hsz : ls.size = nL) (hW : (rest.map fun v => v.category).sum ≤ 8) (hdg : decode cc pc = .ok (.invokevirtual 134, 3)) (kk : W p l e R s m args below meth c H locs cells slots Q (F0 m (pc + 3) ls (.int z :: rest))) : W p l e R s m args below meth c H locs cells slots Q (F0 m pc ls (.int x2 :: .int x1 :: .ref (u.1 0) :: rest)) := callO (runV F yv_X2_neighbour_X3 (c_X2_neighbour h (ad := u.1)) hw.1 (hw.2.1.sub [3, 4, 5, 6, 7, 8, 9, 10, 11, 12, 13, 14, 15, 16] rfl) (hw.2.2.1.sub [3, 4, 5, 6, 7, 8, 9, 10, 11, 12, 13, 14, 15, 16] (by decide) rfl) rfl rfl rfl ⟨rfl, rfl⟩ hR hcs rfl hsz rfl hW hdg) kk
theorem yv_X2_firstWithin_X3 : YV RX3 137 yX2_firstWithin cX2_firstWithin 3 (some .int) 1 := ⟨(tw 408 (by decide +kernel) rfl), (tw 2 (by decide +kernel) rfl), (tw 405 (by decide +kernel) rfl), (tw 406 (by decide +kernel) rfl), (tw 407 (by decide +kernel) rfl), by decide +kernel⟩
theorem k_X2_firstWithin_h_ {p : Program} {l : Launch} {e : Env} {R : Room} {s : State} {m : MethodId} {args : Array Value} {below : List Frame} {meth : Method} {c : Code} {H : Heap} {locs : List Loc} {cells slots : Nat} {Q : State → Prop} {G : GX} {A : Nat → Prop} {ad : Nat → Nat} {u : HS} {cc : ByteArray} {nL pc : Nat} {y : MethodName} {ret : Option FieldType} {ls : Array Slot} {rest : List Value} {x1 : Int32} {z : Int32} (F : FX p m c cc nL s args y ret RX3 meth) (hw : WD G A s (hw_ G ad u) H locs) (h : f_X2_firstWithin x1 u.2.2.2.2.1 = some z) (hR : rmX2_firstWithin.frames + 1 ≤ R.frames ∧ 8 + (3 + 11) + rmX2_firstWithin.locals ≤ R.locals) (hcs : cells ≤ R.cells ∧ slots ≤ R.slots) (hsz : ls.size = nL) (hW : (rest.map fun v => v.category).sum ≤ 8) (hdg : decode cc pc = .ok (.invokevirtual 137, 3)) (kk : W p l e R s m args below meth c H locs cells slots Q (F0 m (pc + 3) ls (.int z :: rest))) : W p l e R s m args below meth c H locs cells slots Q (F0 m pc ls (.int x1 :: .ref (u.1 0) :: rest)) := callO (runV F yv_X2_firstWithin_X3 (c_X2_firstWithin h (ad := u.1)) hw.1 (hw.2.1.sub [3, 4, 5, 6, 7, 8, 9, 10, 11, 12, 13, 14, 15, 16] rfl) (hw.2.2.1.sub [3, 4, 5, 6, 7, 8, 9, 10, 11, 12, 13, 14, 15, 16] (by decide) rfl) rfl rfl rfl ⟨rfl, rfl⟩ hR hcs rfl hsz rfl hW hdg) kk
def rmX3_near : Room := { frames := 6, cells := 0, slots := 0, locals := 134 }
noncomputable def f_X3_near (x1 : Int32) (x2 : Int32) (u : HS) : Option (Int32) := (f_X3_isStanding x1 u).bind (fun z1 => (if z1 = 0 then some (-3) else (if x2 = 0 then (f_X2_neighbour x1 (-1) u.2.2.2.2.1).bind (fun z5 => some z5) else (if x2 = 1 then (f_X2_neighbour x1 1 u.2.2.2.2.1).bind (fun z8 => some z8) else (if x2 = 2 then (f_X2_innermost x1 x1 u.2.2.2.2.1).bind (fun z11 => some z11) else (if x2 = 3 then (f_X2_firstWithin x1 u.2.2.2.2.1).bind (fun z14 => some z14) else some (-3)))))))
section
variable {p : Program} {l : Launch} {e : Env} {s : State} {m : MethodId} {args : Array Value} {below : List Frame} {meth : Method} {c : Code}
variable {G : GX} {A : Nat → Prop} {ad : Nat → Nat} 
set_option maxHeartbeats 4000000 in
set_option maxRecDepth 100000 in
theorem w_X3_near_0 (F : FX p m c cX3_near 3 s args yX3_near (some .int) RX3 meth) {z : Int32} : ∀ (x1 : Int32) (x2 : Int32) (u : HS) (ls : Array Slot), WD G A s (hw_ G ad u) s.heap [] → lv_has ls 3 [(0, .ref (ad 0)), (1, .int x1), (2, .int x2)] → f_X3_near x1 x2 u = some z → W p l e rmX3_near s m args below meth c s.heap [] 0 0 (MQ below (QO (some (.int z))) args s 0 0 (fun _ => False)) (F0 m 0 ls []) := by
  obtain ⟨⟨hx, hb, hml, hown, hts⟩, hr, hlocks⟩ := id F
  intro x1 x2 u ls hw hl h
  unfold f_X3_near at h
  refine lv_aload_n hx hb dX3_near_0 rfl (lv_at hl 0 rfl) ?_
  refine lv_iload_n hx hb dX3_near_1 rfl (lv_at hl 1 rfl) ?_
  obtain ⟨z1, e2, h⟩ := bnd h
  refine k_X3_isStanding_h_ F hw e2 ⟨Nat.le_of_ble_eq_true rfl, Nat.le_of_ble_eq_true rfl⟩ ⟨Nat.zero_le _, Nat.zero_le _⟩ hl.1 (Nat.le_of_ble_eq_true rfl) dX3_near_2 ?_
  refine lv_if_ne (tgt := 11) hx hb dX3_near_5 rfl (fun c3 => ?_) (fun c3 => ?_)
  · replace h := itF h c3
    refine lv_iload_n hx hb dX3_near_11 rfl (lv_at hl 2 rfl) ?_
    by_cases c4 : x2 = 0
    · replace h := itT h c4
      refine lv_tableIn (tgt := 44) hx hb dX3_near_12 (by rw [c4]; decide) (by rw [c4]; decide) (by rw [c4]; rfl) rfl ?_
      refine lv_aload_n hx hb dX3_near_44 rfl (lv_at hl 0 rfl) ?_
      refine h_g0_2 F hw dX3_near_45 ?_
      refine lv_iload_n hx hb dX3_near_48 rfl (lv_at hl 1 rfl) ?_
      refine lv_iconst (v := (-1)) hx hb dX3_near_49 rfl ?_
      obtain ⟨z5, e6, h⟩ := bnd h
      refine k_X2_neighbour_h_ F hw e6 ⟨Nat.le_of_ble_eq_true rfl, Nat.le_of_ble_eq_true rfl⟩ ⟨Nat.zero_le _, Nat.zero_le _⟩ hl.1 (Nat.le_of_ble_eq_true rfl) dX3_near_50 ?_
      cases h
      exact retO_i F dX3_near_53
    replace h := itF h c4
    by_cases c7 : x2 = 1
    · replace h := itT h c7
      refine lv_tableIn (tgt := 54) hx hb dX3_near_12 (by rw [c7]; decide) (by rw [c7]; decide) (by rw [c7]; rfl) rfl ?_
      refine lv_aload_n hx hb dX3_near_54 rfl (lv_at hl 0 rfl) ?_
      refine h_g0_2 F hw dX3_near_55 ?_
      refine lv_iload_n hx hb dX3_near_58 rfl (lv_at hl 1 rfl) ?_
      refine lv_iconst (v := 1) hx hb dX3_near_59 rfl ?_
      obtain ⟨z8, e9, h⟩ := bnd h
      refine k_X2_neighbour_h_ F hw e9 ⟨Nat.le_of_ble_eq_true rfl, Nat.le_of_ble_eq_true rfl⟩ ⟨Nat.zero_le _, Nat.zero_le _⟩ hl.1 (Nat.le_of_ble_eq_true rfl) dX3_near_60 ?_
      cases h
      exact retO_i F dX3_near_63
    replace h := itF h c7
    by_cases c10 : x2 = 2
    · replace h := itT h c10
      refine lv_tableIn (tgt := 64) hx hb dX3_near_12 (by rw [c10]; decide) (by rw [c10]; decide) (by rw [c10]; rfl) rfl ?_
      refine lv_aload_n hx hb dX3_near_64 rfl (lv_at hl 0 rfl) ?_
      refine h_g0_2 F hw dX3_near_65 ?_
      refine lv_iload_n hx hb dX3_near_68 rfl (lv_at hl 1 rfl) ?_
      refine lv_iload_n hx hb dX3_near_69 rfl (lv_at hl 1 rfl) ?_
      obtain ⟨z11, e12, h⟩ := bnd h
      refine k_X2_innermost_h_ F hw e12 ⟨Nat.le_of_ble_eq_true rfl, Nat.le_of_ble_eq_true rfl⟩ ⟨Nat.zero_le _, Nat.zero_le _⟩ hl.1 (Nat.le_of_ble_eq_true rfl) dX3_near_70 ?_
      cases h
      exact retO_i F dX3_near_73
    replace h := itF h c10
    by_cases c13 : x2 = 3
    · replace h := itT h c13
      refine lv_tableIn (tgt := 74) hx hb dX3_near_12 (by rw [c13]; decide) (by rw [c13]; decide) (by rw [c13]; rfl) rfl ?_
      refine lv_aload_n hx hb dX3_near_74 rfl (lv_at hl 0 rfl) ?_
      refine h_g0_2 F hw dX3_near_75 ?_
      refine lv_iload_n hx hb dX3_near_78 rfl (lv_at hl 1 rfl) ?_
      obtain ⟨z14, e15, h⟩ := bnd h
      refine k_X2_firstWithin_h_ F hw e15 ⟨Nat.le_of_ble_eq_true rfl, Nat.le_of_ble_eq_true rfl⟩ ⟨Nat.zero_le _, Nat.zero_le _⟩ hl.1 (Nat.le_of_ble_eq_true rfl) dX3_near_79 ?_
      cases h
      exact retO_i F dX3_near_82
    replace h := itF h c13
    refine lv_tableOut (tgt := 83) hx hb dX3_near_12 (by have q0 : (x2).toInt ≠ 0 := fun z => c4 (Int32.toInt_inj.mp (z.trans rfl)); have q1 : (x2).toInt ≠ 1 := fun z => c7 (Int32.toInt_inj.mp (z.trans rfl)); have q2 : (x2).toInt ≠ 2 := fun z => c10 (Int32.toInt_inj.mp (z.trans rfl)); have q3 : (x2).toInt ≠ 3 := fun z => c13 (Int32.toInt_inj.mp (z.trans rfl)); omega) rfl ?_
    refine lv_bipush (v := (-3)) hx hb dX3_near_83 rfl ?_
    cases h
    exact retO_i F dX3_near_85
  · replace h := itT h c3
    refine lv_bipush (v := (-3)) hx hb dX3_near_8 rfl ?_
    cases h
    exact retO_i F dX3_near_10
end
theorem c_X3_near {l : Launch} {G : GX} {ad : Nat → Nat} {x1 : Int32} {x2 : Int32} {u : HS} {z : Int32} (h : f_X3_near x1 x2 u = some z) : MO l yX3_near cX3_near 3 (some .int) rmX3_near G (hw_ G ad u) [.ref (ad 0), .int x1, .int x2] (some (.int z)) := MO.of (by decide) (Nat.le_of_ble_eq_true rfl) (fun p e s m below meth c ls F hw hl => w_X3_near_0 F _ _ _ _ hw hl h)
/-! ===== X3_index ===== -/
theorem dX3_index_0 : decode cX3_index 0 = .ok (.aload_n 0, 1) := by decide +kernel
theorem dX3_index_1 : decode cX3_index 1 = .ok (.iload_n 1, 1) := by decide +kernel
theorem dX3_index_2 : decode cX3_index 2 = .ok (.invokevirtual 66, 3) := by decide +kernel
theorem dX3_index_5 : decode cX3_index 5 = .ok (.ifCond .eq 14, 3) := by decide +kernel
theorem dX3_index_8 : decode cX3_index 8 = .ok (.aload_n 0, 1) := by decide +kernel
theorem dX3_index_9 : decode cX3_index 9 = .ok (.getfield 20, 3) := by decide +kernel
theorem dX3_index_12 : decode cX3_index 12 = .ok (.iload_n 1, 1) := by decide +kernel
theorem dX3_index_13 : decode cX3_index 13 = .ok (.invokevirtual 140, 3) := by decide +kernel
theorem dX3_index_16 : decode cX3_index 16 = .ok (.goto 5, 3) := by decide +kernel
theorem dX3_index_19 : decode cX3_index 19 = .ok (.bipush (-3), 2) := by decide +kernel
theorem dX3_index_21 : decode cX3_index 21 = .ok (.ireturn, 1) := by decide +kernel
theorem yv_X2_thingsAhead_X3 : YV RX3 140 yX2_thingsAhead cX2_thingsAhead 6 (some .int) 1 := ⟨(tw 399 (by decide +kernel) rfl), (tw 2 (by decide +kernel) rfl), (tw 414 (by decide +kernel) rfl), (tw 397 (by decide +kernel) rfl), (tw 398 (by decide +kernel) rfl), by decide +kernel⟩
theorem k_X2_thingsAhead_h_ {p : Program} {l : Launch} {e : Env} {R : Room} {s : State} {m : MethodId} {args : Array Value} {below : List Frame} {meth : Method} {c : Code} {H : Heap} {locs : List Loc} {cells slots : Nat} {Q : State → Prop} {G : GX} {A : Nat → Prop} {ad : Nat → Nat} {u : HS} {cc : ByteArray} {nL pc : Nat} {y : MethodName} {ret : Option FieldType} {ls : Array Slot} {rest : List Value} {x1 : Int32} {z : Int32} (F : FX p m c cc nL s args y ret RX3 meth) (hw : WD G A s (hw_ G ad u) H locs) (h : f_X2_thingsAhead x1 u.2.2.2.2.1 = some z) (hR : rmX2_thingsAhead.frames + 1 ≤ R.frames ∧ 8 + (6 + 11) + rmX2_thingsAhead.locals ≤ R.locals) (hcs : cells ≤ R.cells ∧ slots ≤ R.slots) (hsz : ls.size = nL) (hW : (rest.map fun v => v.category).sum ≤ 8) (hdg : decode cc pc = .ok (.invokevirtual 140, 3)) (kk : W p l e R s m args below meth c H locs cells slots Q (F0 m (pc + 3) ls (.int z :: rest))) : W p l e R s m args below meth c H locs cells slots Q (F0 m pc ls (.int x1 :: .ref (u.1 0) :: rest)) := callO (runV F yv_X2_thingsAhead_X3 (c_X2_thingsAhead h (ad := u.1)) hw.1 (hw.2.1.sub [3, 4, 5, 6, 7, 8, 9, 10, 11, 12, 13, 14, 15, 16] rfl) (hw.2.2.1.sub [3, 4, 5, 6, 7, 8, 9, 10, 11, 12, 13, 14, 15, 16] (by decide) rfl) rfl rfl rfl ⟨rfl, rfl⟩ hR hcs rfl hsz rfl hW hdg) kk
def rmX3_index : Room := { frames := 4, cells := 0, slots := 0, locals := 90 }
noncomputable def f_X3_index (x1 : Int32) (u : HS) : Option (Int32) := (f_X3_isStanding x1 u).bind (fun z1 => (if z1 = 0 then some (-3) else (f_X2_thingsAhead x1 u.2.2.2.2.1).bind (fun z4 => some z4)))
section
variable {p : Program} {l : Launch} {e : Env} {s : State} {m : MethodId} {args : Array Value} {below : List Frame} {meth : Method} {c : Code}
variable {G : GX} {A : Nat → Prop} {ad : Nat → Nat} 
set_option maxHeartbeats 4000000 in
set_option maxRecDepth 100000 in
theorem w_X3_index_0 (F : FX p m c cX3_index 2 s args yX3_index (some .int) RX3 meth) {z : Int32} : ∀ (x1 : Int32) (u : HS) (ls : Array Slot), WD G A s (hw_ G ad u) s.heap [] → lv_has ls 2 [(0, .ref (ad 0)), (1, .int x1)] → f_X3_index x1 u = some z → W p l e rmX3_index s m args below meth c s.heap [] 0 0 (MQ below (QO (some (.int z))) args s 0 0 (fun _ => False)) (F0 m 0 ls []) := by
  obtain ⟨⟨hx, hb, hml, hown, hts⟩, hr, hlocks⟩ := id F
  intro x1 u ls hw hl h
  unfold f_X3_index at h
  refine lv_aload_n hx hb dX3_index_0 rfl (lv_at hl 0 rfl) ?_
  refine lv_iload_n hx hb dX3_index_1 rfl (lv_at hl 1 rfl) ?_
  obtain ⟨z1, e2, h⟩ := bnd h
  refine k_X3_isStanding_h_ F hw e2 ⟨Nat.le_of_ble_eq_true rfl, Nat.le_of_ble_eq_true rfl⟩ ⟨Nat.zero_le _, Nat.zero_le _⟩ hl.1 (Nat.le_of_ble_eq_true rfl) dX3_index_2 ?_
  refine lv_if_eq (tgt := 19) hx hb dX3_index_5 rfl (fun c3 => ?_) (fun c3 => ?_)
  · replace h := itT h c3
    refine lv_bipush (v := (-3)) hx hb dX3_index_19 rfl ?_
    cases h
    exact retO_i F dX3_index_21
  · replace h := itF h c3
    refine lv_aload_n hx hb dX3_index_8 rfl (lv_at hl 0 rfl) ?_
    refine h_g0_2 F hw dX3_index_9 ?_
    refine lv_iload_n hx hb dX3_index_12 rfl (lv_at hl 1 rfl) ?_
    obtain ⟨z4, e5, h⟩ := bnd h
    refine k_X2_thingsAhead_h_ F hw e5 ⟨Nat.le_of_ble_eq_true rfl, Nat.le_of_ble_eq_true rfl⟩ ⟨Nat.zero_le _, Nat.zero_le _⟩ hl.1 (Nat.le_of_ble_eq_true rfl) dX3_index_13 ?_
    refine lv_goto (tgt := 21) hx hb dX3_index_16 rfl ?_
    cases h
    exact retO_i F dX3_index_21
end
theorem c_X3_index {l : Launch} {G : GX} {ad : Nat → Nat} {x1 : Int32} {u : HS} {z : Int32} (h : f_X3_index x1 u = some z) : MO l yX3_index cX3_index 2 (some .int) rmX3_index G (hw_ G ad u) [.ref (ad 0), .int x1] (some (.int z)) := MO.of (by decide) (Nat.le_of_ble_eq_true rfl) (fun p e s m below meth c ls F hw hl => w_X3_index_0 F _ _ _ hw hl h)
/-! ===== X3_at ===== -/
theorem dX3_at_0 : decode cX3_at 0 = .ok (.aload_n 0, 1) := by decide +kernel
theorem dX3_at_1 : decode cX3_at 1 = .ok (.getfield 20, 3) := by decide +kernel
theorem dX3_at_4 : decode cX3_at 4 = .ok (.iload_n 1, 1) := by decide +kernel
theorem dX3_at_5 : decode cX3_at 5 = .ok (.invokevirtual 38, 3) := by decide +kernel
theorem dX3_at_8 : decode cX3_at 8 = .ok (.ifCond .eq 7, 3) := by decide +kernel
theorem dX3_at_11 : decode cX3_at 11 = .ok (.iload_n 2, 1) := by decide +kernel
theorem dX3_at_12 : decode cX3_at 12 = .ok (.ifCond .ge 6, 3) := by decide +kernel
theorem dX3_at_15 : decode cX3_at 15 = .ok (.bipush (-3), 2) := by decide +kernel
theorem dX3_at_17 : decode cX3_at 17 = .ok (.ireturn, 1) := by decide +kernel
theorem dX3_at_18 : decode cX3_at 18 = .ok (.aload_n 0, 1) := by decide +kernel
theorem dX3_at_19 : decode cX3_at 19 = .ok (.getfield 20, 3) := by decide +kernel
theorem dX3_at_22 : decode cX3_at 22 = .ok (.iload_n 1, 1) := by decide +kernel
theorem dX3_at_23 : decode cX3_at 23 = .ok (.iload_n 2, 1) := by decide +kernel
theorem dX3_at_24 : decode cX3_at 24 = .ok (.invokevirtual 143, 3) := by decide +kernel
theorem dX3_at_27 : decode cX3_at 27 = .ok (.ireturn, 1) := by decide +kernel
theorem yv_X2_thingNumber_X3 : YV RX3 143 yX2_thingNumber cX2_thingNumber 6 (some .int) 2 := ⟨(tw 404 (by decide +kernel) rfl), (tw 2 (by decide +kernel) rfl), (tw 419 (by decide +kernel) rfl), (tw 402 (by decide +kernel) rfl), (tw 403 (by decide +kernel) rfl), by decide +kernel⟩
theorem k_X2_thingNumber_h_ {p : Program} {l : Launch} {e : Env} {R : Room} {s : State} {m : MethodId} {args : Array Value} {below : List Frame} {meth : Method} {c : Code} {H : Heap} {locs : List Loc} {cells slots : Nat} {Q : State → Prop} {G : GX} {A : Nat → Prop} {ad : Nat → Nat} {u : HS} {cc : ByteArray} {nL pc : Nat} {y : MethodName} {ret : Option FieldType} {ls : Array Slot} {rest : List Value} {x1 : Int32} {x2 : Int32} {z : Int32} (F : FX p m c cc nL s args y ret RX3 meth) (hw : WD G A s (hw_ G ad u) H locs) (h : f_X2_thingNumber x1 x2 u.2.2.2.2.1 = some z) (hR : rmX2_thingNumber.frames + 1 ≤ R.frames ∧ 8 + (6 + 11) + rmX2_thingNumber.locals ≤ R.locals) (hcs : cells ≤ R.cells ∧ slots ≤ R.slots) (hsz : ls.size = nL) (hW : (rest.map fun v => v.category).sum ≤ 8) (hdg : decode cc pc = .ok (.invokevirtual 143, 3)) (kk : W p l e R s m args below meth c H locs cells slots Q (F0 m (pc + 3) ls (.int z :: rest))) : W p l e R s m args below meth c H locs cells slots Q (F0 m pc ls (.int x2 :: .int x1 :: .ref (u.1 0) :: rest)) := callO (runV F yv_X2_thingNumber_X3 (c_X2_thingNumber h (ad := u.1)) hw.1 (hw.2.1.sub [3, 4, 5, 6, 7, 8, 9, 10, 11, 12, 13, 14, 15, 16] rfl) (hw.2.2.1.sub [3, 4, 5, 6, 7, 8, 9, 10, 11, 12, 13, 14, 15, 16] (by decide) rfl) rfl rfl rfl ⟨rfl, rfl⟩ hR hcs rfl hsz rfl hW hdg) kk
def rmX3_at : Room := { frames := 2, cells := 0, slots := 0, locals := 46 }
noncomputable def f_X3_at (x1 : Int32) (x2 : Int32) (u : HS) : Option (Int32) := (f_X2_isRow x1 u.2.2.2.2.1).bind (fun z1 => (if z1 = 0 then some (-3) else (if 0 ≤ x2 then (f_X2_thingNumber x1 x2 u.2.2.2.2.1).bind (fun z5 => some z5) else some (-3))))
section
variable {p : Program} {l : Launch} {e : Env} {s : State} {m : MethodId} {args : Array Value} {below : List Frame} {meth : Method} {c : Code}
variable {G : GX} {A : Nat → Prop} {ad : Nat → Nat} 
set_option maxHeartbeats 4000000 in
set_option maxRecDepth 100000 in
theorem w_X3_at_0 (F : FX p m c cX3_at 3 s args yX3_at (some .int) RX3 meth) {z : Int32} : ∀ (x1 : Int32) (x2 : Int32) (u : HS) (ls : Array Slot), WD G A s (hw_ G ad u) s.heap [] → lv_has ls 3 [(0, .ref (ad 0)), (1, .int x1), (2, .int x2)] → f_X3_at x1 x2 u = some z → W p l e rmX3_at s m args below meth c s.heap [] 0 0 (MQ below (QO (some (.int z))) args s 0 0 (fun _ => False)) (F0 m 0 ls []) := by
  obtain ⟨⟨hx, hb, hml, hown, hts⟩, hr, hlocks⟩ := id F
  intro x1 x2 u ls hw hl h
  unfold f_X3_at at h
  refine lv_aload_n hx hb dX3_at_0 rfl (lv_at hl 0 rfl) ?_
  refine h_g0_2 F hw dX3_at_1 ?_
  refine lv_iload_n hx hb dX3_at_4 rfl (lv_at hl 1 rfl) ?_
  obtain ⟨z1, e2, h⟩ := bnd h
  refine k_X2_isRow_h_ F hw e2 ⟨Nat.le_of_ble_eq_true rfl, Nat.le_of_ble_eq_true rfl⟩ ⟨Nat.zero_le _, Nat.zero_le _⟩ hl.1 (Nat.le_of_ble_eq_true rfl) dX3_at_5 ?_
  refine lv_if_eq (tgt := 15) hx hb dX3_at_8 rfl (fun c3 => ?_) (fun c3 => ?_)
  · replace h := itT h c3
    refine lv_bipush (v := (-3)) hx hb dX3_at_15 rfl ?_
    cases h
    exact retO_i F dX3_at_17
  · replace h := itF h c3
    refine lv_iload_n hx hb dX3_at_11 rfl (lv_at hl 2 rfl) ?_
    refine lv_if_ge (tgt := 18) hx hb dX3_at_12 rfl (fun c4 => ?_) (fun c4 => ?_)
    · replace h := itT h c4
      refine lv_aload_n hx hb dX3_at_18 rfl (lv_at hl 0 rfl) ?_
      refine h_g0_2 F hw dX3_at_19 ?_
      refine lv_iload_n hx hb dX3_at_22 rfl (lv_at hl 1 rfl) ?_
      refine lv_iload_n hx hb dX3_at_23 rfl (lv_at hl 2 rfl) ?_
      obtain ⟨z5, e6, h⟩ := bnd h
      refine k_X2_thingNumber_h_ F hw e6 ⟨Nat.le_of_ble_eq_true rfl, Nat.le_of_ble_eq_true rfl⟩ ⟨Nat.zero_le _, Nat.zero_le _⟩ hl.1 (Nat.le_of_ble_eq_true rfl) dX3_at_24 ?_
      cases h
      exact retO_i F dX3_at_27
    · replace h := itF h c4
      refine lv_bipush (v := (-3)) hx hb dX3_at_15 rfl ?_
      cases h
      exact retO_i F dX3_at_17
end
theorem c_X3_at {l : Launch} {G : GX} {ad : Nat → Nat} {x1 : Int32} {x2 : Int32} {u : HS} {z : Int32} (h : f_X3_at x1 x2 u = some z) : MO l yX3_at cX3_at 3 (some .int) rmX3_at G (hw_ G ad u) [.ref (ad 0), .int x1, .int x2] (some (.int z)) := MO.of (by decide) (Nat.le_of_ble_eq_true rfl) (fun p e s m below meth c ls F hw hl => w_X3_at_0 F _ _ _ _ hw hl h)
/-! ===== X3_between ===== -/
theorem dX3_between_0 : decode cX3_between 0 = .ok (.aload_n 0, 1) := by decide +kernel
theorem dX3_between_1 : decode cX3_between 1 = .ok (.iload_n 1, 1) := by decide +kernel
theorem dX3_between_2 : decode cX3_between 2 = .ok (.iload_n 2, 1) := by decide +kernel
theorem dX3_between_3 : decode cX3_between 3 = .ok (.invokevirtual 112, 3) := by decide +kernel
theorem dX3_between_6 : decode cX3_between 6 = .ok (.istore_n 3, 1) := by decide +kernel
theorem dX3_between_7 : decode cX3_between 7 = .ok (.iload_n 3, 1) := by decide +kernel
theorem dX3_between_8 : decode cX3_between 8 = .ok (.ifCond .eq 5, 3) := by decide +kernel
theorem dX3_between_11 : decode cX3_between 11 = .ok (.iload_n 3, 1) := by decide +kernel
theorem dX3_between_12 : decode cX3_between 12 = .ok (.ireturn, 1) := by decide +kernel
theorem dX3_between_13 : decode cX3_between 13 = .ok (.iload_n 1, 1) := by decide +kernel
theorem dX3_between_14 : decode cX3_between 14 = .ok (.iload_n 2, 1) := by decide +kernel
theorem dX3_between_15 : decode cX3_between 15 = .ok (.if_icmp .ne 5, 3) := by decide +kernel
theorem dX3_between_18 : decode cX3_between 18 = .ok (.iconst 0, 1) := by decide +kernel
theorem dX3_between_19 : decode cX3_between 19 = .ok (.ireturn, 1) := by decide +kernel
theorem dX3_between_20 : decode cX3_between 20 = .ok (.aload_n 0, 1) := by decide +kernel
theorem dX3_between_21 : decode cX3_between 21 = .ok (.getfield 20, 3) := by decide +kernel
theorem dX3_between_24 : decode cX3_between 24 = .ok (.iload_n 1, 1) := by decide +kernel
theorem dX3_between_25 : decode cX3_between 25 = .ok (.invokevirtual 140, 3) := by decide +kernel
theorem dX3_between_28 : decode cX3_between 28 = .ok (.aload_n 0, 1) := by decide +kernel
theorem dX3_between_29 : decode cX3_between 29 = .ok (.getfield 20, 3) := by decide +kernel
theorem dX3_between_32 : decode cX3_between 32 = .ok (.iload_n 2, 1) := by decide +kernel
theorem dX3_between_33 : decode cX3_between 33 = .ok (.invokevirtual 140, 3) := by decide +kernel
theorem dX3_between_36 : decode cX3_between 36 = .ok (.isub, 1) := by decide +kernel
theorem dX3_between_37 : decode cX3_between 37 = .ok (.invokestatic 146, 3) := by decide +kernel
theorem dX3_between_40 : decode cX3_between 40 = .ok (.iconst 1, 1) := by decide +kernel
theorem dX3_between_41 : decode cX3_between 41 = .ok (.isub, 1) := by decide +kernel
theorem dX3_between_42 : decode cX3_between 42 = .ok (.ireturn, 1) := by decide +kernel
def rmX3_between : Room := { frames := 4, cells := 0, slots := 0, locals := 90 }
noncomputable def f_X3_between (x1 : Int32) (x2 : Int32) (u : HS) : Option (Int32) := (f_X3_faultOfPair x1 x2 u).bind (fun z1 => (if z1 = 0 then (if x1 = x2 then some 0 else (f_X2_thingsAhead x1 u.2.2.2.2.1).bind (fun z5 => (f_X2_thingsAhead x2 u.2.2.2.2.1).bind (fun z7 => some ((if 0 ≤ (z5 - z7) then (z5 - z7) else 0 - (z5 - z7)) - 1)))) else some z1))
section
variable {p : Program} {l : Launch} {e : Env} {s : State} {m : MethodId} {args : Array Value} {below : List Frame} {meth : Method} {c : Code}
variable {G : GX} {A : Nat → Prop} {ad : Nat → Nat} 
set_option maxHeartbeats 4000000 in
set_option maxRecDepth 100000 in
theorem w_X3_between_0 (F : FX p m c cX3_between 4 s args yX3_between (some .int) RX3 meth) {z : Int32} : ∀ (x1 : Int32) (x2 : Int32) (u : HS) (ls : Array Slot), WD G A s (hw_ G ad u) s.heap [] → lv_has ls 4 [(0, .ref (ad 0)), (1, .int x1), (2, .int x2)] → f_X3_between x1 x2 u = some z → W p l e rmX3_between s m args below meth c s.heap [] 0 0 (MQ below (QO (some (.int z))) args s 0 0 (fun _ => False)) (F0 m 0 ls []) := by
  obtain ⟨⟨hx, hb, hml, hown, hts⟩, hr, hlocks⟩ := id F
  intro x1 x2 u ls hw hl h
  unfold f_X3_between at h
  refine lv_aload_n hx hb dX3_between_0 rfl (lv_at hl 0 rfl) ?_
  refine lv_iload_n hx hb dX3_between_1 rfl (lv_at hl 1 rfl) ?_
  refine lv_iload_n hx hb dX3_between_2 rfl (lv_at hl 2 rfl) ?_
  obtain ⟨z1, e2, h⟩ := bnd h
  refine k_X3_faultOfPair_h_ F hw e2 ⟨Nat.le_of_ble_eq_true rfl, Nat.le_of_ble_eq_true rfl⟩ ⟨Nat.zero_le _, Nat.zero_le _⟩ hl.1 (Nat.le_of_ble_eq_true rfl) dX3_between_3 ?_
  refine lv_istore_n (lv' := [(3, .int z1), (0, .ref (ad 0)), (1, .int x1), (2, .int x2)]) hx hb dX3_between_6 rfl hl (by decide) rfl (fun ls hl => ?_)
  refine lv_iload_n hx hb dX3_between_7 rfl (lv_at hl 0 rfl) ?_
  refine lv_if_eq (tgt := 13) hx hb dX3_between_8 rfl (fun c3 => ?_) (fun c3 => ?_)
  · replace h := itT h c3
    refine lv_iload_n hx hb dX3_between_13 rfl (lv_at hl 2 rfl) ?_
    refine lv_iload_n hx hb dX3_between_14 rfl (lv_at hl 3 rfl) ?_
    refine lv_icmp_ne (tgt := 20) hx hb dX3_between_15 rfl (fun c4 => ?_) (fun c4 => ?_)
    · replace h := itF h c4
      refine lv_aload_n hx hb dX3_between_20 rfl (lv_at hl 1 rfl) ?_
      refine h_g0_2 F hw dX3_between_21 ?_
      refine lv_iload_n hx hb dX3_between_24 rfl (lv_at hl 2 rfl) ?_
      obtain ⟨z5, e6, h⟩ := bnd h
      refine k_X2_thingsAhead_h_ F hw e6 ⟨Nat.le_of_ble_eq_true rfl, Nat.le_of_ble_eq_true rfl⟩ ⟨Nat.zero_le _, Nat.zero_le _⟩ hl.1 (Nat.le_of_ble_eq_true rfl) dX3_between_25 ?_
      refine lv_aload_n hx hb dX3_between_28 rfl (lv_at hl 1 rfl) ?_
      refine h_g0_2 F hw dX3_between_29 ?_
      refine lv_iload_n hx hb dX3_between_32 rfl (lv_at hl 3 rfl) ?_
      obtain ⟨z7, e8, h⟩ := bnd h
      refine k_X2_thingsAhead_h_ F hw e8 ⟨Nat.le_of_ble_eq_true rfl, Nat.le_of_ble_eq_true rfl⟩ ⟨Nat.zero_le _, Nat.zero_le _⟩ hl.1 (Nat.le_of_ble_eq_true rfl) dX3_between_33 ?_
      refine lv_isub hx hb dX3_between_36 ?_
      refine va_mabs hx hb (hml.trans hl.1.symm) hown (F.tb (tw 424 (by decide +kernel) rfl)) (F.tb (tw 425 (by decide +kernel) rfl)) (F.tb (tw 8 (by decide +kernel) rfl)) (F.tb (tw 426 (by decide +kernel) rfl)) (Nat.le_of_ble_eq_true rfl) (Nat.le_of_ble_eq_true rfl) (Nat.zero_le _) (Nat.zero_le _) dX3_between_37 ?_
      refine lv_iconst (v := 1) hx hb dX3_between_40 rfl ?_
      refine lv_isub hx hb dX3_between_41 ?_
      cases h
      exact retO_i F dX3_between_42
    · replace h := itT h c4
      refine lv_iconst (v := 0) hx hb dX3_between_18 rfl ?_
      cases h
      exact retO_i F dX3_between_19
  · replace h := itF h c3
    refine lv_iload_n hx hb dX3_between_11 rfl (lv_at hl 0 rfl) ?_
    cases h
    exact retO_i F dX3_between_12
end
theorem c_X3_between {l : Launch} {G : GX} {ad : Nat → Nat} {x1 : Int32} {x2 : Int32} {u : HS} {z : Int32} (h : f_X3_between x1 x2 u = some z) : MO l yX3_between cX3_between 4 (some .int) rmX3_between G (hw_ G ad u) [.ref (ad 0), .int x1, .int x2] (some (.int z)) := MO.of (by decide) (Nat.le_of_ble_eq_true rfl) (fun p e s m below meth c ls F hw hl => w_X3_between_0 F _ _ _ _ hw hl h)
/-! ===== X3_holds ===== -/
theorem dX3_holds_0 : decode cX3_holds 0 = .ok (.aload_n 0, 1) := by decide +kernel
theorem dX3_holds_1 : decode cX3_holds 1 = .ok (.iload_n 1, 1) := by decide +kernel
theorem dX3_holds_2 : decode cX3_holds 2 = .ok (.invokevirtual 66, 3) := by decide +kernel
theorem dX3_holds_5 : decode cX3_holds 5 = .ok (.ifCond .eq 11, 3) := by decide +kernel
theorem dX3_holds_8 : decode cX3_holds 8 = .ok (.aload_n 0, 1) := by decide +kernel
theorem dX3_holds_9 : decode cX3_holds 9 = .ok (.iload_n 2, 1) := by decide +kernel
theorem dX3_holds_10 : decode cX3_holds 10 = .ok (.invokevirtual 66, 3) := by decide +kernel
theorem dX3_holds_13 : decode cX3_holds 13 = .ok (.ifCond .ne 6, 3) := by decide +kernel
theorem dX3_holds_16 : decode cX3_holds 16 = .ok (.bipush (-3), 2) := by decide +kernel
theorem dX3_holds_18 : decode cX3_holds 18 = .ok (.ireturn, 1) := by decide +kernel
theorem dX3_holds_19 : decode cX3_holds 19 = .ok (.aload_n 0, 1) := by decide +kernel
theorem dX3_holds_20 : decode cX3_holds 20 = .ok (.getfield 20, 3) := by decide +kernel
theorem dX3_holds_23 : decode cX3_holds 23 = .ok (.iload_n 1, 1) := by decide +kernel
theorem dX3_holds_24 : decode cX3_holds 24 = .ok (.iload_n 2, 1) := by decide +kernel
theorem dX3_holds_25 : decode cX3_holds 25 = .ok (.invokevirtual 92, 3) := by decide +kernel
theorem dX3_holds_28 : decode cX3_holds 28 = .ok (.ifCond .eq 7, 3) := by decide +kernel
theorem dX3_holds_31 : decode cX3_holds 31 = .ok (.iconst 1, 1) := by decide +kernel
theorem dX3_holds_32 : decode cX3_holds 32 = .ok (.goto 4, 3) := by decide +kernel
theorem dX3_holds_35 : decode cX3_holds 35 = .ok (.iconst 0, 1) := by decide +kernel
theorem dX3_holds_36 : decode cX3_holds 36 = .ok (.ireturn, 1) := by decide +kernel
def rmX3_holds : Room := { frames := 3, cells := 0, slots := 0, locals := 65 }
noncomputable def f_X3_holds (x1 : Int32) (x2 : Int32) (u : HS) : Option (Int32) := (f_X3_isStanding x1 u).bind (fun z1 => (if z1 = 0 then some (-3) else (f_X3_isStanding x2 u).bind (fun z4 => (if z4 = 0 then some (-3) else (f_X2_encloses x1 x2 u.2.2.2.2.1).bind (fun z7 => (if z7 = 0 then some 0 else some 1))))))
section
variable {p : Program} {l : Launch} {e : Env} {s : State} {m : MethodId} {args : Array Value} {below : List Frame} {meth : Method} {c : Code}
variable {G : GX} {A : Nat → Prop} {ad : Nat → Nat} 
set_option maxHeartbeats 4000000 in
set_option maxRecDepth 100000 in
theorem w_X3_holds_0 (F : FX p m c cX3_holds 3 s args yX3_holds (some .int) RX3 meth) {z : Int32} : ∀ (x1 : Int32) (x2 : Int32) (u : HS) (ls : Array Slot), WD G A s (hw_ G ad u) s.heap [] → lv_has ls 3 [(0, .ref (ad 0)), (1, .int x1), (2, .int x2)] → f_X3_holds x1 x2 u = some z → W p l e rmX3_holds s m args below meth c s.heap [] 0 0 (MQ below (QO (some (.int z))) args s 0 0 (fun _ => False)) (F0 m 0 ls []) := by
  obtain ⟨⟨hx, hb, hml, hown, hts⟩, hr, hlocks⟩ := id F
  intro x1 x2 u ls hw hl h
  unfold f_X3_holds at h
  refine lv_aload_n hx hb dX3_holds_0 rfl (lv_at hl 0 rfl) ?_
  refine lv_iload_n hx hb dX3_holds_1 rfl (lv_at hl 1 rfl) ?_
  obtain ⟨z1, e2, h⟩ := bnd h
  refine k_X3_isStanding_h_ F hw e2 ⟨Nat.le_of_ble_eq_true rfl, Nat.le_of_ble_eq_true rfl⟩ ⟨Nat.zero_le _, Nat.zero_le _⟩ hl.1 (Nat.le_of_ble_eq_true rfl) dX3_holds_2 ?_
  refine lv_if_eq (tgt := 16) hx hb dX3_holds_5 rfl (fun c3 => ?_) (fun c3 => ?_)
  · replace h := itT h c3
    refine lv_bipush (v := (-3)) hx hb dX3_holds_16 rfl ?_
    cases h
    exact retO_i F dX3_holds_18
  · replace h := itF h c3
    refine lv_aload_n hx hb dX3_holds_8 rfl (lv_at hl 0 rfl) ?_
    refine lv_iload_n hx hb dX3_holds_9 rfl (lv_at hl 2 rfl) ?_
    obtain ⟨z4, e5, h⟩ := bnd h
    refine k_X3_isStanding_h_ F hw e5 ⟨Nat.le_of_ble_eq_true rfl, Nat.le_of_ble_eq_true rfl⟩ ⟨Nat.zero_le _, Nat.zero_le _⟩ hl.1 (Nat.le_of_ble_eq_true rfl) dX3_holds_10 ?_
    refine lv_if_ne (tgt := 19) hx hb dX3_holds_13 rfl (fun c6 => ?_) (fun c6 => ?_)
    · replace h := itF h c6
      refine lv_aload_n hx hb dX3_holds_19 rfl (lv_at hl 0 rfl) ?_
      refine h_g0_2 F hw dX3_holds_20 ?_
      refine lv_iload_n hx hb dX3_holds_23 rfl (lv_at hl 1 rfl) ?_
      refine lv_iload_n hx hb dX3_holds_24 rfl (lv_at hl 2 rfl) ?_
      obtain ⟨z7, e8, h⟩ := bnd h
      refine k_X2_encloses_h_ F hw e8 ⟨Nat.le_of_ble_eq_true rfl, Nat.le_of_ble_eq_true rfl⟩ ⟨Nat.zero_le _, Nat.zero_le _⟩ hl.1 (Nat.le_of_ble_eq_true rfl) dX3_holds_25 ?_
      refine lv_if_eq (tgt := 35) hx hb dX3_holds_28 rfl (fun c9 => ?_) (fun c9 => ?_)
      · replace h := itT h c9
        refine lv_iconst (v := 0) hx hb dX3_holds_35 rfl ?_
        cases h
        exact retO_i F dX3_holds_36
      · replace h := itF h c9
        refine lv_iconst (v := 1) hx hb dX3_holds_31 rfl ?_
        refine lv_goto (tgt := 36) hx hb dX3_holds_32 rfl ?_
        cases h
        exact retO_i F dX3_holds_36
    · replace h := itT h c6
      refine lv_bipush (v := (-3)) hx hb dX3_holds_16 rfl ?_
      cases h
      exact retO_i F dX3_holds_18
end
theorem c_X3_holds {l : Launch} {G : GX} {ad : Nat → Nat} {x1 : Int32} {x2 : Int32} {u : HS} {z : Int32} (h : f_X3_holds x1 x2 u = some z) : MO l yX3_holds cX3_holds 3 (some .int) rmX3_holds G (hw_ G ad u) [.ref (ad 0), .int x1, .int x2] (some (.int z)) := MO.of (by decide) (Nat.le_of_ble_eq_true rfl) (fun p e s m below meth c ls F hw hl => w_X3_holds_0 F _ _ _ _ hw hl h)
/-! ===== X3_meet ===== -/
theorem dX3_meet_0 : decode cX3_meet 0 = .ok (.aload_n 0, 1) := by decide +kernel
theorem dX3_meet_1 : decode cX3_meet 1 = .ok (.iload_n 1, 1) := by decide +kernel
theorem dX3_meet_2 : decode cX3_meet 2 = .ok (.iload_n 2, 1) := by decide +kernel
theorem dX3_meet_3 : decode cX3_meet 3 = .ok (.invokevirtual 112, 3) := by decide +kernel
theorem dX3_meet_6 : decode cX3_meet 6 = .ok (.istore_n 3, 1) := by decide +kernel
theorem dX3_meet_7 : decode cX3_meet 7 = .ok (.iload_n 3, 1) := by decide +kernel
theorem dX3_meet_8 : decode cX3_meet 8 = .ok (.ifCond .eq 5, 3) := by decide +kernel
theorem dX3_meet_11 : decode cX3_meet 11 = .ok (.iload_n 3, 1) := by decide +kernel
theorem dX3_meet_12 : decode cX3_meet 12 = .ok (.ireturn, 1) := by decide +kernel
theorem dX3_meet_13 : decode cX3_meet 13 = .ok (.iload_n 1, 1) := by decide +kernel
theorem dX3_meet_14 : decode cX3_meet 14 = .ok (.iload_n 2, 1) := by decide +kernel
theorem dX3_meet_15 : decode cX3_meet 15 = .ok (.if_icmp .eq 15, 3) := by decide +kernel
theorem dX3_meet_18 : decode cX3_meet 18 = .ok (.aload_n 0, 1) := by decide +kernel
theorem dX3_meet_19 : decode cX3_meet 19 = .ok (.getfield 20, 3) := by decide +kernel
theorem dX3_meet_22 : decode cX3_meet 22 = .ok (.iload_n 1, 1) := by decide +kernel
theorem dX3_meet_23 : decode cX3_meet 23 = .ok (.iload_n 2, 1) := by decide +kernel
theorem dX3_meet_24 : decode cX3_meet 24 = .ok (.invokevirtual 92, 3) := by decide +kernel
theorem dX3_meet_27 : decode cX3_meet 27 = .ok (.ifCond .eq 5, 3) := by decide +kernel
theorem dX3_meet_30 : decode cX3_meet 30 = .ok (.iload_n 1, 1) := by decide +kernel
theorem dX3_meet_31 : decode cX3_meet 31 = .ok (.ireturn, 1) := by decide +kernel
theorem dX3_meet_32 : decode cX3_meet 32 = .ok (.aload_n 0, 1) := by decide +kernel
theorem dX3_meet_33 : decode cX3_meet 33 = .ok (.getfield 20, 3) := by decide +kernel
theorem dX3_meet_36 : decode cX3_meet 36 = .ok (.iload_n 2, 1) := by decide +kernel
theorem dX3_meet_37 : decode cX3_meet 37 = .ok (.iload_n 1, 1) := by decide +kernel
theorem dX3_meet_38 : decode cX3_meet 38 = .ok (.invokevirtual 92, 3) := by decide +kernel
theorem dX3_meet_41 : decode cX3_meet 41 = .ok (.ifCond .eq 7, 3) := by decide +kernel
theorem dX3_meet_44 : decode cX3_meet 44 = .ok (.iload_n 2, 1) := by decide +kernel
theorem dX3_meet_45 : decode cX3_meet 45 = .ok (.goto 12, 3) := by decide +kernel
theorem dX3_meet_48 : decode cX3_meet 48 = .ok (.aload_n 0, 1) := by decide +kernel
theorem dX3_meet_49 : decode cX3_meet 49 = .ok (.getfield 20, 3) := by decide +kernel
theorem dX3_meet_52 : decode cX3_meet 52 = .ok (.iload_n 1, 1) := by decide +kernel
theorem dX3_meet_53 : decode cX3_meet 53 = .ok (.iload_n 2, 1) := by decide +kernel
theorem dX3_meet_54 : decode cX3_meet 54 = .ok (.invokevirtual 109, 3) := by decide +kernel
theorem dX3_meet_57 : decode cX3_meet 57 = .ok (.ireturn, 1) := by decide +kernel
def rmX3_meet : Room := { frames := 4, cells := 0, slots := 0, locals := 90 }
noncomputable def f_X3_meet (x1 : Int32) (x2 : Int32) (u : HS) : Option (Int32) := (f_X3_faultOfPair x1 x2 u).bind (fun z1 => (if z1 = 0 then (if x1 = x2 then some x1 else (f_X2_encloses x1 x2 u.2.2.2.2.1).bind (fun z5 => (if z5 = 0 then (f_X2_encloses x2 x1 u.2.2.2.2.1).bind (fun z8 => (if z8 = 0 then (f_X2_innermost x1 x2 u.2.2.2.2.1).bind (fun z11 => some z11) else some x2)) else some x1))) else some z1))
section
variable {p : Program} {l : Launch} {e : Env} {s : State} {m : MethodId} {args : Array Value} {below : List Frame} {meth : Method} {c : Code}
variable {G : GX} {A : Nat → Prop} {ad : Nat → Nat} 
set_option maxHeartbeats 4000000 in
set_option maxRecDepth 100000 in
theorem w_X3_meet_0 (F : FX p m c cX3_meet 4 s args yX3_meet (some .int) RX3 meth) {z : Int32} : ∀ (x1 : Int32) (x2 : Int32) (u : HS) (ls : Array Slot), WD G A s (hw_ G ad u) s.heap [] → lv_has ls 4 [(0, .ref (ad 0)), (1, .int x1), (2, .int x2)] → f_X3_meet x1 x2 u = some z → W p l e rmX3_meet s m args below meth c s.heap [] 0 0 (MQ below (QO (some (.int z))) args s 0 0 (fun _ => False)) (F0 m 0 ls []) := by
  obtain ⟨⟨hx, hb, hml, hown, hts⟩, hr, hlocks⟩ := id F
  intro x1 x2 u ls hw hl h
  unfold f_X3_meet at h
  refine lv_aload_n hx hb dX3_meet_0 rfl (lv_at hl 0 rfl) ?_
  refine lv_iload_n hx hb dX3_meet_1 rfl (lv_at hl 1 rfl) ?_
  refine lv_iload_n hx hb dX3_meet_2 rfl (lv_at hl 2 rfl) ?_
  obtain ⟨z1, e2, h⟩ := bnd h
  refine k_X3_faultOfPair_h_ F hw e2 ⟨Nat.le_of_ble_eq_true rfl, Nat.le_of_ble_eq_true rfl⟩ ⟨Nat.zero_le _, Nat.zero_le _⟩ hl.1 (Nat.le_of_ble_eq_true rfl) dX3_meet_3 ?_
  refine lv_istore_n (lv' := [(3, .int z1), (0, .ref (ad 0)), (1, .int x1), (2, .int x2)]) hx hb dX3_meet_6 rfl hl (by decide) rfl (fun ls hl => ?_)
  refine lv_iload_n hx hb dX3_meet_7 rfl (lv_at hl 0 rfl) ?_
  refine lv_if_eq (tgt := 13) hx hb dX3_meet_8 rfl (fun c3 => ?_) (fun c3 => ?_)
  · replace h := itT h c3
    refine lv_iload_n hx hb dX3_meet_13 rfl (lv_at hl 2 rfl) ?_
    refine lv_iload_n hx hb dX3_meet_14 rfl (lv_at hl 3 rfl) ?_
    refine lv_icmp_eq (tgt := 30) hx hb dX3_meet_15 rfl (fun c4 => ?_) (fun c4 => ?_)
    · replace h := itT h c4
      refine lv_iload_n hx hb dX3_meet_30 rfl (lv_at hl 2 rfl) ?_
      cases h
      exact retO_i F dX3_meet_31
    · replace h := itF h c4
      refine lv_aload_n hx hb dX3_meet_18 rfl (lv_at hl 1 rfl) ?_
      refine h_g0_2 F hw dX3_meet_19 ?_
      refine lv_iload_n hx hb dX3_meet_22 rfl (lv_at hl 2 rfl) ?_
      refine lv_iload_n hx hb dX3_meet_23 rfl (lv_at hl 3 rfl) ?_
      obtain ⟨z5, e6, h⟩ := bnd h
      refine k_X2_encloses_h_ F hw e6 ⟨Nat.le_of_ble_eq_true rfl, Nat.le_of_ble_eq_true rfl⟩ ⟨Nat.zero_le _, Nat.zero_le _⟩ hl.1 (Nat.le_of_ble_eq_true rfl) dX3_meet_24 ?_
      refine lv_if_eq (tgt := 32) hx hb dX3_meet_27 rfl (fun c7 => ?_) (fun c7 => ?_)
      · replace h := itT h c7
        refine lv_aload_n hx hb dX3_meet_32 rfl (lv_at hl 1 rfl) ?_
        refine h_g0_2 F hw dX3_meet_33 ?_
        refine lv_iload_n hx hb dX3_meet_36 rfl (lv_at hl 3 rfl) ?_
        refine lv_iload_n hx hb dX3_meet_37 rfl (lv_at hl 2 rfl) ?_
        obtain ⟨z8, e9, h⟩ := bnd h
        refine k_X2_encloses_h_ F hw e9 ⟨Nat.le_of_ble_eq_true rfl, Nat.le_of_ble_eq_true rfl⟩ ⟨Nat.zero_le _, Nat.zero_le _⟩ hl.1 (Nat.le_of_ble_eq_true rfl) dX3_meet_38 ?_
        refine lv_if_eq (tgt := 48) hx hb dX3_meet_41 rfl (fun c10 => ?_) (fun c10 => ?_)
        · replace h := itT h c10
          refine lv_aload_n hx hb dX3_meet_48 rfl (lv_at hl 1 rfl) ?_
          refine h_g0_2 F hw dX3_meet_49 ?_
          refine lv_iload_n hx hb dX3_meet_52 rfl (lv_at hl 2 rfl) ?_
          refine lv_iload_n hx hb dX3_meet_53 rfl (lv_at hl 3 rfl) ?_
          obtain ⟨z11, e12, h⟩ := bnd h
          refine k_X2_innermost_h_ F hw e12 ⟨Nat.le_of_ble_eq_true rfl, Nat.le_of_ble_eq_true rfl⟩ ⟨Nat.zero_le _, Nat.zero_le _⟩ hl.1 (Nat.le_of_ble_eq_true rfl) dX3_meet_54 ?_
          cases h
          exact retO_i F dX3_meet_57
        · replace h := itF h c10
          refine lv_iload_n hx hb dX3_meet_44 rfl (lv_at hl 3 rfl) ?_
          refine lv_goto (tgt := 57) hx hb dX3_meet_45 rfl ?_
          cases h
          exact retO_i F dX3_meet_57
      · replace h := itF h c7
        refine lv_iload_n hx hb dX3_meet_30 rfl (lv_at hl 2 rfl) ?_
        cases h
        exact retO_i F dX3_meet_31
  · replace h := itF h c3
    refine lv_iload_n hx hb dX3_meet_11 rfl (lv_at hl 0 rfl) ?_
    cases h
    exact retO_i F dX3_meet_12
end
theorem c_X3_meet {l : Launch} {G : GX} {ad : Nat → Nat} {x1 : Int32} {x2 : Int32} {u : HS} {z : Int32} (h : f_X3_meet x1 x2 u = some z) : MO l yX3_meet cX3_meet 4 (some .int) rmX3_meet G (hw_ G ad u) [.ref (ad 0), .int x1, .int x2] (some (.int z)) := MO.of (by decide) (Nat.le_of_ble_eq_true rfl) (fun p e s m below meth c ls F hw hl => w_X3_meet_0 F _ _ _ _ hw hl h)
/-! ===== X3_depth ===== -/
theorem dX3_depth_0 : decode cX3_depth 0 = .ok (.aload_n 0, 1) := by decide +kernel
theorem dX3_depth_1 : decode cX3_depth 1 = .ok (.iload_n 1, 1) := by decide +kernel
theorem dX3_depth_2 : decode cX3_depth 2 = .ok (.invokevirtual 66, 3) := by decide +kernel
theorem dX3_depth_5 : decode cX3_depth 5 = .ok (.ifCond .eq 14, 3) := by decide +kernel
theorem dX3_depth_8 : decode cX3_depth 8 = .ok (.aload_n 0, 1) := by decide +kernel
theorem dX3_depth_9 : decode cX3_depth 9 = .ok (.getfield 20, 3) := by decide +kernel
theorem dX3_depth_12 : decode cX3_depth 12 = .ok (.iload_n 1, 1) := by decide +kernel
theorem dX3_depth_13 : decode cX3_depth 13 = .ok (.invokevirtual 151, 3) := by decide +kernel
theorem dX3_depth_16 : decode cX3_depth 16 = .ok (.goto 5, 3) := by decide +kernel
theorem dX3_depth_19 : decode cX3_depth 19 = .ok (.bipush (-3), 2) := by decide +kernel
theorem dX3_depth_21 : decode cX3_depth 21 = .ok (.ireturn, 1) := by decide +kernel
theorem yv_X2_enclosingCount_X3 : YV RX3 151 yX2_enclosingCount cX2_enclosingCount 6 (some .int) 1 := ⟨(tw 442 (by decide +kernel) rfl), (tw 2 (by decide +kernel) rfl), (tw 439 (by decide +kernel) rfl), (tw 440 (by decide +kernel) rfl), (tw 441 (by decide +kernel) rfl), by decide +kernel⟩
theorem k_X2_enclosingCount_h_ {p : Program} {l : Launch} {e : Env} {R : Room} {s : State} {m : MethodId} {args : Array Value} {below : List Frame} {meth : Method} {c : Code} {H : Heap} {locs : List Loc} {cells slots : Nat} {Q : State → Prop} {G : GX} {A : Nat → Prop} {ad : Nat → Nat} {u : HS} {cc : ByteArray} {nL pc : Nat} {y : MethodName} {ret : Option FieldType} {ls : Array Slot} {rest : List Value} {x1 : Int32} {z : Int32} (F : FX p m c cc nL s args y ret RX3 meth) (hw : WD G A s (hw_ G ad u) H locs) (h : f_X2_enclosingCount x1 u.2.2.2.2.1 = some z) (hR : rmX2_enclosingCount.frames + 1 ≤ R.frames ∧ 8 + (6 + 11) + rmX2_enclosingCount.locals ≤ R.locals) (hcs : cells ≤ R.cells ∧ slots ≤ R.slots) (hsz : ls.size = nL) (hW : (rest.map fun v => v.category).sum ≤ 8) (hdg : decode cc pc = .ok (.invokevirtual 151, 3)) (kk : W p l e R s m args below meth c H locs cells slots Q (F0 m (pc + 3) ls (.int z :: rest))) : W p l e R s m args below meth c H locs cells slots Q (F0 m pc ls (.int x1 :: .ref (u.1 0) :: rest)) := callO (runV F yv_X2_enclosingCount_X3 (c_X2_enclosingCount h (ad := u.1)) hw.1 (hw.2.1.sub [3, 4, 5, 6, 7, 8, 9, 10, 11, 12, 13, 14, 15, 16] rfl) (hw.2.2.1.sub [3, 4, 5, 6, 7, 8, 9, 10, 11, 12, 13, 14, 15, 16] (by decide) rfl) rfl rfl rfl ⟨rfl, rfl⟩ hR hcs rfl hsz rfl hW hdg) kk
def rmX3_depth : Room := { frames := 4, cells := 0, slots := 0, locals := 90 }
noncomputable def f_X3_depth (x1 : Int32) (u : HS) : Option (Int32) := (f_X3_isStanding x1 u).bind (fun z1 => (if z1 = 0 then some (-3) else (f_X2_enclosingCount x1 u.2.2.2.2.1).bind (fun z4 => some z4)))
section
variable {p : Program} {l : Launch} {e : Env} {s : State} {m : MethodId} {args : Array Value} {below : List Frame} {meth : Method} {c : Code}
variable {G : GX} {A : Nat → Prop} {ad : Nat → Nat} 
set_option maxHeartbeats 4000000 in
set_option maxRecDepth 100000 in
theorem w_X3_depth_0 (F : FX p m c cX3_depth 2 s args yX3_depth (some .int) RX3 meth) {z : Int32} : ∀ (x1 : Int32) (u : HS) (ls : Array Slot), WD G A s (hw_ G ad u) s.heap [] → lv_has ls 2 [(0, .ref (ad 0)), (1, .int x1)] → f_X3_depth x1 u = some z → W p l e rmX3_depth s m args below meth c s.heap [] 0 0 (MQ below (QO (some (.int z))) args s 0 0 (fun _ => False)) (F0 m 0 ls []) := by
  obtain ⟨⟨hx, hb, hml, hown, hts⟩, hr, hlocks⟩ := id F
  intro x1 u ls hw hl h
  unfold f_X3_depth at h
  refine lv_aload_n hx hb dX3_depth_0 rfl (lv_at hl 0 rfl) ?_
  refine lv_iload_n hx hb dX3_depth_1 rfl (lv_at hl 1 rfl) ?_
  obtain ⟨z1, e2, h⟩ := bnd h
  refine k_X3_isStanding_h_ F hw e2 ⟨Nat.le_of_ble_eq_true rfl, Nat.le_of_ble_eq_true rfl⟩ ⟨Nat.zero_le _, Nat.zero_le _⟩ hl.1 (Nat.le_of_ble_eq_true rfl) dX3_depth_2 ?_
  refine lv_if_eq (tgt := 19) hx hb dX3_depth_5 rfl (fun c3 => ?_) (fun c3 => ?_)
  · replace h := itT h c3
    refine lv_bipush (v := (-3)) hx hb dX3_depth_19 rfl ?_
    cases h
    exact retO_i F dX3_depth_21
  · replace h := itF h c3
    refine lv_aload_n hx hb dX3_depth_8 rfl (lv_at hl 0 rfl) ?_
    refine h_g0_2 F hw dX3_depth_9 ?_
    refine lv_iload_n hx hb dX3_depth_12 rfl (lv_at hl 1 rfl) ?_
    obtain ⟨z4, e5, h⟩ := bnd h
    refine k_X2_enclosingCount_h_ F hw e5 ⟨Nat.le_of_ble_eq_true rfl, Nat.le_of_ble_eq_true rfl⟩ ⟨Nat.zero_le _, Nat.zero_le _⟩ hl.1 (Nat.le_of_ble_eq_true rfl) dX3_depth_13 ?_
    refine lv_goto (tgt := 21) hx hb dX3_depth_16 rfl ?_
    cases h
    exact retO_i F dX3_depth_21
end
theorem c_X3_depth {l : Launch} {G : GX} {ad : Nat → Nat} {x1 : Int32} {u : HS} {z : Int32} (h : f_X3_depth x1 u = some z) : MO l yX3_depth cX3_depth 2 (some .int) rmX3_depth G (hw_ G ad u) [.ref (ad 0), .int x1] (some (.int z)) := MO.of (by decide) (Nat.le_of_ble_eq_true rfl) (fun p e s m below meth c ls F hw hl => w_X3_depth_0 F _ _ _ hw hl h)
/-! ===== X3_rowOf ===== -/
theorem dX3_rowOf_0 : decode cX3_rowOf 0 = .ok (.iload_n 1, 1) := by decide +kernel
theorem dX3_rowOf_1 : decode cX3_rowOf 1 = .ok (.ifCond .lt 25, 3) := by decide +kernel
theorem dX3_rowOf_4 : decode cX3_rowOf 4 = .ok (.iload_n 1, 1) := by decide +kernel
theorem dX3_rowOf_5 : decode cX3_rowOf 5 = .ok (.aload_n 0, 1) := by decide +kernel
theorem dX3_rowOf_6 : decode cX3_rowOf 6 = .ok (.getfield 31, 3) := by decide +kernel
theorem dX3_rowOf_9 : decode cX3_rowOf 9 = .ok (.if_icmp .ge 17, 3) := by decide +kernel
theorem dX3_rowOf_12 : decode cX3_rowOf 12 = .ok (.aload_n 0, 1) := by decide +kernel
theorem dX3_rowOf_13 : decode cX3_rowOf 13 = .ok (.getfield 20, 3) := by decide +kernel
theorem dX3_rowOf_16 : decode cX3_rowOf 16 = .ok (.getfield 69, 3) := by decide +kernel
theorem dX3_rowOf_19 : decode cX3_rowOf 19 = .ok (.iload_n 1, 1) := by decide +kernel
theorem dX3_rowOf_20 : decode cX3_rowOf 20 = .ok (.invokevirtual 73, 3) := by decide +kernel
theorem dX3_rowOf_23 : decode cX3_rowOf 23 = .ok (.goto 5, 3) := by decide +kernel
theorem dX3_rowOf_26 : decode cX3_rowOf 26 = .ok (.bipush (-3), 2) := by decide +kernel
theorem dX3_rowOf_28 : decode cX3_rowOf 28 = .ok (.ireturn, 1) := by decide +kernel
def rmX3_rowOf : Room := { frames := 1, cells := 0, slots := 0, locals := 21 }
noncomputable def f_X3_rowOf (x1 : Int32) (u : HS) : Option (Int32) := (if x1 < 0 then some (-3) else (if (u.2.2.1 5) ≤ x1 then some (-3) else (f_X1_rowOfThing x1 u.2.2.2.2.1.1).bind (fun z3 => some z3)))
section
variable {p : Program} {l : Launch} {e : Env} {s : State} {m : MethodId} {args : Array Value} {below : List Frame} {meth : Method} {c : Code}
variable {G : GX} {A : Nat → Prop} {ad : Nat → Nat} 
set_option maxHeartbeats 4000000 in
set_option maxRecDepth 100000 in
theorem w_X3_rowOf_0 (F : FX p m c cX3_rowOf 2 s args yX3_rowOf (some .int) RX3 meth) {z : Int32} : ∀ (x1 : Int32) (u : HS) (ls : Array Slot), WD G A s (hw_ G ad u) s.heap [] → lv_has ls 2 [(0, .ref (ad 0)), (1, .int x1)] → f_X3_rowOf x1 u = some z → W p l e rmX3_rowOf s m args below meth c s.heap [] 0 0 (MQ below (QO (some (.int z))) args s 0 0 (fun _ => False)) (F0 m 0 ls []) := by
  obtain ⟨⟨hx, hb, hml, hown, hts⟩, hr, hlocks⟩ := id F
  intro x1 u ls hw hl h
  unfold f_X3_rowOf at h
  refine lv_iload_n hx hb dX3_rowOf_0 rfl (lv_at hl 1 rfl) ?_
  refine lv_if_lt (tgt := 26) hx hb dX3_rowOf_1 rfl (fun c1 => ?_) (fun c1 => ?_)
  · replace h := itT h c1
    refine lv_bipush (v := (-3)) hx hb dX3_rowOf_26 rfl ?_
    cases h
    exact retO_i F dX3_rowOf_28
  · replace h := itF h c1
    refine lv_iload_n hx hb dX3_rowOf_4 rfl (lv_at hl 1 rfl) ?_
    refine lv_aload_n hx hb dX3_rowOf_5 rfl (lv_at hl 0 rfl) ?_
    refine h_g0_5 F hw dX3_rowOf_6 ?_
    refine lv_icmp_ge (tgt := 26) hx hb dX3_rowOf_9 rfl (fun c2 => ?_) (fun c2 => ?_)
    · replace h := itT h c2
      refine lv_bipush (v := (-3)) hx hb dX3_rowOf_26 rfl ?_
      cases h
      exact retO_i F dX3_rowOf_28
    · replace h := itF h c2
      refine lv_aload_n hx hb dX3_rowOf_12 rfl (lv_at hl 0 rfl) ?_
      refine h_g0_2 F hw dX3_rowOf_13 ?_
      refine h_g3_0 F hw dX3_rowOf_16 ?_
      refine lv_iload_n hx hb dX3_rowOf_19 rfl (lv_at hl 1 rfl) ?_
      obtain ⟨z3, e4, h⟩ := bnd h
      refine k_X1_rowOfThing_h_ F hw e4 ⟨Nat.le_of_ble_eq_true rfl, Nat.le_of_ble_eq_true rfl⟩ ⟨Nat.zero_le _, Nat.zero_le _⟩ hl.1 (Nat.le_of_ble_eq_true rfl) dX3_rowOf_20 ?_
      refine lv_goto (tgt := 28) hx hb dX3_rowOf_23 rfl ?_
      cases h
      exact retO_i F dX3_rowOf_28
end
theorem c_X3_rowOf {l : Launch} {G : GX} {ad : Nat → Nat} {x1 : Int32} {u : HS} {z : Int32} (h : f_X3_rowOf x1 u = some z) : MO l yX3_rowOf cX3_rowOf 2 (some .int) rmX3_rowOf G (hw_ G ad u) [.ref (ad 0), .int x1] (some (.int z)) := MO.of (by decide) (Nat.le_of_ble_eq_true rfl) (fun p e s m below meth c ls F hw hl => w_X3_rowOf_0 F _ _ _ hw hl h)
/-! ===== X3_mark ===== -/
theorem dX3_mark_0 : decode cX3_mark 0 = .ok (.iload_n 1, 1) := by decide +kernel
theorem dX3_mark_1 : decode cX3_mark 1 = .ok (.ifCond .lt 30, 3) := by decide +kernel
theorem dX3_mark_4 : decode cX3_mark 4 = .ok (.iload_n 1, 1) := by decide +kernel
theorem dX3_mark_5 : decode cX3_mark 5 = .ok (.bipush 20, 2) := by decide +kernel
theorem dX3_mark_7 : decode cX3_mark 7 = .ok (.if_icmp .ge 24, 3) := by decide +kernel
theorem dX3_mark_10 : decode cX3_mark 10 = .ok (.iload 4, 2) := by decide +kernel
theorem dX3_mark_12 : decode cX3_mark 12 = .ok (.ifCond .lt 19, 3) := by decide +kernel
theorem dX3_mark_15 : decode cX3_mark 15 = .ok (.iload 4, 2) := by decide +kernel
theorem dX3_mark_17 : decode cX3_mark 17 = .ok (.iconst 1, 1) := by decide +kernel
theorem dX3_mark_18 : decode cX3_mark 18 = .ok (.if_icmp .gt 13, 3) := by decide +kernel
theorem dX3_mark_21 : decode cX3_mark 21 = .ok (.aload_n 0, 1) := by decide +kernel
theorem dX3_mark_22 : decode cX3_mark 22 = .ok (.iload_n 2, 1) := by decide +kernel
theorem dX3_mark_23 : decode cX3_mark 23 = .ok (.iload_n 3, 1) := by decide +kernel
theorem dX3_mark_24 : decode cX3_mark 24 = .ok (.iconst 0, 1) := by decide +kernel
theorem dX3_mark_25 : decode cX3_mark 25 = .ok (.invokevirtual 54, 3) := by decide +kernel
theorem dX3_mark_28 : decode cX3_mark 28 = .ok (.ifCond .ne 6, 3) := by decide +kernel
theorem dX3_mark_31 : decode cX3_mark 31 = .ok (.bipush (-3), 2) := by decide +kernel
theorem dX3_mark_33 : decode cX3_mark 33 = .ok (.ireturn, 1) := by decide +kernel
theorem dX3_mark_34 : decode cX3_mark 34 = .ok (.aload_n 0, 1) := by decide +kernel
theorem dX3_mark_35 : decode cX3_mark 35 = .ok (.invokevirtual 41, 3) := by decide +kernel
theorem dX3_mark_38 : decode cX3_mark 38 = .ok (.aload_n 0, 1) := by decide +kernel
theorem dX3_mark_39 : decode cX3_mark 39 = .ok (.getfield 20, 3) := by decide +kernel
theorem dX3_mark_42 : decode cX3_mark 42 = .ok (.getfield 154, 3) := by decide +kernel
theorem dX3_mark_45 : decode cX3_mark 45 = .ok (.iload_n 1, 1) := by decide +kernel
theorem dX3_mark_46 : decode cX3_mark 46 = .ok (.iload_n 2, 1) := by decide +kernel
theorem dX3_mark_47 : decode cX3_mark 47 = .ok (.iload_n 3, 1) := by decide +kernel
theorem dX3_mark_48 : decode cX3_mark 48 = .ok (.iconst 0, 1) := by decide +kernel
theorem dX3_mark_49 : decode cX3_mark 49 = .ok (.invokestatic 58, 3) := by decide +kernel
theorem dX3_mark_52 : decode cX3_mark 52 = .ok (.iload 4, 2) := by decide +kernel
theorem dX3_mark_54 : decode cX3_mark 54 = .ok (.invokevirtual 158, 3) := by decide +kernel
theorem dX3_mark_57 : decode cX3_mark 57 = .ok (.aload_n 0, 1) := by decide +kernel
theorem dX3_mark_58 : decode cX3_mark 58 = .ok (.iconst 1, 1) := by decide +kernel
theorem dX3_mark_59 : decode cX3_mark 59 = .ok (.invokevirtual 50, 3) := by decide +kernel
theorem dX3_mark_62 : decode cX3_mark 62 = .ok (.iconst 0, 1) := by decide +kernel
theorem dX3_mark_63 : decode cX3_mark 63 = .ok (.ireturn, 1) := by decide +kernel
theorem h_g3_1 {p : Program} {l : Launch} {e : Env} {R : Room} {s : State} {m : MethodId} {args : Array Value} {below : List Frame} {meth : Method} {c : Code} {H : Heap} {locs : List Loc} {cells slots : Nat} {Q : State → Prop} {G : GX} {A : Nat → Prop} {ad : Nat → Nat} {u : HS} {cc : ByteArray} {nL pc : Nat} {y : MethodName} {ret : Option FieldType} {ls : Array Slot} {rest : List Value} (F : FX p m c cc nL s args y ret RX3 meth) (hw : WD G A s (hw_ G ad u) H locs) (hdg : decode cc pc = .ok (.getfield 154, 3)) (kk : W p l e R s m args below meth c H locs cells slots Q (F0 m (pc + 3) ls (.ref (u.1 5) :: rest))) : W p l e R s m args below meth c H locs cells slots Q (F0 m pc ls (.ref (u.1 0) :: rest)) := va_get (D := G.1) (ci := 2) (C := RX2) (T := TX2) (N := 8) (Ts := lw_gt) F.1.1 F.1.2.1 (fun _ h => F.tb h) inX2 F.1.2.2.2.1 hw.1.1 hw.2.1 3 rfl rfl 1 (by decide) (F.tb (tw 70 (by decide +kernel) rfl)) (fun _ h9 => h9) rfl hdg kk
theorem yv_X0_set_X3 : YV RX3 158 yX0_set cX0_set 5 none 4 := ⟨(tw 454 (by decide +kernel) rfl), (tw 5 (by decide +kernel) rfl), (tw 451 (by decide +kernel) rfl), (tw 452 (by decide +kernel) rfl), (tw 453 (by decide +kernel) rfl), by decide +kernel⟩
theorem k_X0_set_h_ {p : Program} {l : Launch} {e : Env} {R : Room} {s : State} {m : MethodId} {args : Array Value} {below : List Frame} {meth : Method} {c : Code} {H : Heap} {locs : List Loc} {cells slots : Nat} {Q : State → Prop} {G : GX} {A : Nat → Prop} {ad : Nat → Nat} {u : HS} {cc : ByteArray} {nL pc : Nat} {y : MethodName} {ret : Option FieldType} {ls : Array Slot} {rest : List Value} {x1 : Int32} {x2 : Int32} {x3 : Int32} {x4 : Int32} {z : OS} (F : FX p m c cc nL s args y ret RX3 meth) (hw : WD G A s (hw_ G ad u) H locs) (h : f_X0_set x1 x2 x3 x4 u.2.2.2.2.1.2.1 = some z) (hR : rmX0_set.frames + 1 ≤ R.frames ∧ 8 + (5 + 11) + rmX0_set.locals ≤ R.locals) (hcs : cells ≤ R.cells ∧ slots ≤ R.slots) (hsz : ls.size = nL) (hW : (rest.map fun v => v.category).sum ≤ 8) (hdg : decode cc pc = .ok (.invokevirtual 158, 3)) (kk : ∀ (H : Heap) (locs : List Loc), WD G A s (hw_ G ad (hN u (sK u.2.2.2.2.1 z))) H locs → W p l e R s m args below meth c H locs cells slots Q (F0 m (pc + 3) ls (rest))) : W p l e R s m args below meth c H locs cells slots Q (F0 m pc ls (.int x4 :: .int x3 :: .int x2 :: .int x1 :: .ref (u.1 5) :: rest)) := callW (runV F yv_X0_set_X3 (c_X0_set h (ad := (fun k => u.1 (k + 5)))) hw.1 (hw.2.1.sub [8, 9, 10, 11] rfl) (hw.2.2.1.sub [8, 9, 10, 11] (by decide) rfl) rfl rfl rfl ⟨rfl, rfl⟩ hR hcs rfl hsz rfl hW hdg) hw.2.2.2 (hw.2.2.1.sub [8, 9, 10, 11] (by decide) rfl).own_in (fun H1 l1 hP hk hS => kk H1 l1 ⟨hw.1, subT (joinT (wx := (hxw G ad u)) (N := 17) rfl hw.2.1 hw.2.2.1 [8, 9, 10, 11] [0, 1, 2, 3, 4, 5, 6, 7, 12, 13, 14, 15, 16] rfl (by decide) (by decide) hk hP) [0, 1, 2, 3, 4, 5, 6, 7, 13, 14, 15, 16, 8, 9, 10, 11, 12] rfl, hw.2.2.1.addr rfl, hS⟩)
def rmX3_mark : Room := { frames := 4, cells := 0, slots := 0, locals := 88 }
noncomputable def f_X3_mark (x1 : Int32) (x2 : Int32) (x3 : Int32) (x4 : Int32) (u : HS) : Option (Int32 × HS) := (if x1 < 0 then some ((-3), u) else (if (20 : Int32) ≤ x1 then some ((-3), u) else (if x4 < 0 then some ((-3), u) else (if (1 : Int32) < x4 then some ((-3), u) else (f_X3_isPlace x2 x3 0 u).bind (fun z5 => (if z5 = 0 then some ((-3), u) else (f_X3_beginChange u).bind (fun z8 => (f_X3_standOf x3 0).bind (fun z10 => (f_X0_set x1 x2 z10 x4 z8.2.2.2.2.1.2.1).bind (fun z12 => (f_X3_endChange 1 (hN z8 (sK z8.2.2.2.2.1 z12))).bind (fun z14 => some (0, z14)))))))))))
section
variable {p : Program} {l : Launch} {e : Env} {s : State} {m : MethodId} {args : Array Value} {below : List Frame} {meth : Method} {c : Code}
variable {G : GX} {A : Nat → Prop} {ad : Nat → Nat} 
set_option maxHeartbeats 4000000 in
set_option maxRecDepth 100000 in
theorem w_X3_mark_0 (F : FX p m c cX3_mark 5 s args yX3_mark (some .int) RX3 meth) {z : Int32 × HS} : ∀ (x1 : Int32) (x2 : Int32) (x3 : Int32) (x4 : Int32) (u : HS) (H : Heap) (locs : List Loc) (ls : Array Slot), WD G A s (hw_ G ad u) H locs → lv_has ls 5 [(0, .ref (ad 0)), (1, .int x1), (2, .int x2), (3, .int x3), (4, .int x4)] → f_X3_mark x1 x2 x3 x4 u = some z → W p l e rmX3_mark s m args below meth c H locs 0 0 (MQ below (QH G (hw_ G ad z.2) A (some (.int z.1))) args s 0 0 A) (F0 m 0 ls []) := by
  obtain ⟨⟨hx, hb, hml, hown, hts⟩, hr, hlocks⟩ := id F
  intro x1 x2 x3 x4 u H locs ls hw hl h
  unfold f_X3_mark at h
  refine lv_iload_n hx hb dX3_mark_0 rfl (lv_at hl 1 rfl) ?_
  refine lv_if_lt (tgt := 31) hx hb dX3_mark_1 rfl (fun c1 => ?_) (fun c1 => ?_)
  · replace h := itT h c1
    refine lv_bipush (v := (-3)) hx hb dX3_mark_31 rfl ?_
    cases h
    exact retH_i F hw dX3_mark_33
  · replace h := itF h c1
    refine lv_iload_n hx hb dX3_mark_4 rfl (lv_at hl 1 rfl) ?_
    refine lv_bipush (v := 20) hx hb dX3_mark_5 rfl ?_
    refine lv_icmp_ge (tgt := 31) hx hb dX3_mark_7 rfl (fun c2 => ?_) (fun c2 => ?_)
    · replace h := itT h c2
      refine lv_bipush (v := (-3)) hx hb dX3_mark_31 rfl ?_
      cases h
      exact retH_i F hw dX3_mark_33
    · replace h := itF h c2
      refine lv_iload hx hb dX3_mark_10 (lv_at hl 4 rfl) ?_
      refine lv_if_lt (tgt := 31) hx hb dX3_mark_12 rfl (fun c3 => ?_) (fun c3 => ?_)
      · replace h := itT h c3
        refine lv_bipush (v := (-3)) hx hb dX3_mark_31 rfl ?_
        cases h
        exact retH_i F hw dX3_mark_33
      · replace h := itF h c3
        refine lv_iload hx hb dX3_mark_15 (lv_at hl 4 rfl) ?_
        refine lv_iconst (v := 1) hx hb dX3_mark_17 rfl ?_
        refine lv_icmp_gt (tgt := 31) hx hb dX3_mark_18 rfl (fun c4 => ?_) (fun c4 => ?_)
        · replace h := itT h c4
          refine lv_bipush (v := (-3)) hx hb dX3_mark_31 rfl ?_
          cases h
          exact retH_i F hw dX3_mark_33
        · replace h := itF h c4
          refine lv_aload_n hx hb dX3_mark_21 rfl (lv_at hl 0 rfl) ?_
          refine lv_iload_n hx hb dX3_mark_22 rfl (lv_at hl 2 rfl) ?_
          refine lv_iload_n hx hb dX3_mark_23 rfl (lv_at hl 3 rfl) ?_
          refine lv_iconst (v := 0) hx hb dX3_mark_24 rfl ?_
          obtain ⟨z5, e6, h⟩ := bnd h
          refine k_X3_isPlace_h_ F hw e6 ⟨Nat.le_of_ble_eq_true rfl, Nat.le_of_ble_eq_true rfl⟩ ⟨Nat.zero_le _, Nat.zero_le _⟩ hl.1 (Nat.le_of_ble_eq_true rfl) dX3_mark_25 ?_
          refine lv_if_ne (tgt := 34) hx hb dX3_mark_28 rfl (fun c7 => ?_) (fun c7 => ?_)
          · replace h := itF h c7
            refine lv_aload_n hx hb dX3_mark_34 rfl (lv_at hl 0 rfl) ?_
            obtain ⟨z8, e9, h⟩ := bnd h
            refine k_X3_beginChange_h_ F hw e9 ⟨Nat.le_of_ble_eq_true rfl, Nat.le_of_ble_eq_true rfl⟩ ⟨Nat.zero_le _, Nat.zero_le _⟩ hl.1 (Nat.le_of_ble_eq_true rfl) dX3_mark_35 (fun H locs hw => ?_)
            refine lv_aload_n hx hb dX3_mark_38 rfl (lv_at hl 0 rfl) ?_
            refine h_g0_2 F hw dX3_mark_39 ?_
            refine h_g3_1 F hw dX3_mark_42 ?_
            refine lv_iload_n hx hb dX3_mark_45 rfl (lv_at hl 1 rfl) ?_
            refine lv_iload_n hx hb dX3_mark_46 rfl (lv_at hl 2 rfl) ?_
            refine lv_iload_n hx hb dX3_mark_47 rfl (lv_at hl 3 rfl) ?_
            refine lv_iconst (v := 0) hx hb dX3_mark_48 rfl ?_
            obtain ⟨z10, e11, h⟩ := bnd h
            refine k_X3_standOf_h_ F hw e11 ⟨Nat.le_of_ble_eq_true rfl, Nat.le_of_ble_eq_true rfl⟩ ⟨Nat.zero_le _, Nat.zero_le _⟩ hl.1 (Nat.le_of_ble_eq_true rfl) dX3_mark_49 ?_
            refine lv_iload hx hb dX3_mark_52 (lv_at hl 4 rfl) ?_
            obtain ⟨z12, e13, h⟩ := bnd h
            refine k_X0_set_h_ F hw e13 ⟨Nat.le_of_ble_eq_true rfl, Nat.le_of_ble_eq_true rfl⟩ ⟨Nat.zero_le _, Nat.zero_le _⟩ hl.1 (Nat.le_of_ble_eq_true rfl) dX3_mark_54 (fun H locs hw => ?_)
            refine lv_aload_n hx hb dX3_mark_57 rfl (lv_at hl 0 rfl) ?_
            refine lv_iconst (v := 1) hx hb dX3_mark_58 rfl ?_
            obtain ⟨z14, e15, h⟩ := bnd h
            refine k_X3_endChange_h_ F hw e15 ⟨Nat.le_of_ble_eq_true rfl, Nat.le_of_ble_eq_true rfl⟩ ⟨Nat.zero_le _, Nat.zero_le _⟩ hl.1 (Nat.le_of_ble_eq_true rfl) dX3_mark_59 (fun H locs hw => ?_)
            refine lv_iconst (v := 0) hx hb dX3_mark_62 rfl ?_
            cases h
            exact retH_i F hw dX3_mark_63
          · replace h := itT h c7
            refine lv_bipush (v := (-3)) hx hb dX3_mark_31 rfl ?_
            cases h
            exact retH_i F hw dX3_mark_33
end
theorem c_X3_mark {l : Launch} {G : GX} {ad : Nat → Nat} {x1 : Int32} {x2 : Int32} {x3 : Int32} {x4 : Int32} {u : HS} {z : Int32 × HS} (h : f_X3_mark x1 x2 x3 x4 u = some z) : MH l yX3_mark cX3_mark 5 (some .int) rmX3_mark G (hw_ G ad u) (hw_ G ad z.2) [.ref (ad 0), .int x1, .int x2, .int x3, .int x4] (some (.int z.1)) := MH.of (by decide) (Nat.le_of_ble_eq_true rfl) (fun p e s m below meth c ls F hw hl => w_X3_mark_0 F _ _ _ _ _ _ _ _ hw hl h)
/-! ===== X3_marked ===== -/
theorem dX3_marked_0 : decode cX3_marked 0 = .ok (.aload_n 0, 1) := by decide +kernel
theorem dX3_marked_1 : decode cX3_marked 1 = .ok (.getfield 20, 3) := by decide +kernel
theorem dX3_marked_4 : decode cX3_marked 4 = .ok (.getfield 154, 3) := by decide +kernel
theorem dX3_marked_7 : decode cX3_marked 7 = .ok (.iload_n 1, 1) := by decide +kernel
theorem dX3_marked_8 : decode cX3_marked 8 = .ok (.invokevirtual 164, 3) := by decide +kernel
theorem dX3_marked_11 : decode cX3_marked 11 = .ok (.ifCond .ne 6, 3) := by decide +kernel
theorem dX3_marked_14 : decode cX3_marked 14 = .ok (.bipush (-3), 2) := by decide +kernel
theorem dX3_marked_16 : decode cX3_marked 16 = .ok (.ireturn, 1) := by decide +kernel
theorem dX3_marked_17 : decode cX3_marked 17 = .ok (.aload_n 0, 1) := by decide +kernel
theorem dX3_marked_18 : decode cX3_marked 18 = .ok (.getfield 20, 3) := by decide +kernel
theorem dX3_marked_21 : decode cX3_marked 21 = .ok (.getfield 154, 3) := by decide +kernel
theorem dX3_marked_24 : decode cX3_marked 24 = .ok (.getfield 167, 3) := by decide +kernel
theorem dX3_marked_27 : decode cX3_marked 27 = .ok (.iload_n 1, 1) := by decide +kernel
theorem dX3_marked_28 : decode cX3_marked 28 = .ok (.iaload, 1) := by decide +kernel
theorem dX3_marked_29 : decode cX3_marked 29 = .ok (.istore_n 2, 1) := by decide +kernel
theorem dX3_marked_30 : decode cX3_marked 30 = .ok (.iload_n 2, 1) := by decide +kernel
theorem dX3_marked_31 : decode cX3_marked 31 = .ok (.iconst (-1), 1) := by decide +kernel
theorem dX3_marked_32 : decode cX3_marked 32 = .ok (.if_icmp .ne 5, 3) := by decide +kernel
theorem dX3_marked_35 : decode cX3_marked 35 = .ok (.iconst (-1), 1) := by decide +kernel
theorem dX3_marked_36 : decode cX3_marked 36 = .ok (.ireturn, 1) := by decide +kernel
theorem dX3_marked_37 : decode cX3_marked 37 = .ok (.iload_n 2, 1) := by decide +kernel
theorem dX3_marked_38 : decode cX3_marked 38 = .ok (.invokestatic 170, 3) := by decide +kernel
theorem dX3_marked_41 : decode cX3_marked 41 = .ok (.ifCond .eq 14, 3) := by decide +kernel
theorem dX3_marked_44 : decode cX3_marked 44 = .ok (.sipush 1000, 3) := by decide +kernel
theorem dX3_marked_47 : decode cX3_marked 47 = .ok (.iload_n 2, 1) := by decide +kernel
theorem dX3_marked_48 : decode cX3_marked 48 = .ok (.invokestatic 173, 3) := by decide +kernel
theorem dX3_marked_51 : decode cX3_marked 51 = .ok (.iadd, 1) := by decide +kernel
theorem dX3_marked_52 : decode cX3_marked 52 = .ok (.goto 7, 3) := by decide +kernel
theorem dX3_marked_55 : decode cX3_marked 55 = .ok (.iload_n 2, 1) := by decide +kernel
theorem dX3_marked_56 : decode cX3_marked 56 = .ok (.invokestatic 173, 3) := by decide +kernel
theorem dX3_marked_59 : decode cX3_marked 59 = .ok (.ireturn, 1) := by decide +kernel
theorem yv_X0_isSet_X3 : YV RX3 164 yX0_isSet cX0_isSet 2 (some .boolean) 1 := ⟨(tw 462 (by decide +kernel) rfl), (tw 5 (by decide +kernel) rfl), (tw 459 (by decide +kernel) rfl), (tw 460 (by decide +kernel) rfl), (tw 461 (by decide +kernel) rfl), by decide +kernel⟩
theorem k_X0_isSet_h_ {p : Program} {l : Launch} {e : Env} {R : Room} {s : State} {m : MethodId} {args : Array Value} {below : List Frame} {meth : Method} {c : Code} {H : Heap} {locs : List Loc} {cells slots : Nat} {Q : State → Prop} {G : GX} {A : Nat → Prop} {ad : Nat → Nat} {u : HS} {cc : ByteArray} {nL pc : Nat} {y : MethodName} {ret : Option FieldType} {ls : Array Slot} {rest : List Value} {x1 : Int32} {z : Int32} (F : FX p m c cc nL s args y ret RX3 meth) (hw : WD G A s (hw_ G ad u) H locs) (h : f_X0_isSet x1 u.2.2.2.2.1.2.1 = some z) (hR : rmX0_isSet.frames + 1 ≤ R.frames ∧ 8 + (2 + 11) + rmX0_isSet.locals ≤ R.locals) (hcs : cells ≤ R.cells ∧ slots ≤ R.slots) (hsz : ls.size = nL) (hW : (rest.map fun v => v.category).sum ≤ 8) (hdg : decode cc pc = .ok (.invokevirtual 164, 3)) (kk : W p l e R s m args below meth c H locs cells slots Q (F0 m (pc + 3) ls (.int z :: rest))) : W p l e R s m args below meth c H locs cells slots Q (F0 m pc ls (.int x1 :: .ref (u.1 5) :: rest)) := callO (runV F yv_X0_isSet_X3 (c_X0_isSet h (ad := (fun k => u.1 (k + 5)))) hw.1 (hw.2.1.sub [8, 9, 10, 11] rfl) (hw.2.2.1.sub [8, 9, 10, 11] (by decide) rfl) rfl rfl rfl ⟨rfl, rfl⟩ hR hcs rfl hsz rfl hW hdg) kk
theorem h_g8_1 {p : Program} {l : Launch} {e : Env} {R : Room} {s : State} {m : MethodId} {args : Array Value} {below : List Frame} {meth : Method} {c : Code} {H : Heap} {locs : List Loc} {cells slots : Nat} {Q : State → Prop} {G : GX} {A : Nat → Prop} {ad : Nat → Nat} {u : HS} {cc : ByteArray} {nL pc : Nat} {y : MethodName} {ret : Option FieldType} {ls : Array Slot} {rest : List Value} (F : FX p m c cc nL s args y ret RX3 meth) (hw : WD G A s (hw_ G ad u) H locs) (hdg : decode cc pc = .ok (.getfield 167, 3)) (kk : W p l e R s m args below meth c H locs cells slots Q (F0 m (pc + 3) ls (.ref (u.1 7) :: rest))) : W p l e R s m args below meth c H locs cells slots Q (F0 m pc ls (.ref (u.1 5) :: rest)) := va_get (D := G.1) (ci := 0) (C := RX0) (T := TX0) (N := 3) (Ts := lw_gt) F.1.1 F.1.2.1 (fun _ h => F.tb h) inX0 F.1.2.2.2.1 hw.1.1 hw.2.1 8 rfl rfl 1 (by decide) (F.tb (tw 56 (by decide +kernel) rfl)) (fun _ h9 => h9) rfl hdg kk
theorem h_l10 {i : Int32} {p : Program} {l : Launch} {e : Env} {R : Room} {s : State} {m : MethodId} {args : Array Value} {below : List Frame} {meth : Method} {c : Code} {H : Heap} {locs : List Loc} {cells slots : Nat} {Q : State → Prop} {G : GX} {A : Nat → Prop} {ad : Nat → Nat} {u : HS} {cc : ByteArray} {nL pc : Nat} {y : MethodName} {ret : Option FieldType} {ls : Array Slot} {rest : List Value} (F : FX p m c cc nL s args y ret RX3 meth) (hw : WD G A s (hw_ G ad u) H locs) (hi : ix i 20 = true) (hdg : decode cc pc = .ok (.iaload, 1)) (kk : W p l e R s m args below meth c H locs cells slots Q (F0 m (pc + 1) ls (.int ((u.2.2.2.2.1.2.1 2) i.toNatClampNeg) :: rest))) : W p l e R s m args below meth c H locs cells slots Q (F0 m pc ls (.int i :: .ref (u.1 7) :: rest)) := va_iald F.1.1 F.1.2.1 hw.1.1 hw.2.1 10 0 rfl rfl (ix_in hi) hdg kk
theorem yv_X3_thingOf_X3 : YS RX3 173 yX3_thingOf cX3_thingOf 1 (some .int) 1 := ⟨(tw 213 (by decide +kernel) rfl), (tw 1 (by decide +kernel) rfl), (tw 463 (by decide +kernel) rfl), (tw 212 (by decide +kernel) rfl), by decide +kernel⟩
theorem k_X3_thingOf_h_ {p : Program} {l : Launch} {e : Env} {R : Room} {s : State} {m : MethodId} {args : Array Value} {below : List Frame} {meth : Method} {c : Code} {H : Heap} {locs : List Loc} {cells slots : Nat} {Q : State → Prop} {G : GX} {A : Nat → Prop} {ad : Nat → Nat} {u : HS} {cc : ByteArray} {nL pc : Nat} {y : MethodName} {ret : Option FieldType} {ls : Array Slot} {rest : List Value} {x0 : Int32} {z : Int32} (F : FX p m c cc nL s args y ret RX3 meth) (hw : WD G A s (hw_ G ad u) H locs) (h : f_X3_thingOf x0 = some z) (hR : rmX3_thingOf.frames + 1 ≤ R.frames ∧ 8 + (1 + 11) + rmX3_thingOf.locals ≤ R.locals) (hcs : cells ≤ R.cells ∧ slots ≤ R.slots) (hsz : ls.size = nL) (hW : (rest.map fun v => v.category).sum ≤ 8) (hdg : decode cc pc = .ok (.invokestatic 173, 3)) (kk : W p l e R s m args below meth c H locs cells slots Q (F0 m (pc + 3) ls (.int z :: rest))) : W p l e R s m args below meth c H locs cells slots Q (F0 m pc ls (.int x0 :: rest)) := callO (runS F yv_X3_thingOf_X3 (c_X3_thingOf h (G := G)) hw.1 nil_P (A := A) nil_D ⟨rfl, rfl⟩ hR hcs rfl hsz rfl hW hdg) kk
def rmX3_marked : Room := { frames := 1, cells := 0, slots := 0, locals := 21 }
noncomputable def f_X3_marked (x1 : Int32) (u : HS) : Option (Int32) := (f_X0_isSet x1 u.2.2.2.2.1.2.1).bind (fun z1 => (if z1 = 0 then some (-3) else (if ix x1 20 = true then (if ((u.2.2.2.2.1.2.1 2) (Int32.toNatClampNeg x1)) = ((-1) : Int32) then some (-1) else (f_X3_isEnd ((u.2.2.2.2.1.2.1 2) (Int32.toNatClampNeg x1))).bind (fun z6 => (if z6 = 0 then (f_X3_thingOf ((u.2.2.2.2.1.2.1 2) (Int32.toNatClampNeg x1))).bind (fun z9 => some z9) else (f_X3_thingOf ((u.2.2.2.2.1.2.1 2) (Int32.toNatClampNeg x1))).bind (fun z11 => some (1000 + z11))))) else none)))
section
variable {p : Program} {l : Launch} {e : Env} {s : State} {m : MethodId} {args : Array Value} {below : List Frame} {meth : Method} {c : Code}
variable {G : GX} {A : Nat → Prop} {ad : Nat → Nat} 
set_option maxHeartbeats 4000000 in
set_option maxRecDepth 100000 in
theorem w_X3_marked_0 (F : FX p m c cX3_marked 3 s args yX3_marked (some .int) RX3 meth) {z : Int32} : ∀ (x1 : Int32) (u : HS) (ls : Array Slot), WD G A s (hw_ G ad u) s.heap [] → lv_has ls 3 [(0, .ref (ad 0)), (1, .int x1)] → f_X3_marked x1 u = some z → W p l e rmX3_marked s m args below meth c s.heap [] 0 0 (MQ below (QO (some (.int z))) args s 0 0 (fun _ => False)) (F0 m 0 ls []) := by
  obtain ⟨⟨hx, hb, hml, hown, hts⟩, hr, hlocks⟩ := id F
  intro x1 u ls hw hl h
  unfold f_X3_marked at h
  refine lv_aload_n hx hb dX3_marked_0 rfl (lv_at hl 0 rfl) ?_
  refine h_g0_2 F hw dX3_marked_1 ?_
  refine h_g3_1 F hw dX3_marked_4 ?_
  refine lv_iload_n hx hb dX3_marked_7 rfl (lv_at hl 1 rfl) ?_
  obtain ⟨z1, e2, h⟩ := bnd h
  refine k_X0_isSet_h_ F hw e2 ⟨Nat.le_of_ble_eq_true rfl, Nat.le_of_ble_eq_true rfl⟩ ⟨Nat.zero_le _, Nat.zero_le _⟩ hl.1 (Nat.le_of_ble_eq_true rfl) dX3_marked_8 ?_
  refine lv_if_ne (tgt := 17) hx hb dX3_marked_11 rfl (fun c3 => ?_) (fun c3 => ?_)
  · replace h := itF h c3
    refine lv_aload_n hx hb dX3_marked_17 rfl (lv_at hl 0 rfl) ?_
    refine h_g0_2 F hw dX3_marked_18 ?_
    refine h_g3_1 F hw dX3_marked_21 ?_
    refine h_g8_1 F hw dX3_marked_24 ?_
    refine lv_iload_n hx hb dX3_marked_27 rfl (lv_at hl 1 rfl) ?_
    obtain ⟨g4, h⟩ := gd h
    refine h_l10 F hw g4 dX3_marked_28 ?_
    refine lv_istore_n (lv' := [(2, .int ((u.2.2.2.2.1.2.1 2) (Int32.toNatClampNeg x1))), (0, .ref (ad 0)), (1, .int x1)]) hx hb dX3_marked_29 rfl hl (by decide) rfl (fun ls hl => ?_)
    refine lv_iload_n hx hb dX3_marked_30 rfl (lv_at hl 0 rfl) ?_
    refine lv_iconst (v := (-1)) hx hb dX3_marked_31 rfl ?_
    refine lv_icmp_ne (tgt := 37) hx hb dX3_marked_32 rfl (fun c5 => ?_) (fun c5 => ?_)
    · replace h := itF h c5
      refine lv_iload_n hx hb dX3_marked_37 rfl (lv_at hl 0 rfl) ?_
      obtain ⟨z6, e7, h⟩ := bnd h
      refine k_X3_isEnd_h_ F hw e7 ⟨Nat.le_of_ble_eq_true rfl, Nat.le_of_ble_eq_true rfl⟩ ⟨Nat.zero_le _, Nat.zero_le _⟩ hl.1 (Nat.le_of_ble_eq_true rfl) dX3_marked_38 ?_
      refine lv_if_eq (tgt := 55) hx hb dX3_marked_41 rfl (fun c8 => ?_) (fun c8 => ?_)
      · replace h := itT h c8
        refine lv_iload_n hx hb dX3_marked_55 rfl (lv_at hl 0 rfl) ?_
        obtain ⟨z9, e10, h⟩ := bnd h
        refine k_X3_thingOf_h_ F hw e10 ⟨Nat.le_of_ble_eq_true rfl, Nat.le_of_ble_eq_true rfl⟩ ⟨Nat.zero_le _, Nat.zero_le _⟩ hl.1 (Nat.le_of_ble_eq_true rfl) dX3_marked_56 ?_
        cases h
        exact retO_i F dX3_marked_59
      · replace h := itF h c8
        refine lv_sipush (v := 1000) hx hb dX3_marked_44 rfl ?_
        refine lv_iload_n hx hb dX3_marked_47 rfl (lv_at hl 0 rfl) ?_
        obtain ⟨z11, e12, h⟩ := bnd h
        refine k_X3_thingOf_h_ F hw e12 ⟨Nat.le_of_ble_eq_true rfl, Nat.le_of_ble_eq_true rfl⟩ ⟨Nat.zero_le _, Nat.zero_le _⟩ hl.1 (Nat.le_of_ble_eq_true rfl) dX3_marked_48 ?_
        refine lv_iadd hx hb dX3_marked_51 ?_
        refine lv_goto (tgt := 59) hx hb dX3_marked_52 rfl ?_
        cases h
        exact retO_i F dX3_marked_59
    · replace h := itT h c5
      refine lv_iconst (v := (-1)) hx hb dX3_marked_35 rfl ?_
      cases h
      exact retO_i F dX3_marked_36
  · replace h := itT h c3
    refine lv_bipush (v := (-3)) hx hb dX3_marked_14 rfl ?_
    cases h
    exact retO_i F dX3_marked_16
end
theorem c_X3_marked {l : Launch} {G : GX} {ad : Nat → Nat} {x1 : Int32} {u : HS} {z : Int32} (h : f_X3_marked x1 u = some z) : MO l yX3_marked cX3_marked 3 (some .int) rmX3_marked G (hw_ G ad u) [.ref (ad 0), .int x1] (some (.int z)) := MO.of (by decide) (Nat.le_of_ble_eq_true rfl) (fun p e s m below meth c ls F hw hl => w_X3_marked_0 F _ _ _ hw hl h)
/-! ===== X3_putAt ===== -/
theorem dX3_putAt_0 : decode cX3_putAt 0 = .ok (.aload_n 0, 1) := by decide +kernel
theorem dX3_putAt_1 : decode cX3_putAt 1 = .ok (.getfield 20, 3) := by decide +kernel
theorem dX3_putAt_4 : decode cX3_putAt 4 = .ok (.getfield 154, 3) := by decide +kernel
theorem dX3_putAt_7 : decode cX3_putAt 7 = .ok (.iload_n 1, 1) := by decide +kernel
theorem dX3_putAt_8 : decode cX3_putAt 8 = .ok (.invokevirtual 164, 3) := by decide +kernel
theorem dX3_putAt_11 : decode cX3_putAt 11 = .ok (.ifCond .ne 6, 3) := by decide +kernel
theorem dX3_putAt_14 : decode cX3_putAt 14 = .ok (.bipush (-3), 2) := by decide +kernel
theorem dX3_putAt_16 : decode cX3_putAt 16 = .ok (.ireturn, 1) := by decide +kernel
theorem dX3_putAt_17 : decode cX3_putAt 17 = .ok (.aload_n 0, 1) := by decide +kernel
theorem dX3_putAt_18 : decode cX3_putAt 18 = .ok (.aload_n 0, 1) := by decide +kernel
theorem dX3_putAt_19 : decode cX3_putAt 19 = .ok (.getfield 20, 3) := by decide +kernel
theorem dX3_putAt_22 : decode cX3_putAt 22 = .ok (.getfield 154, 3) := by decide +kernel
theorem dX3_putAt_25 : decode cX3_putAt 25 = .ok (.getfield 176, 3) := by decide +kernel
theorem dX3_putAt_28 : decode cX3_putAt 28 = .ok (.iload_n 1, 1) := by decide +kernel
theorem dX3_putAt_29 : decode cX3_putAt 29 = .ok (.iaload, 1) := by decide +kernel
theorem dX3_putAt_30 : decode cX3_putAt 30 = .ok (.aload_n 0, 1) := by decide +kernel
theorem dX3_putAt_31 : decode cX3_putAt 31 = .ok (.getfield 20, 3) := by decide +kernel
theorem dX3_putAt_34 : decode cX3_putAt 34 = .ok (.getfield 154, 3) := by decide +kernel
theorem dX3_putAt_37 : decode cX3_putAt 37 = .ok (.getfield 167, 3) := by decide +kernel
theorem dX3_putAt_40 : decode cX3_putAt 40 = .ok (.iload_n 1, 1) := by decide +kernel
theorem dX3_putAt_41 : decode cX3_putAt 41 = .ok (.iaload, 1) := by decide +kernel
theorem dX3_putAt_42 : decode cX3_putAt 42 = .ok (.invokevirtual 62, 3) := by decide +kernel
theorem dX3_putAt_45 : decode cX3_putAt 45 = .ok (.ireturn, 1) := by decide +kernel
theorem h_g8_0 {p : Program} {l : Launch} {e : Env} {R : Room} {s : State} {m : MethodId} {args : Array Value} {below : List Frame} {meth : Method} {c : Code} {H : Heap} {locs : List Loc} {cells slots : Nat} {Q : State → Prop} {G : GX} {A : Nat → Prop} {ad : Nat → Nat} {u : HS} {cc : ByteArray} {nL pc : Nat} {y : MethodName} {ret : Option FieldType} {ls : Array Slot} {rest : List Value} (F : FX p m c cc nL s args y ret RX3 meth) (hw : WD G A s (hw_ G ad u) H locs) (hdg : decode cc pc = .ok (.getfield 176, 3)) (kk : W p l e R s m args below meth c H locs cells slots Q (F0 m (pc + 3) ls (.ref (u.1 6) :: rest))) : W p l e R s m args below meth c H locs cells slots Q (F0 m pc ls (.ref (u.1 5) :: rest)) := va_get (D := G.1) (ci := 0) (C := RX0) (T := TX0) (N := 3) (Ts := lw_gt) F.1.1 F.1.2.1 (fun _ h => F.tb h) inX0 F.1.2.2.2.1 hw.1.1 hw.2.1 8 rfl rfl 0 (by decide) (F.tb (tw 53 (by decide +kernel) rfl)) (fun _ h9 => h9) rfl hdg kk
theorem h_l9 {i : Int32} {p : Program} {l : Launch} {e : Env} {R : Room} {s : State} {m : MethodId} {args : Array Value} {below : List Frame} {meth : Method} {c : Code} {H : Heap} {locs : List Loc} {cells slots : Nat} {Q : State → Prop} {G : GX} {A : Nat → Prop} {ad : Nat → Nat} {u : HS} {cc : ByteArray} {nL pc : Nat} {y : MethodName} {ret : Option FieldType} {ls : Array Slot} {rest : List Value} (F : FX p m c cc nL s args y ret RX3 meth) (hw : WD G A s (hw_ G ad u) H locs) (hi : ix i 20 = true) (hdg : decode cc pc = .ok (.iaload, 1)) (kk : W p l e R s m args below meth c H locs cells slots Q (F0 m (pc + 1) ls (.int ((u.2.2.2.2.1.2.1 1) i.toNatClampNeg) :: rest))) : W p l e R s m args below meth c H locs cells slots Q (F0 m pc ls (.int i :: .ref (u.1 6) :: rest)) := va_iald F.1.1 F.1.2.1 hw.1.1 hw.2.1 9 0 rfl rfl (ix_in hi) hdg kk
def rmX3_putAt : Room := { frames := 7, cells := 0, slots := 0, locals := 196 }
noncomputable def f_X3_putAt (x1 : Int32) (u : HS) : Option (Int32 × HS) := (f_X0_isSet x1 u.2.2.2.2.1.2.1).bind (fun z1 => (if z1 = 0 then some ((-3), u) else (if ix x1 20 = true then (if ix x1 20 = true then (f_X3_admit ((u.2.2.2.2.1.2.1 1) (Int32.toNatClampNeg x1)) ((u.2.2.2.2.1.2.1 2) (Int32.toNatClampNeg x1)) u).bind (fun z6 => some (z6.1, z6.2)) else none) else none)))
section
variable {p : Program} {l : Launch} {e : Env} {s : State} {m : MethodId} {args : Array Value} {below : List Frame} {meth : Method} {c : Code}
variable {G : GX} {A : Nat → Prop} {ad : Nat → Nat} 
set_option maxHeartbeats 4000000 in
set_option maxRecDepth 100000 in
theorem w_X3_putAt_0 (F : FX p m c cX3_putAt 2 s args yX3_putAt (some .int) RX3 meth) {z : Int32 × HS} : ∀ (x1 : Int32) (u : HS) (H : Heap) (locs : List Loc) (ls : Array Slot), WD G A s (hw_ G ad u) H locs → lv_has ls 2 [(0, .ref (ad 0)), (1, .int x1)] → f_X3_putAt x1 u = some z → W p l e rmX3_putAt s m args below meth c H locs 0 0 (MQ below (QH G (hw_ G ad z.2) A (some (.int z.1))) args s 0 0 A) (F0 m 0 ls []) := by
  obtain ⟨⟨hx, hb, hml, hown, hts⟩, hr, hlocks⟩ := id F
  intro x1 u H locs ls hw hl h
  unfold f_X3_putAt at h
  refine lv_aload_n hx hb dX3_putAt_0 rfl (lv_at hl 0 rfl) ?_
  refine h_g0_2 F hw dX3_putAt_1 ?_
  refine h_g3_1 F hw dX3_putAt_4 ?_
  refine lv_iload_n hx hb dX3_putAt_7 rfl (lv_at hl 1 rfl) ?_
  obtain ⟨z1, e2, h⟩ := bnd h
  refine k_X0_isSet_h_ F hw e2 ⟨Nat.le_of_ble_eq_true rfl, Nat.le_of_ble_eq_true rfl⟩ ⟨Nat.zero_le _, Nat.zero_le _⟩ hl.1 (Nat.le_of_ble_eq_true rfl) dX3_putAt_8 ?_
  refine lv_if_ne (tgt := 17) hx hb dX3_putAt_11 rfl (fun c3 => ?_) (fun c3 => ?_)
  · replace h := itF h c3
    refine lv_aload_n hx hb dX3_putAt_17 rfl (lv_at hl 0 rfl) ?_
    refine lv_aload_n hx hb dX3_putAt_18 rfl (lv_at hl 0 rfl) ?_
    refine h_g0_2 F hw dX3_putAt_19 ?_
    refine h_g3_1 F hw dX3_putAt_22 ?_
    refine h_g8_0 F hw dX3_putAt_25 ?_
    refine lv_iload_n hx hb dX3_putAt_28 rfl (lv_at hl 1 rfl) ?_
    obtain ⟨g4, h⟩ := gd h
    refine h_l9 F hw g4 dX3_putAt_29 ?_
    refine lv_aload_n hx hb dX3_putAt_30 rfl (lv_at hl 0 rfl) ?_
    refine h_g0_2 F hw dX3_putAt_31 ?_
    refine h_g3_1 F hw dX3_putAt_34 ?_
    refine h_g8_1 F hw dX3_putAt_37 ?_
    refine lv_iload_n hx hb dX3_putAt_40 rfl (lv_at hl 1 rfl) ?_
    obtain ⟨g5, h⟩ := gd h
    refine h_l10 F hw g5 dX3_putAt_41 ?_
    obtain ⟨z6, e7, h⟩ := bnd h
    refine k_X3_admit_h_ F hw e7 ⟨Nat.le_of_ble_eq_true rfl, Nat.le_of_ble_eq_true rfl⟩ ⟨Nat.zero_le _, Nat.zero_le _⟩ hl.1 (Nat.le_of_ble_eq_true rfl) dX3_putAt_42 (fun H locs hw => ?_)
    cases h
    exact retH_i F hw dX3_putAt_45
  · replace h := itT h c3
    refine lv_bipush (v := (-3)) hx hb dX3_putAt_14 rfl ?_
    cases h
    exact retH_i F hw dX3_putAt_16
end
theorem c_X3_putAt {l : Launch} {G : GX} {ad : Nat → Nat} {x1 : Int32} {u : HS} {z : Int32 × HS} (h : f_X3_putAt x1 u = some z) : MH l yX3_putAt cX3_putAt 2 (some .int) rmX3_putAt G (hw_ G ad u) (hw_ G ad z.2) [.ref (ad 0), .int x1] (some (.int z.1)) := MH.of (by decide) (Nat.le_of_ble_eq_true rfl) (fun p e s m below meth c ls F hw hl => w_X3_putAt_0 F _ _ _ _ _ hw hl h)
/-! ===== X3_undo ===== -/
theorem dX3_undo_0 : decode cX3_undo 0 = .ok (.aload_n 0, 1) := by decide +kernel
theorem dX3_undo_1 : decode cX3_undo 1 = .ok (.getfield 28, 3) := by decide +kernel
theorem dX3_undo_4 : decode cX3_undo 4 = .ok (.ifCond .gt 6, 3) := by decide +kernel
theorem dX3_undo_7 : decode cX3_undo 7 = .ok (.bipush (-4), 2) := by decide +kernel
theorem dX3_undo_9 : decode cX3_undo 9 = .ok (.ireturn, 1) := by decide +kernel
theorem dX3_undo_10 : decode cX3_undo 10 = .ok (.aload_n 0, 1) := by decide +kernel
theorem dX3_undo_11 : decode cX3_undo 11 = .ok (.aload_n 0, 1) := by decide +kernel
theorem dX3_undo_12 : decode cX3_undo 12 = .ok (.getfield 24, 3) := by decide +kernel
theorem dX3_undo_15 : decode cX3_undo 15 = .ok (.invokevirtual 179, 3) := by decide +kernel
theorem dX3_undo_18 : decode cX3_undo 18 = .ok (.aload_n 0, 1) := by decide +kernel
theorem dX3_undo_19 : decode cX3_undo 19 = .ok (.aload_n 0, 1) := by decide +kernel
theorem dX3_undo_20 : decode cX3_undo 20 = .ok (.getfield 24, 3) := by decide +kernel
theorem dX3_undo_23 : decode cX3_undo 23 = .ok (.ifCond .le 12, 3) := by decide +kernel
theorem dX3_undo_26 : decode cX3_undo 26 = .ok (.aload_n 0, 1) := by decide +kernel
theorem dX3_undo_27 : decode cX3_undo 27 = .ok (.getfield 24, 3) := by decide +kernel
theorem dX3_undo_30 : decode cX3_undo 30 = .ok (.iconst 1, 1) := by decide +kernel
theorem dX3_undo_31 : decode cX3_undo 31 = .ok (.isub, 1) := by decide +kernel
theorem dX3_undo_32 : decode cX3_undo 32 = .ok (.goto 5, 3) := by decide +kernel
theorem dX3_undo_35 : decode cX3_undo 35 = .ok (.bipush 8, 2) := by decide +kernel
theorem dX3_undo_37 : decode cX3_undo 37 = .ok (.putfield 24, 3) := by decide +kernel
theorem dX3_undo_40 : decode cX3_undo 40 = .ok (.aload_n 0, 1) := by decide +kernel
theorem dX3_undo_41 : decode cX3_undo 41 = .ok (.dup, 1) := by decide +kernel
theorem dX3_undo_42 : decode cX3_undo 42 = .ok (.getfield 28, 3) := by decide +kernel
theorem dX3_undo_45 : decode cX3_undo 45 = .ok (.iconst 1, 1) := by decide +kernel
theorem dX3_undo_46 : decode cX3_undo 46 = .ok (.isub, 1) := by decide +kernel
theorem dX3_undo_47 : decode cX3_undo 47 = .ok (.putfield 28, 3) := by decide +kernel
theorem dX3_undo_50 : decode cX3_undo 50 = .ok (.aload_n 0, 1) := by decide +kernel
theorem dX3_undo_51 : decode cX3_undo 51 = .ok (.getfield 28, 3) := by decide +kernel
theorem dX3_undo_54 : decode cX3_undo 54 = .ok (.ireturn, 1) := by decide +kernel
def rmX3_undo : Room := { frames := 1, cells := 0, slots := 0, locals := 22 }
noncomputable def f_X3_undo (u : HS) : Option (Int32 × HS) := (if 0 < (u.2.2.1 4) then (f_X3_exchangeWith (u.2.2.1 3) u).bind (fun z2 => (if (z2.2.2.1 3) ≤ 0 then some (((hI (hI z2 3 8) 4 (((hI z2 3 8).2.2.1 4) - 1)).2.2.1 4), (hI (hI z2 3 8) 4 (((hI z2 3 8).2.2.1 4) - 1))) else some (((hI (hI z2 3 ((z2.2.2.1 3) - 1)) 4 (((hI z2 3 ((z2.2.2.1 3) - 1)).2.2.1 4) - 1)).2.2.1 4), (hI (hI z2 3 ((z2.2.2.1 3) - 1)) 4 (((hI z2 3 ((z2.2.2.1 3) - 1)).2.2.1 4) - 1))))) else some ((-4), u))
section
variable {p : Program} {l : Launch} {e : Env} {s : State} {m : MethodId} {args : Array Value} {below : List Frame} {meth : Method} {c : Code}
variable {G : GX} {A : Nat → Prop} {ad : Nat → Nat} 
set_option maxHeartbeats 4000000 in
set_option maxRecDepth 100000 in
theorem w_X3_undo_0 (F : FX p m c cX3_undo 1 s args yX3_undo (some .int) RX3 meth) {z : Int32 × HS} : ∀ (u : HS) (H : Heap) (locs : List Loc) (ls : Array Slot), WD G A s (hw_ G ad u) H locs → lv_has ls 1 [(0, .ref (ad 0))] → f_X3_undo u = some z → W p l e rmX3_undo s m args below meth c H locs 0 0 (MQ below (QH G (hw_ G ad z.2) A (some (.int z.1))) args s 0 0 A) (F0 m 0 ls []) := by
  obtain ⟨⟨hx, hb, hml, hown, hts⟩, hr, hlocks⟩ := id F
  intro u H locs ls hw hl h
  unfold f_X3_undo at h
  refine lv_aload_n hx hb dX3_undo_0 rfl (lv_at hl 0 rfl) ?_
  refine h_g0_4 F hw dX3_undo_1 ?_
  refine lv_if_gt (tgt := 10) hx hb dX3_undo_4 rfl (fun c1 => ?_) (fun c1 => ?_)
  · replace h := itT h c1
    refine lv_aload_n hx hb dX3_undo_10 rfl (lv_at hl 0 rfl) ?_
    refine lv_aload_n hx hb dX3_undo_11 rfl (lv_at hl 0 rfl) ?_
    refine h_g0_3 F hw dX3_undo_12 ?_
    obtain ⟨z2, e3, h⟩ := bnd h
    refine k_X3_exchangeWith_h_ F hw e3 ⟨Nat.le_of_ble_eq_true rfl, Nat.le_of_ble_eq_true rfl⟩ ⟨Nat.zero_le _, Nat.zero_le _⟩ hl.1 (Nat.le_of_ble_eq_true rfl) dX3_undo_15 (fun H locs hw => ?_)
    refine lv_aload_n hx hb dX3_undo_18 rfl (lv_at hl 0 rfl) ?_
    refine lv_aload_n hx hb dX3_undo_19 rfl (lv_at hl 0 rfl) ?_
    refine h_g0_3 F hw dX3_undo_20 ?_
    refine lv_if_le (tgt := 35) hx hb dX3_undo_23 rfl (fun c4 => ?_) (fun c4 => ?_)
    · replace h := itT h c4
      refine lv_bipush (v := 8) hx hb dX3_undo_35 rfl ?_
      refine h_p0_3 F hw dX3_undo_37 (fun H locs hw => ?_)
      refine lv_aload_n hx hb dX3_undo_40 rfl (lv_at hl 0 rfl) ?_
      refine lv_dup hx hb dX3_undo_41 rfl ?_
      refine h_g0_4 F hw dX3_undo_42 ?_
      refine lv_iconst (v := 1) hx hb dX3_undo_45 rfl ?_
      refine lv_isub hx hb dX3_undo_46 ?_
      refine h_p0_4 F hw dX3_undo_47 (fun H locs hw => ?_)
      refine lv_aload_n hx hb dX3_undo_50 rfl (lv_at hl 0 rfl) ?_
      refine h_g0_4 F hw dX3_undo_51 ?_
      cases h
      exact retH_i F hw dX3_undo_54
    · replace h := itF h c4
      refine lv_aload_n hx hb dX3_undo_26 rfl (lv_at hl 0 rfl) ?_
      refine h_g0_3 F hw dX3_undo_27 ?_
      refine lv_iconst (v := 1) hx hb dX3_undo_30 rfl ?_
      refine lv_isub hx hb dX3_undo_31 ?_
      refine lv_goto (tgt := 37) hx hb dX3_undo_32 rfl ?_
      refine h_p0_3 F hw dX3_undo_37 (fun H locs hw => ?_)
      refine lv_aload_n hx hb dX3_undo_40 rfl (lv_at hl 0 rfl) ?_
      refine lv_dup hx hb dX3_undo_41 rfl ?_
      refine h_g0_4 F hw dX3_undo_42 ?_
      refine lv_iconst (v := 1) hx hb dX3_undo_45 rfl ?_
      refine lv_isub hx hb dX3_undo_46 ?_
      refine h_p0_4 F hw dX3_undo_47 (fun H locs hw => ?_)
      refine lv_aload_n hx hb dX3_undo_50 rfl (lv_at hl 0 rfl) ?_
      refine h_g0_4 F hw dX3_undo_51 ?_
      cases h
      exact retH_i F hw dX3_undo_54
  · replace h := itF h c1
    refine lv_bipush (v := (-4)) hx hb dX3_undo_7 rfl ?_
    cases h
    exact retH_i F hw dX3_undo_9
end
theorem c_X3_undo {l : Launch} {G : GX} {ad : Nat → Nat} {u : HS} {z : Int32 × HS} (h : f_X3_undo u = some z) : MH l yX3_undo cX3_undo 1 (some .int) rmX3_undo G (hw_ G ad u) (hw_ G ad z.2) [.ref (ad 0)] (some (.int z.1)) := MH.of (by decide) (Nat.le_of_ble_eq_true rfl) (fun p e s m below meth c ls F hw hl => w_X3_undo_0 F  _ _ _ _ hw hl h)
/-! ===== X3_about ===== -/
theorem dX3_about_0 : decode cX3_about 0 = .ok (.aload_n 0, 1) := by decide +kernel
theorem dX3_about_1 : decode cX3_about 1 = .ok (.getfield 20, 3) := by decide +kernel
theorem dX3_about_4 : decode cX3_about 4 = .ok (.iload_n 1, 1) := by decide +kernel
theorem dX3_about_5 : decode cX3_about 5 = .ok (.invokevirtual 38, 3) := by decide +kernel
theorem dX3_about_8 : decode cX3_about 8 = .ok (.ifCond .ne 6, 3) := by decide +kernel
theorem dX3_about_11 : decode cX3_about 11 = .ok (.bipush (-3), 2) := by decide +kernel
theorem dX3_about_13 : decode cX3_about 13 = .ok (.ireturn, 1) := by decide +kernel
theorem dX3_about_14 : decode cX3_about 14 = .ok (.iload_n 2, 1) := by decide +kernel
theorem dX3_about_15 : decode cX3_about 15 = .ok (.tableswitch 81 0 4 #[33, 43, 53, 62, 71], 33) := by decide +kernel
theorem dX3_about_48 : decode cX3_about 48 = .ok (.aload_n 0, 1) := by decide +kernel
theorem dX3_about_49 : decode cX3_about 49 = .ok (.getfield 20, 3) := by decide +kernel
theorem dX3_about_52 : decode cX3_about 52 = .ok (.getfield 44, 3) := by decide +kernel
theorem dX3_about_55 : decode cX3_about 55 = .ok (.iload_n 1, 1) := by decide +kernel
theorem dX3_about_56 : decode cX3_about 56 = .ok (.iaload, 1) := by decide +kernel
theorem dX3_about_57 : decode cX3_about 57 = .ok (.ireturn, 1) := by decide +kernel
theorem dX3_about_58 : decode cX3_about 58 = .ok (.aload_n 0, 1) := by decide +kernel
theorem dX3_about_59 : decode cX3_about 59 = .ok (.getfield 20, 3) := by decide +kernel
theorem dX3_about_62 : decode cX3_about 62 = .ok (.getfield 47, 3) := by decide +kernel
theorem dX3_about_65 : decode cX3_about 65 = .ok (.iload_n 1, 1) := by decide +kernel
theorem dX3_about_66 : decode cX3_about 66 = .ok (.iaload, 1) := by decide +kernel
theorem dX3_about_67 : decode cX3_about 67 = .ok (.ireturn, 1) := by decide +kernel
theorem dX3_about_68 : decode cX3_about 68 = .ok (.aload_n 0, 1) := by decide +kernel
theorem dX3_about_69 : decode cX3_about 69 = .ok (.getfield 20, 3) := by decide +kernel
theorem dX3_about_72 : decode cX3_about 72 = .ok (.iload_n 1, 1) := by decide +kernel
theorem dX3_about_73 : decode cX3_about 73 = .ok (.invokevirtual 183, 3) := by decide +kernel
theorem dX3_about_76 : decode cX3_about 76 = .ok (.ireturn, 1) := by decide +kernel
theorem dX3_about_77 : decode cX3_about 77 = .ok (.aload_n 0, 1) := by decide +kernel
theorem dX3_about_78 : decode cX3_about 78 = .ok (.getfield 20, 3) := by decide +kernel
theorem dX3_about_81 : decode cX3_about 81 = .ok (.iload_n 1, 1) := by decide +kernel
theorem dX3_about_82 : decode cX3_about 82 = .ok (.invokevirtual 186, 3) := by decide +kernel
theorem dX3_about_85 : decode cX3_about 85 = .ok (.ireturn, 1) := by decide +kernel
theorem dX3_about_86 : decode cX3_about 86 = .ok (.aload_n 0, 1) := by decide +kernel
theorem dX3_about_87 : decode cX3_about 87 = .ok (.getfield 20, 3) := by decide +kernel
theorem dX3_about_90 : decode cX3_about 90 = .ok (.getfield 189, 3) := by decide +kernel
theorem dX3_about_93 : decode cX3_about 93 = .ok (.iload_n 1, 1) := by decide +kernel
theorem dX3_about_94 : decode cX3_about 94 = .ok (.iaload, 1) := by decide +kernel
theorem dX3_about_95 : decode cX3_about 95 = .ok (.ireturn, 1) := by decide +kernel
theorem dX3_about_96 : decode cX3_about 96 = .ok (.bipush (-3), 2) := by decide +kernel
theorem dX3_about_98 : decode cX3_about 98 = .ok (.ireturn, 1) := by decide +kernel
theorem h_l13 {i : Int32} {p : Program} {l : Launch} {e : Env} {R : Room} {s : State} {m : MethodId} {args : Array Value} {below : List Frame} {meth : Method} {c : Code} {H : Heap} {locs : List Loc} {cells slots : Nat} {Q : State → Prop} {G : GX} {A : Nat → Prop} {ad : Nat → Nat} {u : HS} {cc : ByteArray} {nL pc : Nat} {y : MethodName} {ret : Option FieldType} {ls : Array Slot} {rest : List Value} (F : FX p m c cc nL s args y ret RX3 meth) (hw : WD G A s (hw_ G ad u) H locs) (hi : ix i 8 = true) (hdg : decode cc pc = .ok (.iaload, 1)) (kk : W p l e R s m args below meth c H locs cells slots Q (F0 m (pc + 1) ls (.int ((u.2.2.2.2.1.2.2.1 3) i.toNatClampNeg) :: rest))) : W p l e R s m args below meth c H locs cells slots Q (F0 m pc ls (.int i :: .ref (u.1 10) :: rest)) := va_iald F.1.1 F.1.2.1 hw.1.1 hw.2.1 13 0 rfl rfl (ix_in hi) hdg kk
theorem yv_X2_thingsIn_X3 : YV RX3 183 yX2_thingsIn cX2_thingsIn 2 (some .int) 1 := ⟨(tw 479 (by decide +kernel) rfl), (tw 2 (by decide +kernel) rfl), (tw 476 (by decide +kernel) rfl), (tw 477 (by decide +kernel) rfl), (tw 478 (by decide +kernel) rfl), by decide +kernel⟩
theorem k_X2_thingsIn_h_ {p : Program} {l : Launch} {e : Env} {R : Room} {s : State} {m : MethodId} {args : Array Value} {below : List Frame} {meth : Method} {c : Code} {H : Heap} {locs : List Loc} {cells slots : Nat} {Q : State → Prop} {G : GX} {A : Nat → Prop} {ad : Nat → Nat} {u : HS} {cc : ByteArray} {nL pc : Nat} {y : MethodName} {ret : Option FieldType} {ls : Array Slot} {rest : List Value} {x1 : Int32} {z : Int32} (F : FX p m c cc nL s args y ret RX3 meth) (hw : WD G A s (hw_ G ad u) H locs) (h : f_X2_thingsIn x1 u.2.2.2.2.1 = some z) (hR : rmX2_thingsIn.frames + 1 ≤ R.frames ∧ 8 + (2 + 11) + rmX2_thingsIn.locals ≤ R.locals) (hcs : cells ≤ R.cells ∧ slots ≤ R.slots) (hsz : ls.size = nL) (hW : (rest.map fun v => v.category).sum ≤ 8) (hdg : decode cc pc = .ok (.invokevirtual 183, 3)) (kk : W p l e R s m args below meth c H locs cells slots Q (F0 m (pc + 3) ls (.int z :: rest))) : W p l e R s m args below meth c H locs cells slots Q (F0 m pc ls (.int x1 :: .ref (u.1 0) :: rest)) := callO (runV F yv_X2_thingsIn_X3 (c_X2_thingsIn h (ad := u.1)) hw.1 (hw.2.1.sub [3, 4, 5, 6, 7, 8, 9, 10, 11, 12, 13, 14, 15, 16] rfl) (hw.2.2.1.sub [3, 4, 5, 6, 7, 8, 9, 10, 11, 12, 13, 14, 15, 16] (by decide) rfl) rfl rfl rfl ⟨rfl, rfl⟩ hR hcs rfl hsz rfl hW hdg) kk
theorem yv_X2_blocksIn_X3 : YV RX3 186 yX2_blocksIn cX2_blocksIn 6 (some .int) 1 := ⟨(tw 483 (by decide +kernel) rfl), (tw 2 (by decide +kernel) rfl), (tw 480 (by decide +kernel) rfl), (tw 481 (by decide +kernel) rfl), (tw 482 (by decide +kernel) rfl), by decide +kernel⟩
theorem k_X2_blocksIn_h_ {p : Program} {l : Launch} {e : Env} {R : Room} {s : State} {m : MethodId} {args : Array Value} {below : List Frame} {meth : Method} {c : Code} {H : Heap} {locs : List Loc} {cells slots : Nat} {Q : State → Prop} {G : GX} {A : Nat → Prop} {ad : Nat → Nat} {u : HS} {cc : ByteArray} {nL pc : Nat} {y : MethodName} {ret : Option FieldType} {ls : Array Slot} {rest : List Value} {x1 : Int32} {z : Int32} (F : FX p m c cc nL s args y ret RX3 meth) (hw : WD G A s (hw_ G ad u) H locs) (h : f_X2_blocksIn x1 u.2.2.2.2.1 = some z) (hR : rmX2_blocksIn.frames + 1 ≤ R.frames ∧ 8 + (6 + 11) + rmX2_blocksIn.locals ≤ R.locals) (hcs : cells ≤ R.cells ∧ slots ≤ R.slots) (hsz : ls.size = nL) (hW : (rest.map fun v => v.category).sum ≤ 8) (hdg : decode cc pc = .ok (.invokevirtual 186, 3)) (kk : W p l e R s m args below meth c H locs cells slots Q (F0 m (pc + 3) ls (.int z :: rest))) : W p l e R s m args below meth c H locs cells slots Q (F0 m pc ls (.int x1 :: .ref (u.1 0) :: rest)) := callO (runV F yv_X2_blocksIn_X3 (c_X2_blocksIn h (ad := u.1)) hw.1 (hw.2.1.sub [3, 4, 5, 6, 7, 8, 9, 10, 11, 12, 13, 14, 15, 16] rfl) (hw.2.2.1.sub [3, 4, 5, 6, 7, 8, 9, 10, 11, 12, 13, 14, 15, 16] (by decide) rfl) rfl rfl rfl ⟨rfl, rfl⟩ hR hcs rfl hsz rfl hW hdg) kk
theorem h_g3_4 {p : Program} {l : Launch} {e : Env} {R : Room} {s : State} {m : MethodId} {args : Array Value} {below : List Frame} {meth : Method} {c : Code} {H : Heap} {locs : List Loc} {cells slots : Nat} {Q : State → Prop} {G : GX} {A : Nat → Prop} {ad : Nat → Nat} {u : HS} {cc : ByteArray} {nL pc : Nat} {y : MethodName} {ret : Option FieldType} {ls : Array Slot} {rest : List Value} (F : FX p m c cc nL s args y ret RX3 meth) (hw : WD G A s (hw_ G ad u) H locs) (hdg : decode cc pc = .ok (.getfield 189, 3)) (kk : W p l e R s m args below meth c H locs cells slots Q (F0 m (pc + 3) ls (.ref (u.1 11) :: rest))) : W p l e R s m args below meth c H locs cells slots Q (F0 m pc ls (.ref (u.1 0) :: rest)) := va_get (D := G.1) (ci := 2) (C := RX2) (T := TX2) (N := 8) (Ts := lw_gt) F.1.1 F.1.2.1 (fun _ h => F.tb h) inX2 F.1.2.2.2.1 hw.1.1 hw.2.1 3 rfl rfl 4 (by decide) (F.tb (tw 76 (by decide +kernel) rfl)) (fun _ h9 => h9) rfl hdg kk
theorem h_l14 {i : Int32} {p : Program} {l : Launch} {e : Env} {R : Room} {s : State} {m : MethodId} {args : Array Value} {below : List Frame} {meth : Method} {c : Code} {H : Heap} {locs : List Loc} {cells slots : Nat} {Q : State → Prop} {G : GX} {A : Nat → Prop} {ad : Nat → Nat} {u : HS} {cc : ByteArray} {nL pc : Nat} {y : MethodName} {ret : Option FieldType} {ls : Array Slot} {rest : List Value} (F : FX p m c cc nL s args y ret RX3 meth) (hw : WD G A s (hw_ G ad u) H locs) (hi : ix i 8 = true) (hdg : decode cc pc = .ok (.iaload, 1)) (kk : W p l e R s m args below meth c H locs cells slots Q (F0 m (pc + 1) ls (.int ((u.2.2.2.2.1.2.2.1 4) i.toNatClampNeg) :: rest))) : W p l e R s m args below meth c H locs cells slots Q (F0 m pc ls (.int i :: .ref (u.1 11) :: rest)) := va_iald F.1.1 F.1.2.1 hw.1.1 hw.2.1 14 0 rfl rfl (ix_in hi) hdg kk
def rmX3_about : Room := { frames := 3, cells := 0, slots := 0, locals := 67 }
noncomputable def f_X3_about (x1 : Int32) (x2 : Int32) (u : HS) : Option (Int32) := (f_X2_isRow x1 u.2.2.2.2.1).bind (fun z1 => (if z1 = 0 then some (-3) else (if x2 = 0 then (if ix x1 8 = true then some ((u.2.2.2.2.1.2.2.1 2) (Int32.toNatClampNeg x1)) else none) else (if x2 = 1 then (if ix x1 8 = true then some ((u.2.2.2.2.1.2.2.1 3) (Int32.toNatClampNeg x1)) else none) else (if x2 = 2 then (f_X2_thingsIn x1 u.2.2.2.2.1).bind (fun z9 => some z9) else (if x2 = 3 then (f_X2_blocksIn x1 u.2.2.2.2.1).bind (fun z12 => some z12) else (if x2 = 4 then (if ix x1 8 = true then some ((u.2.2.2.2.1.2.2.1 4) (Int32.toNatClampNeg x1)) else none) else some (-3))))))))
section
variable {p : Program} {l : Launch} {e : Env} {s : State} {m : MethodId} {args : Array Value} {below : List Frame} {meth : Method} {c : Code}
variable {G : GX} {A : Nat → Prop} {ad : Nat → Nat} 
set_option maxHeartbeats 4000000 in
set_option maxRecDepth 100000 in
theorem w_X3_about_0 (F : FX p m c cX3_about 3 s args yX3_about (some .int) RX3 meth) {z : Int32} : ∀ (x1 : Int32) (x2 : Int32) (u : HS) (ls : Array Slot), WD G A s (hw_ G ad u) s.heap [] → lv_has ls 3 [(0, .ref (ad 0)), (1, .int x1), (2, .int x2)] → f_X3_about x1 x2 u = some z → W p l e rmX3_about s m args below meth c s.heap [] 0 0 (MQ below (QO (some (.int z))) args s 0 0 (fun _ => False)) (F0 m 0 ls []) := by
  obtain ⟨⟨hx, hb, hml, hown, hts⟩, hr, hlocks⟩ := id F
  intro x1 x2 u ls hw hl h
  unfold f_X3_about at h
  refine lv_aload_n hx hb dX3_about_0 rfl (lv_at hl 0 rfl) ?_
  refine h_g0_2 F hw dX3_about_1 ?_
  refine lv_iload_n hx hb dX3_about_4 rfl (lv_at hl 1 rfl) ?_
  obtain ⟨z1, e2, h⟩ := bnd h
  refine k_X2_isRow_h_ F hw e2 ⟨Nat.le_of_ble_eq_true rfl, Nat.le_of_ble_eq_true rfl⟩ ⟨Nat.zero_le _, Nat.zero_le _⟩ hl.1 (Nat.le_of_ble_eq_true rfl) dX3_about_5 ?_
  refine lv_if_ne (tgt := 14) hx hb dX3_about_8 rfl (fun c3 => ?_) (fun c3 => ?_)
  · replace h := itF h c3
    refine lv_iload_n hx hb dX3_about_14 rfl (lv_at hl 2 rfl) ?_
    by_cases c4 : x2 = 0
    · replace h := itT h c4
      refine lv_tableIn (tgt := 48) hx hb dX3_about_15 (by rw [c4]; decide) (by rw [c4]; decide) (by rw [c4]; rfl) rfl ?_
      refine lv_aload_n hx hb dX3_about_48 rfl (lv_at hl 0 rfl) ?_
      refine h_g0_2 F hw dX3_about_49 ?_
      refine h_g3_2 F hw dX3_about_52 ?_
      refine lv_iload_n hx hb dX3_about_55 rfl (lv_at hl 1 rfl) ?_
      obtain ⟨g5, h⟩ := gd h
      refine h_l12 F hw g5 dX3_about_56 ?_
      cases h
      exact retO_i F dX3_about_57
    replace h := itF h c4
    by_cases c6 : x2 = 1
    · replace h := itT h c6
      refine lv_tableIn (tgt := 58) hx hb dX3_about_15 (by rw [c6]; decide) (by rw [c6]; decide) (by rw [c6]; rfl) rfl ?_
      refine lv_aload_n hx hb dX3_about_58 rfl (lv_at hl 0 rfl) ?_
      refine h_g0_2 F hw dX3_about_59 ?_
      refine h_g3_3 F hw dX3_about_62 ?_
      refine lv_iload_n hx hb dX3_about_65 rfl (lv_at hl 1 rfl) ?_
      obtain ⟨g7, h⟩ := gd h
      refine h_l13 F hw g7 dX3_about_66 ?_
      cases h
      exact retO_i F dX3_about_67
    replace h := itF h c6
    by_cases c8 : x2 = 2
    · replace h := itT h c8
      refine lv_tableIn (tgt := 68) hx hb dX3_about_15 (by rw [c8]; decide) (by rw [c8]; decide) (by rw [c8]; rfl) rfl ?_
      refine lv_aload_n hx hb dX3_about_68 rfl (lv_at hl 0 rfl) ?_
      refine h_g0_2 F hw dX3_about_69 ?_
      refine lv_iload_n hx hb dX3_about_72 rfl (lv_at hl 1 rfl) ?_
      obtain ⟨z9, e10, h⟩ := bnd h
      refine k_X2_thingsIn_h_ F hw e10 ⟨Nat.le_of_ble_eq_true rfl, Nat.le_of_ble_eq_true rfl⟩ ⟨Nat.zero_le _, Nat.zero_le _⟩ hl.1 (Nat.le_of_ble_eq_true rfl) dX3_about_73 ?_
      cases h
      exact retO_i F dX3_about_76
    replace h := itF h c8
    by_cases c11 : x2 = 3
    · replace h := itT h c11
      refine lv_tableIn (tgt := 77) hx hb dX3_about_15 (by rw [c11]; decide) (by rw [c11]; decide) (by rw [c11]; rfl) rfl ?_
      refine lv_aload_n hx hb dX3_about_77 rfl (lv_at hl 0 rfl) ?_
      refine h_g0_2 F hw dX3_about_78 ?_
      refine lv_iload_n hx hb dX3_about_81 rfl (lv_at hl 1 rfl) ?_
      obtain ⟨z12, e13, h⟩ := bnd h
      refine k_X2_blocksIn_h_ F hw e13 ⟨Nat.le_of_ble_eq_true rfl, Nat.le_of_ble_eq_true rfl⟩ ⟨Nat.zero_le _, Nat.zero_le _⟩ hl.1 (Nat.le_of_ble_eq_true rfl) dX3_about_82 ?_
      cases h
      exact retO_i F dX3_about_85
    replace h := itF h c11
    by_cases c14 : x2 = 4
    · replace h := itT h c14
      refine lv_tableIn (tgt := 86) hx hb dX3_about_15 (by rw [c14]; decide) (by rw [c14]; decide) (by rw [c14]; rfl) rfl ?_
      refine lv_aload_n hx hb dX3_about_86 rfl (lv_at hl 0 rfl) ?_
      refine h_g0_2 F hw dX3_about_87 ?_
      refine h_g3_4 F hw dX3_about_90 ?_
      refine lv_iload_n hx hb dX3_about_93 rfl (lv_at hl 1 rfl) ?_
      obtain ⟨g15, h⟩ := gd h
      refine h_l14 F hw g15 dX3_about_94 ?_
      cases h
      exact retO_i F dX3_about_95
    replace h := itF h c14
    refine lv_tableOut (tgt := 96) hx hb dX3_about_15 (by have q0 : (x2).toInt ≠ 0 := fun z => c4 (Int32.toInt_inj.mp (z.trans rfl)); have q1 : (x2).toInt ≠ 1 := fun z => c6 (Int32.toInt_inj.mp (z.trans rfl)); have q2 : (x2).toInt ≠ 2 := fun z => c8 (Int32.toInt_inj.mp (z.trans rfl)); have q3 : (x2).toInt ≠ 3 := fun z => c11 (Int32.toInt_inj.mp (z.trans rfl)); have q4 : (x2).toInt ≠ 4 := fun z => c14 (Int32.toInt_inj.mp (z.trans rfl)); omega) rfl ?_
    refine lv_bipush (v := (-3)) hx hb dX3_about_96 rfl ?_
    cases h
    exact retO_i F dX3_about_98
  · replace h := itT h c3
    refine lv_bipush (v := (-3)) hx hb dX3_about_11 rfl ?_
    cases h
    exact retO_i F dX3_about_13
end
theorem c_X3_about {l : Launch} {G : GX} {ad : Nat → Nat} {x1 : Int32} {x2 : Int32} {u : HS} {z : Int32} (h : f_X3_about x1 x2 u = some z) : MO l yX3_about cX3_about 3 (some .int) rmX3_about G (hw_ G ad u) [.ref (ad 0), .int x1, .int x2] (some (.int z)) := MO.of (by decide) (Nat.le_of_ble_eq_true rfl) (fun p e s m below meth c ls F hw hl => w_X3_about_0 F _ _ _ _ hw hl h)
/-! ===== X3_isOf ===== -/
theorem dX3_isOf_0 : decode cX3_isOf 0 = .ok (.aload_n 0, 1) := by decide +kernel
theorem dX3_isOf_1 : decode cX3_isOf 1 = .ok (.getfield 20, 3) := by decide +kernel
theorem dX3_isOf_4 : decode cX3_isOf 4 = .ok (.iload_n 1, 1) := by decide +kernel
theorem dX3_isOf_5 : decode cX3_isOf 5 = .ok (.invokevirtual 38, 3) := by decide +kernel
theorem dX3_isOf_8 : decode cX3_isOf 8 = .ok (.ifCond .eq 10, 3) := by decide +kernel
theorem dX3_isOf_11 : decode cX3_isOf 11 = .ok (.iload_n 2, 1) := by decide +kernel
theorem dX3_isOf_12 : decode cX3_isOf 12 = .ok (.invokestatic 34, 3) := by decide +kernel
theorem dX3_isOf_15 : decode cX3_isOf 15 = .ok (.ifCond .ne 6, 3) := by decide +kernel
theorem dX3_isOf_18 : decode cX3_isOf 18 = .ok (.bipush (-3), 2) := by decide +kernel
theorem dX3_isOf_20 : decode cX3_isOf 20 = .ok (.ireturn, 1) := by decide +kernel
theorem dX3_isOf_21 : decode cX3_isOf 21 = .ok (.aload_n 0, 1) := by decide +kernel
theorem dX3_isOf_22 : decode cX3_isOf 22 = .ok (.getfield 20, 3) := by decide +kernel
theorem dX3_isOf_25 : decode cX3_isOf 25 = .ok (.getfield 44, 3) := by decide +kernel
theorem dX3_isOf_28 : decode cX3_isOf 28 = .ok (.iload_n 1, 1) := by decide +kernel
theorem dX3_isOf_29 : decode cX3_isOf 29 = .ok (.iaload, 1) := by decide +kernel
theorem dX3_isOf_30 : decode cX3_isOf 30 = .ok (.iload_n 2, 1) := by decide +kernel
theorem dX3_isOf_31 : decode cX3_isOf 31 = .ok (.if_icmp .lt 7, 3) := by decide +kernel
theorem dX3_isOf_34 : decode cX3_isOf 34 = .ok (.iconst 1, 1) := by decide +kernel
theorem dX3_isOf_35 : decode cX3_isOf 35 = .ok (.goto 4, 3) := by decide +kernel
theorem dX3_isOf_38 : decode cX3_isOf 38 = .ok (.iconst 0, 1) := by decide +kernel
theorem dX3_isOf_39 : decode cX3_isOf 39 = .ok (.ireturn, 1) := by decide +kernel
def rmX3_isOf : Room := { frames := 1, cells := 0, slots := 0, locals := 21 }
noncomputable def f_X3_isOf (x1 : Int32) (x2 : Int32) (u : HS) : Option (Int32) := (f_X2_isRow x1 u.2.2.2.2.1).bind (fun z1 => (if z1 = 0 then some (-3) else (f_X3_isKind x2).bind (fun z4 => (if z4 = 0 then some (-3) else (if ix x1 8 = true then (if ((u.2.2.2.2.1.2.2.1 2) (Int32.toNatClampNeg x1)) < x2 then some 0 else some 1) else none)))))
section
variable {p : Program} {l : Launch} {e : Env} {s : State} {m : MethodId} {args : Array Value} {below : List Frame} {meth : Method} {c : Code}
variable {G : GX} {A : Nat → Prop} {ad : Nat → Nat} 
set_option maxHeartbeats 4000000 in
set_option maxRecDepth 100000 in
theorem w_X3_isOf_0 (F : FX p m c cX3_isOf 3 s args yX3_isOf (some .int) RX3 meth) {z : Int32} : ∀ (x1 : Int32) (x2 : Int32) (u : HS) (ls : Array Slot), WD G A s (hw_ G ad u) s.heap [] → lv_has ls 3 [(0, .ref (ad 0)), (1, .int x1), (2, .int x2)] → f_X3_isOf x1 x2 u = some z → W p l e rmX3_isOf s m args below meth c s.heap [] 0 0 (MQ below (QO (some (.int z))) args s 0 0 (fun _ => False)) (F0 m 0 ls []) := by
  obtain ⟨⟨hx, hb, hml, hown, hts⟩, hr, hlocks⟩ := id F
  intro x1 x2 u ls hw hl h
  unfold f_X3_isOf at h
  refine lv_aload_n hx hb dX3_isOf_0 rfl (lv_at hl 0 rfl) ?_
  refine h_g0_2 F hw dX3_isOf_1 ?_
  refine lv_iload_n hx hb dX3_isOf_4 rfl (lv_at hl 1 rfl) ?_
  obtain ⟨z1, e2, h⟩ := bnd h
  refine k_X2_isRow_h_ F hw e2 ⟨Nat.le_of_ble_eq_true rfl, Nat.le_of_ble_eq_true rfl⟩ ⟨Nat.zero_le _, Nat.zero_le _⟩ hl.1 (Nat.le_of_ble_eq_true rfl) dX3_isOf_5 ?_
  refine lv_if_eq (tgt := 18) hx hb dX3_isOf_8 rfl (fun c3 => ?_) (fun c3 => ?_)
  · replace h := itT h c3
    refine lv_bipush (v := (-3)) hx hb dX3_isOf_18 rfl ?_
    cases h
    exact retO_i F dX3_isOf_20
  · replace h := itF h c3
    refine lv_iload_n hx hb dX3_isOf_11 rfl (lv_at hl 2 rfl) ?_
    obtain ⟨z4, e5, h⟩ := bnd h
    refine k_X3_isKind_h_ F hw e5 ⟨Nat.le_of_ble_eq_true rfl, Nat.le_of_ble_eq_true rfl⟩ ⟨Nat.zero_le _, Nat.zero_le _⟩ hl.1 (Nat.le_of_ble_eq_true rfl) dX3_isOf_12 ?_
    refine lv_if_ne (tgt := 21) hx hb dX3_isOf_15 rfl (fun c6 => ?_) (fun c6 => ?_)
    · replace h := itF h c6
      refine lv_aload_n hx hb dX3_isOf_21 rfl (lv_at hl 0 rfl) ?_
      refine h_g0_2 F hw dX3_isOf_22 ?_
      refine h_g3_2 F hw dX3_isOf_25 ?_
      refine lv_iload_n hx hb dX3_isOf_28 rfl (lv_at hl 1 rfl) ?_
      obtain ⟨g7, h⟩ := gd h
      refine h_l12 F hw g7 dX3_isOf_29 ?_
      refine lv_iload_n hx hb dX3_isOf_30 rfl (lv_at hl 2 rfl) ?_
      refine lv_icmp_lt (tgt := 38) hx hb dX3_isOf_31 rfl (fun c8 => ?_) (fun c8 => ?_)
      · replace h := itT h c8
        refine lv_iconst (v := 0) hx hb dX3_isOf_38 rfl ?_
        cases h
        exact retO_i F dX3_isOf_39
      · replace h := itF h c8
        refine lv_iconst (v := 1) hx hb dX3_isOf_34 rfl ?_
        refine lv_goto (tgt := 39) hx hb dX3_isOf_35 rfl ?_
        cases h
        exact retO_i F dX3_isOf_39
    · replace h := itT h c6
      refine lv_bipush (v := (-3)) hx hb dX3_isOf_18 rfl ?_
      cases h
      exact retO_i F dX3_isOf_20
end
theorem c_X3_isOf {l : Launch} {G : GX} {ad : Nat → Nat} {x1 : Int32} {x2 : Int32} {u : HS} {z : Int32} (h : f_X3_isOf x1 x2 u = some z) : MO l yX3_isOf cX3_isOf 3 (some .int) rmX3_isOf G (hw_ G ad u) [.ref (ad 0), .int x1, .int x2] (some (.int z)) := MO.of (by decide) (Nat.le_of_ble_eq_true rfl) (fun p e s m below meth c ls F hw hl => w_X3_isOf_0 F _ _ _ _ hw hl h)
/-! ===== X3_count ===== -/
theorem dX3_count_0 : decode cX3_count 0 = .ok (.iload_n 1, 1) := by decide +kernel
theorem dX3_count_1 : decode cX3_count 1 = .ok (.tableswitch 84 0 5 #[39, 47, 52, 60, 65, 76], 39) := by decide +kernel
theorem dX3_count_40 : decode cX3_count 40 = .ok (.aload_n 0, 1) := by decide +kernel
theorem dX3_count_41 : decode cX3_count 41 = .ok (.getfield 20, 3) := by decide +kernel
theorem dX3_count_44 : decode cX3_count 44 = .ok (.invokevirtual 192, 3) := by decide +kernel
theorem dX3_count_47 : decode cX3_count 47 = .ok (.ireturn, 1) := by decide +kernel
theorem dX3_count_48 : decode cX3_count 48 = .ok (.aload_n 0, 1) := by decide +kernel
theorem dX3_count_49 : decode cX3_count 49 = .ok (.getfield 31, 3) := by decide +kernel
theorem dX3_count_52 : decode cX3_count 52 = .ok (.ireturn, 1) := by decide +kernel
theorem dX3_count_53 : decode cX3_count 53 = .ok (.aload_n 0, 1) := by decide +kernel
theorem dX3_count_54 : decode cX3_count 54 = .ok (.getfield 20, 3) := by decide +kernel
theorem dX3_count_57 : decode cX3_count 57 = .ok (.getfield 196, 3) := by decide +kernel
theorem dX3_count_60 : decode cX3_count 60 = .ok (.ireturn, 1) := by decide +kernel
theorem dX3_count_61 : decode cX3_count 61 = .ok (.aload_n 0, 1) := by decide +kernel
theorem dX3_count_62 : decode cX3_count 62 = .ok (.getfield 28, 3) := by decide +kernel
theorem dX3_count_65 : decode cX3_count 65 = .ok (.ireturn, 1) := by decide +kernel
theorem dX3_count_66 : decode cX3_count 66 = .ok (.aload_n 0, 1) := by decide +kernel
theorem dX3_count_67 : decode cX3_count 67 = .ok (.getfield 20, 3) := by decide +kernel
theorem dX3_count_70 : decode cX3_count 70 = .ok (.getfield 154, 3) := by decide +kernel
theorem dX3_count_73 : decode cX3_count 73 = .ok (.invokevirtual 199, 3) := by decide +kernel
theorem dX3_count_76 : decode cX3_count 76 = .ok (.ireturn, 1) := by decide +kernel
theorem dX3_count_77 : decode cX3_count 77 = .ok (.aload_n 0, 1) := by decide +kernel
theorem dX3_count_78 : decode cX3_count 78 = .ok (.getfield 20, 3) := by decide +kernel
theorem dX3_count_81 : decode cX3_count 81 = .ok (.invokevirtual 202, 3) := by decide +kernel
theorem dX3_count_84 : decode cX3_count 84 = .ok (.ireturn, 1) := by decide +kernel
theorem dX3_count_85 : decode cX3_count 85 = .ok (.bipush (-3), 2) := by decide +kernel
theorem dX3_count_87 : decode cX3_count 87 = .ok (.ireturn, 1) := by decide +kernel
theorem yv_X2_thingsInAll_X3 : YV RX3 192 yX2_thingsInAll cX2_thingsInAll 3 (some .int) 0 := ⟨(tw 495 (by decide +kernel) rfl), (tw 2 (by decide +kernel) rfl), (tw 492 (by decide +kernel) rfl), (tw 493 (by decide +kernel) rfl), (tw 494 (by decide +kernel) rfl), by decide +kernel⟩
theorem k_X2_thingsInAll_h_ {p : Program} {l : Launch} {e : Env} {R : Room} {s : State} {m : MethodId} {args : Array Value} {below : List Frame} {meth : Method} {c : Code} {H : Heap} {locs : List Loc} {cells slots : Nat} {Q : State → Prop} {G : GX} {A : Nat → Prop} {ad : Nat → Nat} {u : HS} {cc : ByteArray} {nL pc : Nat} {y : MethodName} {ret : Option FieldType} {ls : Array Slot} {rest : List Value} {z : Int32} (F : FX p m c cc nL s args y ret RX3 meth) (hw : WD G A s (hw_ G ad u) H locs) (h : f_X2_thingsInAll u.2.2.2.2.1 = some z) (hR : rmX2_thingsInAll.frames + 1 ≤ R.frames ∧ 8 + (3 + 11) + rmX2_thingsInAll.locals ≤ R.locals) (hcs : cells ≤ R.cells ∧ slots ≤ R.slots) (hsz : ls.size = nL) (hW : (rest.map fun v => v.category).sum ≤ 8) (hdg : decode cc pc = .ok (.invokevirtual 192, 3)) (kk : W p l e R s m args below meth c H locs cells slots Q (F0 m (pc + 3) ls (.int z :: rest))) : W p l e R s m args below meth c H locs cells slots Q (F0 m pc ls (.ref (u.1 0) :: rest)) := callO (runV F yv_X2_thingsInAll_X3 (c_X2_thingsInAll h (ad := u.1)) hw.1 (hw.2.1.sub [3, 4, 5, 6, 7, 8, 9, 10, 11, 12, 13, 14, 15, 16] rfl) (hw.2.2.1.sub [3, 4, 5, 6, 7, 8, 9, 10, 11, 12, 13, 14, 15, 16] (by decide) rfl) rfl rfl rfl ⟨rfl, rfl⟩ hR hcs rfl hsz rfl hW hdg) kk
theorem h_g3_7 {p : Program} {l : Launch} {e : Env} {R : Room} {s : State} {m : MethodId} {args : Array Value} {below : List Frame} {meth : Method} {c : Code} {H : Heap} {locs : List Loc} {cells slots : Nat} {Q : State → Prop} {G : GX} {A : Nat → Prop} {ad : Nat → Nat} {u : HS} {cc : ByteArray} {nL pc : Nat} {y : MethodName} {ret : Option FieldType} {ls : Array Slot} {rest : List Value} (F : FX p m c cc nL s args y ret RX3 meth) (hw : WD G A s (hw_ G ad u) H locs) (hdg : decode cc pc = .ok (.getfield 196, 3)) (kk : W p l e R s m args below meth c H locs cells slots Q (F0 m (pc + 3) ls (.int u.2.2.2.2.1.2.2.2.2 :: rest))) : W p l e R s m args below meth c H locs cells slots Q (F0 m pc ls (.ref (u.1 0) :: rest)) := va_get (D := G.1) (ci := 2) (C := RX2) (T := TX2) (N := 8) (Ts := lw_gt) F.1.1 F.1.2.1 (fun _ h => F.tb h) inX2 F.1.2.2.2.1 hw.1.1 hw.2.1 3 rfl rfl 7 (by decide) (F.tb (tw 82 (by decide +kernel) rfl)) (fun _ h9 => h9) rfl hdg kk
theorem yv_X0_setCount_X3 : YV RX3 199 yX0_setCount cX0_setCount 3 (some .int) 0 := ⟨(tw 500 (by decide +kernel) rfl), (tw 5 (by decide +kernel) rfl), (tw 497 (by decide +kernel) rfl), (tw 498 (by decide +kernel) rfl), (tw 499 (by decide +kernel) rfl), by decide +kernel⟩
theorem k_X0_setCount_h_ {p : Program} {l : Launch} {e : Env} {R : Room} {s : State} {m : MethodId} {args : Array Value} {below : List Frame} {meth : Method} {c : Code} {H : Heap} {locs : List Loc} {cells slots : Nat} {Q : State → Prop} {G : GX} {A : Nat → Prop} {ad : Nat → Nat} {u : HS} {cc : ByteArray} {nL pc : Nat} {y : MethodName} {ret : Option FieldType} {ls : Array Slot} {rest : List Value} {z : Int32} (F : FX p m c cc nL s args y ret RX3 meth) (hw : WD G A s (hw_ G ad u) H locs) (h : f_X0_setCount u.2.2.2.2.1.2.1 = some z) (hR : rmX0_setCount.frames + 1 ≤ R.frames ∧ 8 + (3 + 11) + rmX0_setCount.locals ≤ R.locals) (hcs : cells ≤ R.cells ∧ slots ≤ R.slots) (hsz : ls.size = nL) (hW : (rest.map fun v => v.category).sum ≤ 8) (hdg : decode cc pc = .ok (.invokevirtual 199, 3)) (kk : W p l e R s m args below meth c H locs cells slots Q (F0 m (pc + 3) ls (.int z :: rest))) : W p l e R s m args below meth c H locs cells slots Q (F0 m pc ls (.ref (u.1 5) :: rest)) := callO (runV F yv_X0_setCount_X3 (c_X0_setCount h (ad := (fun k => u.1 (k + 5)))) hw.1 (hw.2.1.sub [8, 9, 10, 11] rfl) (hw.2.2.1.sub [8, 9, 10, 11] (by decide) rfl) rfl rfl rfl ⟨rfl, rfl⟩ hR hcs rfl hsz rfl hW hdg) kk
theorem yv_X2_rowCount_X3 : YV RX3 202 yX2_rowCount cX2_rowCount 3 (some .int) 0 := ⟨(tw 504 (by decide +kernel) rfl), (tw 2 (by decide +kernel) rfl), (tw 501 (by decide +kernel) rfl), (tw 502 (by decide +kernel) rfl), (tw 503 (by decide +kernel) rfl), by decide +kernel⟩
theorem k_X2_rowCount_h_ {p : Program} {l : Launch} {e : Env} {R : Room} {s : State} {m : MethodId} {args : Array Value} {below : List Frame} {meth : Method} {c : Code} {H : Heap} {locs : List Loc} {cells slots : Nat} {Q : State → Prop} {G : GX} {A : Nat → Prop} {ad : Nat → Nat} {u : HS} {cc : ByteArray} {nL pc : Nat} {y : MethodName} {ret : Option FieldType} {ls : Array Slot} {rest : List Value} {z : Int32} (F : FX p m c cc nL s args y ret RX3 meth) (hw : WD G A s (hw_ G ad u) H locs) (h : f_X2_rowCount u.2.2.2.2.1 = some z) (hR : rmX2_rowCount.frames + 1 ≤ R.frames ∧ 8 + (3 + 11) + rmX2_rowCount.locals ≤ R.locals) (hcs : cells ≤ R.cells ∧ slots ≤ R.slots) (hsz : ls.size = nL) (hW : (rest.map fun v => v.category).sum ≤ 8) (hdg : decode cc pc = .ok (.invokevirtual 202, 3)) (kk : W p l e R s m args below meth c H locs cells slots Q (F0 m (pc + 3) ls (.int z :: rest))) : W p l e R s m args below meth c H locs cells slots Q (F0 m pc ls (.ref (u.1 0) :: rest)) := callO (runV F yv_X2_rowCount_X3 (c_X2_rowCount h (ad := u.1)) hw.1 (hw.2.1.sub [3, 4, 5, 6, 7, 8, 9, 10, 11, 12, 13, 14, 15, 16] rfl) (hw.2.2.1.sub [3, 4, 5, 6, 7, 8, 9, 10, 11, 12, 13, 14, 15, 16] (by decide) rfl) rfl rfl rfl ⟨rfl, rfl⟩ hR hcs rfl hsz rfl hW hdg) kk
def rmX3_count : Room := { frames := 4, cells := 0, slots := 0, locals := 85 }
noncomputable def f_X3_count (x1 : Int32) (u : HS) : Option (Int32) := (if x1 = 0 then (f_X2_thingsInAll u.2.2.2.2.1).bind (fun z2 => some z2) else (if x1 = 1 then some (u.2.2.1 5) else (if x1 = 2 then some u.2.2.2.2.1.2.2.2.2 else (if x1 = 3 then some (u.2.2.1 4) else (if x1 = 4 then (f_X0_setCount u.2.2.2.2.1.2.1).bind (fun z8 => some z8) else (if x1 = 5 then (f_X2_rowCount u.2.2.2.2.1).bind (fun z11 => some z11) else some (-3)))))))
section
variable {p : Program} {l : Launch} {e : Env} {s : State} {m : MethodId} {args : Array Value} {below : List Frame} {meth : Method} {c : Code}
variable {G : GX} {A : Nat → Prop} {ad : Nat → Nat} 
set_option maxHeartbeats 4000000 in
set_option maxRecDepth 100000 in
theorem w_X3_count_0 (F : FX p m c cX3_count 2 s args yX3_count (some .int) RX3 meth) {z : Int32} : ∀ (x1 : Int32) (u : HS) (ls : Array Slot), WD G A s (hw_ G ad u) s.heap [] → lv_has ls 2 [(0, .ref (ad 0)), (1, .int x1)] → f_X3_count x1 u = some z → W p l e rmX3_count s m args below meth c s.heap [] 0 0 (MQ below (QO (some (.int z))) args s 0 0 (fun _ => False)) (F0 m 0 ls []) := by
  obtain ⟨⟨hx, hb, hml, hown, hts⟩, hr, hlocks⟩ := id F
  intro x1 u ls hw hl h
  unfold f_X3_count at h
  refine lv_iload_n hx hb dX3_count_0 rfl (lv_at hl 1 rfl) ?_
  by_cases c1 : x1 = 0
  · replace h := itT h c1
    refine lv_tableIn (tgt := 40) hx hb dX3_count_1 (by rw [c1]; decide) (by rw [c1]; decide) (by rw [c1]; rfl) rfl ?_
    refine lv_aload_n hx hb dX3_count_40 rfl (lv_at hl 0 rfl) ?_
    refine h_g0_2 F hw dX3_count_41 ?_
    obtain ⟨z2, e3, h⟩ := bnd h
    refine k_X2_thingsInAll_h_ F hw e3 ⟨Nat.le_of_ble_eq_true rfl, Nat.le_of_ble_eq_true rfl⟩ ⟨Nat.zero_le _, Nat.zero_le _⟩ hl.1 (Nat.le_of_ble_eq_true rfl) dX3_count_44 ?_
    cases h
    exact retO_i F dX3_count_47
  replace h := itF h c1
  by_cases c4 : x1 = 1
  · replace h := itT h c4
    refine lv_tableIn (tgt := 48) hx hb dX3_count_1 (by rw [c4]; decide) (by rw [c4]; decide) (by rw [c4]; rfl) rfl ?_
    refine lv_aload_n hx hb dX3_count_48 rfl (lv_at hl 0 rfl) ?_
    refine h_g0_5 F hw dX3_count_49 ?_
    cases h
    exact retO_i F dX3_count_52
  replace h := itF h c4
  by_cases c5 : x1 = 2
  · replace h := itT h c5
    refine lv_tableIn (tgt := 53) hx hb dX3_count_1 (by rw [c5]; decide) (by rw [c5]; decide) (by rw [c5]; rfl) rfl ?_
    refine lv_aload_n hx hb dX3_count_53 rfl (lv_at hl 0 rfl) ?_
    refine h_g0_2 F hw dX3_count_54 ?_
    refine h_g3_7 F hw dX3_count_57 ?_
    cases h
    exact retO_i F dX3_count_60
  replace h := itF h c5
  by_cases c6 : x1 = 3
  · replace h := itT h c6
    refine lv_tableIn (tgt := 61) hx hb dX3_count_1 (by rw [c6]; decide) (by rw [c6]; decide) (by rw [c6]; rfl) rfl ?_
    refine lv_aload_n hx hb dX3_count_61 rfl (lv_at hl 0 rfl) ?_
    refine h_g0_4 F hw dX3_count_62 ?_
    cases h
    exact retO_i F dX3_count_65
  replace h := itF h c6
  by_cases c7 : x1 = 4
  · replace h := itT h c7
    refine lv_tableIn (tgt := 66) hx hb dX3_count_1 (by rw [c7]; decide) (by rw [c7]; decide) (by rw [c7]; rfl) rfl ?_
    refine lv_aload_n hx hb dX3_count_66 rfl (lv_at hl 0 rfl) ?_
    refine h_g0_2 F hw dX3_count_67 ?_
    refine h_g3_1 F hw dX3_count_70 ?_
    obtain ⟨z8, e9, h⟩ := bnd h
    refine k_X0_setCount_h_ F hw e9 ⟨Nat.le_of_ble_eq_true rfl, Nat.le_of_ble_eq_true rfl⟩ ⟨Nat.zero_le _, Nat.zero_le _⟩ hl.1 (Nat.le_of_ble_eq_true rfl) dX3_count_73 ?_
    cases h
    exact retO_i F dX3_count_76
  replace h := itF h c7
  by_cases c10 : x1 = 5
  · replace h := itT h c10
    refine lv_tableIn (tgt := 77) hx hb dX3_count_1 (by rw [c10]; decide) (by rw [c10]; decide) (by rw [c10]; rfl) rfl ?_
    refine lv_aload_n hx hb dX3_count_77 rfl (lv_at hl 0 rfl) ?_
    refine h_g0_2 F hw dX3_count_78 ?_
    obtain ⟨z11, e12, h⟩ := bnd h
    refine k_X2_rowCount_h_ F hw e12 ⟨Nat.le_of_ble_eq_true rfl, Nat.le_of_ble_eq_true rfl⟩ ⟨Nat.zero_le _, Nat.zero_le _⟩ hl.1 (Nat.le_of_ble_eq_true rfl) dX3_count_81 ?_
    cases h
    exact retO_i F dX3_count_84
  replace h := itF h c10
  refine lv_tableOut (tgt := 85) hx hb dX3_count_1 (by have q0 : (x1).toInt ≠ 0 := fun z => c1 (Int32.toInt_inj.mp (z.trans rfl)); have q1 : (x1).toInt ≠ 1 := fun z => c4 (Int32.toInt_inj.mp (z.trans rfl)); have q2 : (x1).toInt ≠ 2 := fun z => c5 (Int32.toInt_inj.mp (z.trans rfl)); have q3 : (x1).toInt ≠ 3 := fun z => c6 (Int32.toInt_inj.mp (z.trans rfl)); have q4 : (x1).toInt ≠ 4 := fun z => c7 (Int32.toInt_inj.mp (z.trans rfl)); have q5 : (x1).toInt ≠ 5 := fun z => c10 (Int32.toInt_inj.mp (z.trans rfl)); omega) rfl ?_
  refine lv_bipush (v := (-3)) hx hb dX3_count_85 rfl ?_
  cases h
  exact retO_i F dX3_count_87
end
theorem c_X3_count {l : Launch} {G : GX} {ad : Nat → Nat} {x1 : Int32} {u : HS} {z : Int32} (h : f_X3_count x1 u = some z) : MO l yX3_count cX3_count 2 (some .int) rmX3_count G (hw_ G ad u) [.ref (ad 0), .int x1] (some (.int z)) := MO.of (by decide) (Nat.le_of_ble_eq_true rfl) (fun p e s m below meth c ls F hw hl => w_X3_count_0 F _ _ _ hw hl h)
