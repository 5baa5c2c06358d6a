/-! ===== X3_endChange ===== -/
theorem dX3_endChange_0 : decode cX3_endChange 0 = .ok (.iload_n 1, 1) := by decide +kernel
theorem dX3_endChange_1 : decode cX3_endChange 1 = .ok (.ifCond .eq 29, 3) := by decide +kernel
theorem dX3_endChange_4 : decode cX3_endChange 4 = .ok (.aload_n 0, 1) := by decide +kernel
theorem dX3_endChange_5 : decode cX3_endChange 5 = .ok (.aload_n 0, 1) := by decide +kernel
theorem dX3_endChange_6 : decode cX3_endChange 6 = .ok (.invokevirtual 220, 3) := by decide +kernel
theorem dX3_endChange_9 : decode cX3_endChange 9 = .ok (.putfield 24, 3) := by decide +kernel
theorem dX3_endChange_12 : decode cX3_endChange 12 = .ok (.aload_n 0, 1) := by decide +kernel
theorem dX3_endChange_13 : decode cX3_endChange 13 = .ok (.bipush 8, 2) := by decide +kernel
theorem dX3_endChange_15 : decode cX3_endChange 15 = .ok (.aload_n 0, 1) := by decide +kernel
theorem dX3_endChange_16 : decode cX3_endChange 16 = .ok (.getfield 28, 3) := by decide +kernel
theorem dX3_endChange_19 : decode cX3_endChange 19 = .ok (.iconst 1, 1) := by decide +kernel
theorem dX3_endChange_20 : decode cX3_endChange 20 = .ok (.iadd, 1) := by decide +kernel
theorem dX3_endChange_21 : decode cX3_endChange 21 = .ok (.invokestatic 227, 3) := by decide +kernel
theorem dX3_endChange_24 : decode cX3_endChange 24 = .ok (.putfield 28, 3) := by decide +kernel
theorem dX3_endChange_27 : decode cX3_endChange 27 = .ok (.goto 11, 3) := by decide +kernel
theorem dX3_endChange_30 : decode cX3_endChange 30 = .ok (.aload_n 0, 1) := by decide +kernel
theorem dX3_endChange_31 : decode cX3_endChange 31 = .ok (.aload_n 0, 1) := by decide +kernel
theorem dX3_endChange_32 : decode cX3_endChange 32 = .ok (.invokevirtual 220, 3) := by decide +kernel
theorem dX3_endChange_35 : decode cX3_endChange 35 = .ok (.invokevirtual 179, 3) := by decide +kernel
theorem dX3_endChange_38 : decode cX3_endChange 38 = .ok (.return_, 1) := by decide +kernel
theorem yv_X3_exchangeWith_X3 : YV RX3 179 yX3_exchangeWith cX3_exchangeWith 3 none 1 := ⟨(tw 166 (by decide +kernel) rfl), (tw 1 (by decide +kernel) rfl), (tw 163 (by decide +kernel) rfl), (tw 165 (by decide +kernel) rfl), (tp 3 (by decide +kernel) rfl), by decide +kernel⟩
theorem k_X3_exchangeWith_h_ {p : Program} {l : Launch} {e : Env} {R : Room} {s : State} {m : MethodId} {args : Array Value} {below : List Frame} {meth : Method} {c : Code} {H : Heap} {locs : List Loc} {cells slots : Nat} {Q : State → Prop} {G : GX} {A : Nat → Prop} {ad : Nat → Nat} {u : HS} {cc : ByteArray} {nL pc : Nat} {y : MethodName} {ret : Option FieldType} {ls : Array Slot} {rest : List Value} {x1 : Int32} {z : HS} (F : FX p m c cc nL s args y ret RX3 meth) (hw : WD G A s (hw_ G ad u) H locs) (h : f_X3_exchangeWith x1 u = some z) (hR : rmX3_exchangeWith.frames + 1 ≤ R.frames ∧ 8 + (3 + 11) + rmX3_exchangeWith.locals ≤ R.locals) (hcs : cells ≤ R.cells ∧ slots ≤ R.slots) (hsz : ls.size = nL) (hW : (rest.map fun v => v.category).sum ≤ 8) (hdg : decode cc pc = .ok (.invokevirtual 179, 3)) (kk : ∀ (H : Heap) (locs : List Loc), WD G A s (hw_ G ad z) H locs → W p l e R s m args below meth c H locs cells slots Q (F0 m (pc + 3) ls (rest))) : W p l e R s m args below meth c H locs cells slots Q (F0 m pc ls (.int x1 :: .ref (ad 0) :: rest)) := callH (runV F yv_X3_exchangeWith_X3 (c_X3_exchangeWith h) hw.1 hw.2.1 hw.2.2.1 rfl rfl rfl ⟨rfl, rfl⟩ hR hcs rfl hsz rfl hW hdg) hw.2.2.2 hw.2.2.1.own_in (fun H1 l1 hP hD _ hS => kk H1 l1 ⟨hw.1, hP, hD, hS⟩)
theorem h_p0_3 {x : Int32} {p : Program} {l : Launch} {e : Env} {R : Room} {s : State} {m : MethodId} {args : Array Value} {below : List Frame} {meth : Method} {c : Code} {H : Heap} {locs : List Loc} {cells slots : Nat} {Q : State → Prop} {G : GX} {A : Nat → Prop} {ad : Nat → Nat} {u : HS} {cc : ByteArray} {nL pc : Nat} {y : MethodName} {ret : Option FieldType} {ls : Array Slot} {rest : List Value} (F : FX p m c cc nL s args y ret RX3 meth) (hw : WD G A s (hw_ G ad u) H locs) (hdg : decode cc pc = .ok (.putfield 24, 3)) (kk : ∀ (H : Heap) (locs : List Loc), WD G A s (hw_ G ad (hI u 3 x)) H locs → W p l e R s m args below meth c H locs cells slots Q (F0 m (pc + 3) ls (rest))) : W p l e R s m args below meth c H locs cells slots Q (F0 m pc ls (.int x :: .ref (ad 0) :: rest)) := va_put (D := G.1) (ci := 3) (ty := .int) (C := RX3) (T := TX3) (N := 6) (Ts := lw_gt) F.1.1 F.1.2.1 (fun _ h => F.tb h) inX3 tyX3 tyX3_ok nmX3 F.1.2.2.2.1 hw.1.1 hw.2.1 hw.2.2.1 hw.2.2.2 0 rfl rfl 3 (by decide) (F.tb (tw 104 (by decide +kernel) rfl)) (fun _ h9 => h9) rfl (by decide +kernel) rfl rfl (Nat.le_of_ble_eq_true rfl) hdg (fun H1 l1 hP hD hS => kk H1 l1 ⟨hw.1, hP, hD, hS⟩)
theorem h_g0_4 {p : Program} {l : Launch} {e : Env} {R : Room} {s : State} {m : MethodId} {args : Array Value} {below : List Frame} {meth : Method} {c : Code} {H : Heap} {locs : List Loc} {cells slots : Nat} {Q : State → Prop} {G : GX} {A : Nat → Prop} {ad : Nat → Nat} {u : HS} {cc : ByteArray} {nL pc : Nat} {y : MethodName} {ret : Option FieldType} {ls : Array Slot} {rest : List Value} (F : FX p m c cc nL s args y ret RX3 meth) (hw : WD G A s (hw_ G ad u) H locs) (hdg : decode cc pc = .ok (.getfield 28, 3)) (kk : W p l e R s m args below meth c H locs cells slots Q (F0 m (pc + 3) ls (.int (u.2.2.1 4) :: rest))) : W p l e R s m args below meth c H locs cells slots Q (F0 m pc ls (.ref (ad 0) :: rest)) := va_get (D := G.1) (ci := 3) (C := RX3) (T := TX3) (N := 6) (Ts := lw_gt) F.1.1 F.1.2.1 (fun _ h => F.tb h) inX3 F.1.2.2.2.1 hw.1.1 hw.2.1 0 rfl rfl 4 (by decide) (F.tb (tw 105 (by decide +kernel) rfl)) (fun _ h9 => h9) rfl hdg kk
theorem h_p0_4 {x : Int32} {p : Program} {l : Launch} {e : Env} {R : Room} {s : State} {m : MethodId} {args : Array Value} {below : List Frame} {meth : Method} {c : Code} {H : Heap} {locs : List Loc} {cells slots : Nat} {Q : State → Prop} {G : GX} {A : Nat → Prop} {ad : Nat → Nat} {u : HS} {cc : ByteArray} {nL pc : Nat} {y : MethodName} {ret : Option FieldType} {ls : Array Slot} {rest : List Value} (F : FX p m c cc nL s args y ret RX3 meth) (hw : WD G A s (hw_ G ad u) H locs) (hdg : decode cc pc = .ok (.putfield 28, 3)) (kk : ∀ (H : Heap) (locs : List Loc), WD G A s (hw_ G ad (hI u 4 x)) H locs → W p l e R s m args below meth c H locs cells slots Q (F0 m (pc + 3) ls (rest))) : W p l e R s m args below meth c H locs cells slots Q (F0 m pc ls (.int x :: .ref (ad 0) :: rest)) := va_put (D := G.1) (ci := 3) (ty := .int) (C := RX3) (T := TX3) (N := 6) (Ts := lw_gt) F.1.1 F.1.2.1 (fun _ h => F.tb h) inX3 tyX3 tyX3_ok nmX3 F.1.2.2.2.1 hw.1.1 hw.2.1 hw.2.2.1 hw.2.2.2 0 rfl rfl 4 (by decide) (F.tb (tw 105 (by decide +kernel) rfl)) (fun _ h9 => h9) rfl (by decide +kernel) rfl rfl (Nat.le_of_ble_eq_true rfl) hdg (fun H1 l1 hP hD hS => kk H1 l1 ⟨hw.1, hP, hD, hS⟩)
def rmX3_endChange : Room := { frames := 1, cells := 0, slots := 0, locals := 22 }
noncomputable def f_X3_endChange (x1 : Int32) (u : HS) : Option (HS) := (if x1 = 0 then (f_X3_spareSlot u).bind (fun z2 => (f_X3_exchangeWith z2 u).bind (fun z4 => some z4)) else (f_X3_spareSlot u).bind (fun z6 => some (hI (hI u 3 z6) 4 (if (((hI u 3 z6).2.2.1 4) + 1) < 8 then (((hI u 3 z6).2.2.1 4) + 1) else 8))))
section
variable {p : Program} {l : Launch} {e : Env} {s : State} {m : MethodId} {args : Array Value} {below : List Frame} {meth : Method} {c : Code}
variable {G : GX} {A : Nat → Prop} {ad : Nat → Nat} 
set_option maxHeartbeats 4000000 in
set_option maxRecDepth 100000 in
theorem w_X3_endChange_0 (F : FX p m c cX3_endChange 2 s args yX3_endChange none RX3 meth) {z : HS} : ∀ (x1 : Int32) (u : HS) (H : Heap) (locs : List Loc) (ls : Array Slot), WD G A s (hw_ G ad u) H locs → lv_has ls 2 [(0, .ref (ad 0)), (1, .int x1)] → f_X3_endChange x1 u = some z → W p l e rmX3_endChange s m args below meth c H locs 0 0 (MQ below (QH G (hw_ G ad z) A none) args s 0 0 A) (F0 m 0 ls []) := by
  obtain ⟨⟨hx, hb, hml, hown, hts⟩, hr, hlocks⟩ := id F
  intro x1 u H locs ls hw hl h
  unfold f_X3_endChange at h
  refine lv_iload_n hx hb dX3_endChange_0 rfl (lv_at hl 1 rfl) ?_
  refine lv_if_eq (tgt := 30) hx hb dX3_endChange_1 rfl (fun c1 => ?_) (fun c1 => ?_)
  · replace h := itT h c1
    refine lv_aload_n hx hb dX3_endChange_30 rfl (lv_at hl 0 rfl) ?_
    refine lv_aload_n hx hb dX3_endChange_31 rfl (lv_at hl 0 rfl) ?_
    obtain ⟨z2, e3, h⟩ := bnd h
    refine k_X3_spareSlot_h_ F hw e3 ⟨Nat.le_of_ble_eq_true rfl, Nat.le_of_ble_eq_true rfl⟩ ⟨Nat.zero_le _, Nat.zero_le _⟩ hl.1 (Nat.le_of_ble_eq_true rfl) dX3_endChange_32 ?_
    obtain ⟨z4, e5, h⟩ := bnd h
    refine k_X3_exchangeWith_h_ F hw e5 ⟨Nat.le_of_ble_eq_true rfl, Nat.le_of_ble_eq_true rfl⟩ ⟨Nat.zero_le _, Nat.zero_le _⟩ hl.1 (Nat.le_of_ble_eq_true rfl) dX3_endChange_35 (fun H locs hw => ?_)
    cases h
    exact retH_v F hw dX3_endChange_38
  · replace h := itF h c1
    refine lv_aload_n hx hb dX3_endChange_4 rfl (lv_at hl 0 rfl) ?_
    refine lv_aload_n hx hb dX3_endChange_5 rfl (lv_at hl 0 rfl) ?_
    obtain ⟨z6, e7, h⟩ := bnd h
    refine k_X3_spareSlot_h_ F hw e7 ⟨Nat.le_of_ble_eq_true rfl, Nat.le_of_ble_eq_true rfl⟩ ⟨Nat.zero_le _, Nat.zero_le _⟩ hl.1 (Nat.le_of_ble_eq_true rfl) dX3_endChange_6 ?_
    refine h_p0_3 F hw dX3_endChange_9 (fun H locs hw => ?_)
    refine lv_aload_n hx hb dX3_endChange_12 rfl (lv_at hl 0 rfl) ?_
    refine lv_bipush (v := 8) hx hb dX3_endChange_13 rfl ?_
    refine lv_aload_n hx hb dX3_endChange_15 rfl (lv_at hl 0 rfl) ?_
    refine h_g0_4 F hw dX3_endChange_16 ?_
    refine lv_iconst (v := 1) hx hb dX3_endChange_19 rfl ?_
    refine lv_iadd hx hb dX3_endChange_20 ?_
    refine va_mmin hx hb (hml.trans hl.1.symm) hown (F.tb (tw 160 (by decide +kernel) rfl)) (F.tb (tw 161 (by decide +kernel) rfl)) (F.tb (tw 8 (by decide +kernel) rfl)) (F.tb (tw 162 (by decide +kernel) rfl)) (Nat.le_of_ble_eq_true rfl) (Nat.le_of_ble_eq_true rfl) (Nat.zero_le _) (Nat.zero_le _) dX3_endChange_21 ?_
    refine h_p0_4 F hw dX3_endChange_24 (fun H locs hw => ?_)
    refine lv_goto (tgt := 38) hx hb dX3_endChange_27 rfl ?_
    cases h
    exact retH_v F hw dX3_endChange_38
end
theorem c_X3_endChange {l : Launch} {G : GX} {ad : Nat → Nat} {x1 : Int32} {u : HS} {z : HS} (h : f_X3_endChange x1 u = some z) : MH l yX3_endChange cX3_endChange 2 none rmX3_endChange G (hw_ G ad u) (hw_ G ad z) [.ref (ad 0), .int x1] none := MH.of (by decide) (Nat.le_of_ble_eq_true rfl) (fun p e s m below meth c ls F hw hl => w_X3_endChange_0 F _ _ _ _ _ hw hl h)
/-! ===== X3_row ===== -/
theorem dX3_row_0 : decode cX3_row 0 = .ok (.iload_n 1, 1) := by decide +kernel
theorem dX3_row_1 : decode cX3_row 1 = .ok (.ifCond .lt 27, 3) := by decide +kernel
theorem dX3_row_4 : decode cX3_row 4 = .ok (.iload_n 1, 1) := by decide +kernel
theorem dX3_row_5 : decode cX3_row 5 = .ok (.bipush 8, 2) := by decide +kernel
theorem dX3_row_7 : decode cX3_row 7 = .ok (.if_icmp .ge 21, 3) := by decide +kernel
theorem dX3_row_10 : decode cX3_row 10 = .ok (.iload_n 2, 1) := by decide +kernel
theorem dX3_row_11 : decode cX3_row 11 = .ok (.invokestatic 34, 3) := by decide +kernel
theorem dX3_row_14 : decode cX3_row 14 = .ok (.ifCond .eq 14, 3) := by decide +kernel
theorem dX3_row_17 : decode cX3_row 17 = .ok (.iload_n 3, 1) := by decide +kernel
theorem dX3_row_18 : decode cX3_row 18 = .ok (.iconst 4, 1) := by decide +kernel
theorem dX3_row_19 : decode cX3_row 19 = .ok (.if_icmp .lt 9, 3) := by decide +kernel
theorem dX3_row_22 : decode cX3_row 22 = .ok (.iload_n 3, 1) := by decide +kernel
theorem dX3_row_23 : decode cX3_row 23 = .ok (.bipush 40, 2) := by decide +kernel
theorem dX3_row_25 : decode cX3_row 25 = .ok (.if_icmp .le 6, 3) := by decide +kernel
theorem dX3_row_28 : decode cX3_row 28 = .ok (.bipush (-3), 2) := by decide +kernel
theorem dX3_row_30 : decode cX3_row 30 = .ok (.ireturn, 1) := by decide +kernel
theorem dX3_row_31 : decode cX3_row 31 = .ok (.aload_n 0, 1) := by decide +kernel
theorem dX3_row_32 : decode cX3_row 32 = .ok (.getfield 20, 3) := by decide +kernel
theorem dX3_row_35 : decode cX3_row 35 = .ok (.iload_n 1, 1) := by decide +kernel
theorem dX3_row_36 : decode cX3_row 36 = .ok (.invokevirtual 38, 3) := by decide +kernel
theorem dX3_row_39 : decode cX3_row 39 = .ok (.ifCond .eq 6, 3) := by decide +kernel
theorem dX3_row_42 : decode cX3_row 42 = .ok (.bipush (-4), 2) := by decide +kernel
theorem dX3_row_44 : decode cX3_row 44 = .ok (.ireturn, 1) := by decide +kernel
theorem dX3_row_45 : decode cX3_row 45 = .ok (.aload_n 0, 1) := by decide +kernel
theorem dX3_row_46 : decode cX3_row 46 = .ok (.invokevirtual 41, 3) := by decide +kernel
theorem dX3_row_49 : decode cX3_row 49 = .ok (.aload_n 0, 1) := by decide +kernel
theorem dX3_row_50 : decode cX3_row 50 = .ok (.getfield 20, 3) := by decide +kernel
theorem dX3_row_53 : decode cX3_row 53 = .ok (.getfield 44, 3) := by decide +kernel
theorem dX3_row_56 : decode cX3_row 56 = .ok (.iload_n 1, 1) := by decide +kernel
theorem dX3_row_57 : decode cX3_row 57 = .ok (.iload_n 2, 1) := by decide +kernel
theorem dX3_row_58 : decode cX3_row 58 = .ok (.iastore, 1) := by decide +kernel
theorem dX3_row_59 : decode cX3_row 59 = .ok (.aload_n 0, 1) := by decide +kernel
theorem dX3_row_60 : decode cX3_row 60 = .ok (.getfield 20, 3) := by decide +kernel
theorem dX3_row_63 : decode cX3_row 63 = .ok (.getfield 47, 3) := by decide +kernel
theorem dX3_row_66 : decode cX3_row 66 = .ok (.iload_n 1, 1) := by decide +kernel
theorem dX3_row_67 : decode cX3_row 67 = .ok (.iload_n 3, 1) := by decide +kernel
theorem dX3_row_68 : decode cX3_row 68 = .ok (.iastore, 1) := by decide +kernel
theorem dX3_row_69 : decode cX3_row 69 = .ok (.aload_n 0, 1) := by decide +kernel
theorem dX3_row_70 : decode cX3_row 70 = .ok (.iconst 1, 1) := by decide +kernel
theorem dX3_row_71 : decode cX3_row 71 = .ok (.invokevirtual 50, 3) := by decide +kernel
theorem dX3_row_74 : decode cX3_row 74 = .ok (.iconst 0, 1) := by decide +kernel
theorem dX3_row_75 : decode cX3_row 75 = .ok (.ireturn, 1) := by decide +kernel
theorem yv_X3_isKind_X3 : YS RX3 34 yX3_isKind cX3_isKind 1 (some .boolean) 1 := ⟨(tw 126 (by decide +kernel) rfl), (tw 1 (by decide +kernel) rfl), (tw 124 (by decide +kernel) rfl), (tw 125 (by decide +kernel) rfl), by decide +kernel⟩
theorem k_X3_isKind_h_ {p : Program} {l : Launch} {e : Env} {R : Room} {s : State} {m : MethodId} {args : Array Value} {below : List Frame} {meth : Method} {c : Code} {H : Heap} {locs : List Loc} {cells slots : Nat} {Q : State → Prop} {G : GX} {A : Nat → Prop} {ad : Nat → Nat} {u : HS} {cc : ByteArray} {nL pc : Nat} {y : MethodName} {ret : Option FieldType} {ls : Array Slot} {rest : List Value} {x0 : Int32} {z : Int32} (F : FX p m c cc nL s args y ret RX3 meth) (hw : WD G A s (hw_ G ad u) H locs) (h : f_X3_isKind x0 = some z) (hR : rmX3_isKind.frames + 1 ≤ R.frames ∧ 8 + (1 + 11) + rmX3_isKind.locals ≤ R.locals) (hcs : cells ≤ R.cells ∧ slots ≤ R.slots) (hsz : ls.size = nL) (hW : (rest.map fun v => v.category).sum ≤ 8) (hdg : decode cc pc = .ok (.invokestatic 34, 3)) (kk : W p l e R s m args below meth c H locs cells slots Q (F0 m (pc + 3) ls (.int z :: rest))) : W p l e R s m args below meth c H locs cells slots Q (F0 m pc ls (.int x0 :: rest)) := callO (runS F yv_X3_isKind_X3 (c_X3_isKind h (G := G)) hw.1 nil_P (A := A) nil_D ⟨rfl, rfl⟩ hR hcs rfl hsz rfl hW hdg) kk
theorem yv_X2_isRow_X3 : YV RX3 38 yX2_isRow cX2_isRow 2 (some .boolean) 1 := ⟨(tw 130 (by decide +kernel) rfl), (tw 2 (by decide +kernel) rfl), (tw 127 (by decide +kernel) rfl), (tw 128 (by decide +kernel) rfl), (tw 129 (by decide +kernel) rfl), by decide +kernel⟩
theorem k_X2_isRow_h_ {p : Program} {l : Launch} {e : Env} {R : Room} {s : State} {m : MethodId} {args : Array Value} {below : List Frame} {meth : Method} {c : Code} {H : Heap} {locs : List Loc} {cells slots : Nat} {Q : State → Prop} {G : GX} {A : Nat → Prop} {ad : Nat → Nat} {u : HS} {cc : ByteArray} {nL pc : Nat} {y : MethodName} {ret : Option FieldType} {ls : Array Slot} {rest : List Value} {x1 : Int32} {z : Int32} (F : FX p m c cc nL s args y ret RX3 meth) (hw : WD G A s (hw_ G ad u) H locs) (h : f_X2_isRow x1 u.2.2.2.2.1 = some z) (hR : rmX2_isRow.frames + 1 ≤ R.frames ∧ 8 + (2 + 11) + rmX2_isRow.locals ≤ R.locals) (hcs : cells ≤ R.cells ∧ slots ≤ R.slots) (hsz : ls.size = nL) (hW : (rest.map fun v => v.category).sum ≤ 8) (hdg : decode cc pc = .ok (.invokevirtual 38, 3)) (kk : W p l e R s m args below meth c H locs cells slots Q (F0 m (pc + 3) ls (.int z :: rest))) : W p l e R s m args below meth c H locs cells slots Q (F0 m pc ls (.int x1 :: .ref (u.1 0) :: rest)) := callO (runV F yv_X2_isRow_X3 (c_X2_isRow h (ad := u.1)) hw.1 (hw.2.1.sub [3, 4, 5, 6, 7, 8, 9, 10, 11, 12, 13, 14, 15, 16] rfl) (hw.2.2.1.sub [3, 4, 5, 6, 7, 8, 9, 10, 11, 12, 13, 14, 15, 16] (by decide) rfl) rfl rfl rfl ⟨rfl, rfl⟩ hR hcs rfl hsz rfl hW hdg) kk
theorem yv_X3_beginChange_X3 : YV RX3 41 yX3_beginChange cX3_beginChange 1 none 0 := ⟨(tw 134 (by decide +kernel) rfl), (tw 1 (by decide +kernel) rfl), (tw 131 (by decide +kernel) rfl), (tw 133 (by decide +kernel) rfl), (tp 0 (by decide +kernel) rfl), by decide +kernel⟩
theorem k_X3_beginChange_h_ {p : Program} {l : Launch} {e : Env} {R : Room} {s : State} {m : MethodId} {args : Array Value} {below : List Frame} {meth : Method} {c : Code} {H : Heap} {locs : List Loc} {cells slots : Nat} {Q : State → Prop} {G : GX} {A : Nat → Prop} {ad : Nat → Nat} {u : HS} {cc : ByteArray} {nL pc : Nat} {y : MethodName} {ret : Option FieldType} {ls : Array Slot} {rest : List Value} {z : HS} (F : FX p m c cc nL s args y ret RX3 meth) (hw : WD G A s (hw_ G ad u) H locs) (h : f_X3_beginChange u = some z) (hR : rmX3_beginChange.frames + 1 ≤ R.frames ∧ 8 + (1 + 11) + rmX3_beginChange.locals ≤ R.locals) (hcs : cells ≤ R.cells ∧ slots ≤ R.slots) (hsz : ls.size = nL) (hW : (rest.map fun v => v.category).sum ≤ 8) (hdg : decode cc pc = .ok (.invokevirtual 41, 3)) (kk : ∀ (H : Heap) (locs : List Loc), WD G A s (hw_ G ad z) H locs → W p l e R s m args below meth c H locs cells slots Q (F0 m (pc + 3) ls (rest))) : W p l e R s m args below meth c H locs cells slots Q (F0 m pc ls (.ref (ad 0) :: rest)) := callH (runV F yv_X3_beginChange_X3 (c_X3_beginChange h) hw.1 hw.2.1 hw.2.2.1 rfl rfl rfl ⟨rfl, rfl⟩ hR hcs rfl hsz rfl hW hdg) hw.2.2.2 hw.2.2.1.own_in (fun H1 l1 hP hD _ hS => kk H1 l1 ⟨hw.1, hP, hD, hS⟩)
theorem h_g3_2 {p : Program} {l : Launch} {e : Env} {R : Room} {s : State} {m : MethodId} {args : Array Value} {below : List Frame} {meth : Method} {c : Code} {H : Heap} {locs : List Loc} {cells slots : Nat} {Q : State → Prop} {G : GX} {A : Nat → Prop} {ad : Nat → Nat} {u : HS} {cc : ByteArray} {nL pc : Nat} {y : MethodName} {ret : Option FieldType} {ls : Array Slot} {rest : List Value} (F : FX p m c cc nL s args y ret RX3 meth) (hw : WD G A s (hw_ G ad u) H locs) (hdg : decode cc pc = .ok (.getfield 44, 3)) (kk : W p l e R s m args below meth c H locs cells slots Q (F0 m (pc + 3) ls (.ref (u.1 9) :: rest))) : W p l e R s m args below meth c H locs cells slots Q (F0 m pc ls (.ref (u.1 0) :: rest)) := va_get (D := G.1) (ci := 2) (C := RX2) (T := TX2) (N := 8) (Ts := lw_gt) F.1.1 F.1.2.1 (fun _ h => F.tb h) inX2 F.1.2.2.2.1 hw.1.1 hw.2.1 3 rfl rfl 2 (by decide) (F.tb (tw 72 (by decide +kernel) rfl)) (fun _ h9 => h9) rfl hdg kk
theorem h_s12 {i : Int32} {x : Int32} {p : Program} {l : Launch} {e : Env} {R : Room} {s : State} {m : MethodId} {args : Array Value} {below : List Frame} {meth : Method} {c : Code} {H : Heap} {locs : List Loc} {cells slots : Nat} {Q : State → Prop} {G : GX} {A : Nat → Prop} {ad : Nat → Nat} {u : HS} {cc : ByteArray} {nL pc : Nat} {y : MethodName} {ret : Option FieldType} {ls : Array Slot} {rest : List Value} (F : FX p m c cc nL s args y ret RX3 meth) (hw : WD G A s (hw_ G ad u) H locs) (hi : ix i 8 = true) (hdg : decode cc pc = .ok (.iastore, 1)) (kk : ∀ (H : Heap) (locs : List Loc), WD G A s (hw_ G ad (hN u (sA u.2.2.2.2.1 2 i.toNatClampNeg x))) H locs → W p l e R s m args below meth c H locs cells slots Q (F0 m (pc + 1) ls (rest))) : W p l e R s m args below meth c H locs cells slots Q (F0 m pc ls (.int x :: .int i :: .ref (u.1 9) :: rest)) := va_iast F.1.1 F.1.2.1 hw.1.1 hw.2.1 hw.2.2.1 hw.2.2.2 12 0 rfl rfl (ix_in hi) hdg (fun H1 l1 hP hD hS => kk H1 l1 ⟨hw.1, hP, hD, hS⟩)
theorem h_g3_3 {p : Program} {l : Launch} {e : Env} {R : Room} {s : State} {m : MethodId} {args : Array Value} {below : List Frame} {meth : Method} {c : Code} {H : Heap} {locs : List Loc} {cells slots : Nat} {Q : State → Prop} {G : GX} {A : Nat → Prop} {ad : Nat → Nat} {u : HS} {cc : ByteArray} {nL pc : Nat} {y : MethodName} {ret : Option FieldType} {ls : Array Slot} {rest : List Value} (F : FX p m c cc nL s args y ret RX3 meth) (hw : WD G A s (hw_ G ad u) H locs) (hdg : decode cc pc = .ok (.getfield 47, 3)) (kk : W p l e R s m args below meth c H locs cells slots Q (F0 m (pc + 3) ls (.ref (u.1 10) :: rest))) : W p l e R s m args below meth c H locs cells slots Q (F0 m pc ls (.ref (u.1 0) :: rest)) := va_get (D := G.1) (ci := 2) (C := RX2) (T := TX2) (N := 8) (Ts := lw_gt) F.1.1 F.1.2.1 (fun _ h => F.tb h) inX2 F.1.2.2.2.1 hw.1.1 hw.2.1 3 rfl rfl 3 (by decide) (F.tb (tw 74 (by decide +kernel) rfl)) (fun _ h9 => h9) rfl hdg kk
theorem h_s13 {i : Int32} {x : Int32} {p : Program} {l : Launch} {e : Env} {R : Room} {s : State} {m : MethodId} {args : Array Value} {below : List Frame} {meth : Method} {c : Code} {H : Heap} {locs : List Loc} {cells slots : Nat} {Q : State → Prop} {G : GX} {A : Nat → Prop} {ad : Nat → Nat} {u : HS} {cc : ByteArray} {nL pc : Nat} {y : MethodName} {ret : Option FieldType} {ls : Array Slot} {rest : List Value} (F : FX p m c cc nL s args y ret RX3 meth) (hw : WD G A s (hw_ G ad u) H locs) (hi : ix i 8 = true) (hdg : decode cc pc = .ok (.iastore, 1)) (kk : ∀ (H : Heap) (locs : List Loc), WD G A s (hw_ G ad (hN u (sA u.2.2.2.2.1 3 i.toNatClampNeg x))) H locs → W p l e R s m args below meth c H locs cells slots Q (F0 m (pc + 1) ls (rest))) : W p l e R s m args below meth c H locs cells slots Q (F0 m pc ls (.int x :: .int i :: .ref (u.1 10) :: rest)) := va_iast F.1.1 F.1.2.1 hw.1.1 hw.2.1 hw.2.2.1 hw.2.2.2 13 0 rfl rfl (ix_in hi) hdg (fun H1 l1 hP hD hS => kk H1 l1 ⟨hw.1, hP, hD, hS⟩)
theorem yv_X3_endChange_X3 : YV RX3 50 yX3_endChange cX3_endChange 2 none 1 := ⟨(tw 159 (by decide +kernel) rfl), (tw 1 (by decide +kernel) rfl), (tw 156 (by decide +kernel) rfl), (tw 158 (by decide +kernel) rfl), (tp 2 (by decide +kernel) rfl), by decide +kernel⟩
theorem k_X3_endChange_h_ {p : Program} {l : Launch} {e : Env} {R : Room} {s : State} {m : MethodId} {args : Array Value} {below : List Frame} {meth : Method} {c : Code} {H : Heap} {locs : List Loc} {cells slots : Nat} {Q : State → Prop} {G : GX} {A : Nat → Prop} {ad : Nat → Nat} {u : HS} {cc : ByteArray} {nL pc : Nat} {y : MethodName} {ret : Option FieldType} {ls : Array Slot} {rest : List Value} {x1 : Int32} {z : HS} (F : FX p m c cc nL s args y ret RX3 meth) (hw : WD G A s (hw_ G ad u) H locs) (h : f_X3_endChange x1 u = some z) (hR : rmX3_endChange.frames + 1 ≤ R.frames ∧ 8 + (2 + 11) + rmX3_endChange.locals ≤ R.locals) (hcs : cells ≤ R.cells ∧ slots ≤ R.slots) (hsz : ls.size = nL) (hW : (rest.map fun v => v.category).sum ≤ 8) (hdg : decode cc pc = .ok (.invokevirtual 50, 3)) (kk : ∀ (H : Heap) (locs : List Loc), WD G A s (hw_ G ad z) H locs → W p l e R s m args below meth c H locs cells slots Q (F0 m (pc + 3) ls (rest))) : W p l e R s m args below meth c H locs cells slots Q (F0 m pc ls (.int x1 :: .ref (ad 0) :: rest)) := callH (runV F yv_X3_endChange_X3 (c_X3_endChange h) hw.1 hw.2.1 hw.2.2.1 rfl rfl rfl ⟨rfl, rfl⟩ hR hcs rfl hsz rfl hW hdg) hw.2.2.2 hw.2.2.1.own_in (fun H1 l1 hP hD _ hS => kk H1 l1 ⟨hw.1, hP, hD, hS⟩)
def rmX3_row : Room := { frames := 4, cells := 0, slots := 0, locals := 80 }
noncomputable def f_X3_row (x1 : Int32) (x2 : Int32) (x3 : Int32) (u : HS) : Option (Int32 × HS) := (if x1 < 0 then some ((-3), u) else (if (8 : Int32) ≤ x1 then some ((-3), u) else (f_X3_isKind x2).bind (fun z3 => (if z3 = 0 then some ((-3), u) else (if x3 < (4 : Int32) then some ((-3), u) else (if x3 ≤ (40 : Int32) then (f_X2_isRow x1 u.2.2.2.2.1).bind (fun z8 => (if z8 = 0 then (f_X3_beginChange u).bind (fun z11 => (if ix x1 8 = true then (if ix x1 8 = true then (f_X3_endChange 1 (hN (hN z11 (sA z11.2.2.2.2.1 2 (Int32.toNatClampNeg x1) x2)) (sA (hN z11 (sA z11.2.2.2.2.1 2 (Int32.toNatClampNeg x1) x2)).2.2.2.2.1 3 (Int32.toNatClampNeg x1) x3))).bind (fun z15 => some (0, z15)) else none) else none)) else some ((-4), u))) else some ((-3), u)))))))
section
variable {p : Program} {l : Launch} {e : Env} {s : State} {m : MethodId} {args : Array Value} {below : List Frame} {meth : Method} {c : Code}
variable {G : GX} {A : Nat → Prop} {ad : Nat → Nat} 
set_option maxHeartbeats 4000000 in
set_option maxRecDepth 100000 in
theorem w_X3_row_0 (F : FX p m c cX3_row 4 s args yX3_row (some .int) RX3 meth) {z : Int32 × HS} : ∀ (x1 : Int32) (x2 : Int32) (x3 : Int32) (u : HS) (H : Heap) (locs : List Loc) (ls : Array Slot), WD G A s (hw_ G ad u) H locs → lv_has ls 4 [(0, .ref (ad 0)), (1, .int x1), (2, .int x2), (3, .int x3)] → f_X3_row x1 x2 x3 u = some z → W p l e rmX3_row s m args below meth c H locs 0 0 (MQ below (QH G (hw_ G ad z.2) A (some (.int z.1))) args s 0 0 A) (F0 m 0 ls []) := by
  obtain ⟨⟨hx, hb, hml, hown, hts⟩, hr, hlocks⟩ := id F
  intro x1 x2 x3 u H locs ls hw hl h
  unfold f_X3_row at h
  refine lv_iload_n hx hb dX3_row_0 rfl (lv_at hl 1 rfl) ?_
  refine lv_if_lt (tgt := 28) hx hb dX3_row_1 rfl (fun c1 => ?_) (fun c1 => ?_)
  · replace h := itT h c1
    refine lv_bipush (v := (-3)) hx hb dX3_row_28 rfl ?_
    cases h
    exact retH_i F hw dX3_row_30
  · replace h := itF h c1
    refine lv_iload_n hx hb dX3_row_4 rfl (lv_at hl 1 rfl) ?_
    refine lv_bipush (v := 8) hx hb dX3_row_5 rfl ?_
    refine lv_icmp_ge (tgt := 28) hx hb dX3_row_7 rfl (fun c2 => ?_) (fun c2 => ?_)
    · replace h := itT h c2
      refine lv_bipush (v := (-3)) hx hb dX3_row_28 rfl ?_
      cases h
      exact retH_i F hw dX3_row_30
    · replace h := itF h c2
      refine lv_iload_n hx hb dX3_row_10 rfl (lv_at hl 2 rfl) ?_
      obtain ⟨z3, e4, h⟩ := bnd h
      refine k_X3_isKind_h_ F hw e4 ⟨Nat.le_of_ble_eq_true rfl, Nat.le_of_ble_eq_true rfl⟩ ⟨Nat.zero_le _, Nat.zero_le _⟩ hl.1 (Nat.le_of_ble_eq_true rfl) dX3_row_11 ?_
      refine lv_if_eq (tgt := 28) hx hb dX3_row_14 rfl (fun c5 => ?_) (fun c5 => ?_)
      · replace h := itT h c5
        refine lv_bipush (v := (-3)) hx hb dX3_row_28 rfl ?_
        cases h
        exact retH_i F hw dX3_row_30
      · replace h := itF h c5
        refine lv_iload_n hx hb dX3_row_17 rfl (lv_at hl 3 rfl) ?_
        refine lv_iconst (v := 4) hx hb dX3_row_18 rfl ?_
        refine lv_icmp_lt (tgt := 28) hx hb dX3_row_19 rfl (fun c6 => ?_) (fun c6 => ?_)
        · replace h := itT h c6
          refine lv_bipush (v := (-3)) hx hb dX3_row_28 rfl ?_
          cases h
          exact retH_i F hw dX3_row_30
        · replace h := itF h c6
          refine lv_iload_n hx hb dX3_row_22 rfl (lv_at hl 3 rfl) ?_
          refine lv_bipush (v := 40) hx hb dX3_row_23 rfl ?_
          refine lv_icmp_le (tgt := 31) hx hb dX3_row_25 rfl (fun c7 => ?_) (fun c7 => ?_)
          · replace h := itT h c7
            refine lv_aload_n hx hb dX3_row_31 rfl (lv_at hl 0 rfl) ?_
            refine h_g0_2 F hw dX3_row_32 ?_
            refine lv_iload_n hx hb dX3_row_35 rfl (lv_at hl 1 rfl) ?_
            obtain ⟨z8, e9, h⟩ := bnd h
            refine k_X2_isRow_h_ F hw e9 ⟨Nat.le_of_ble_eq_true rfl, Nat.le_of_ble_eq_true rfl⟩ ⟨Nat.zero_le _, Nat.zero_le _⟩ hl.1 (Nat.le_of_ble_eq_true rfl) dX3_row_36 ?_
            refine lv_if_eq (tgt := 45) hx hb dX3_row_39 rfl (fun c10 => ?_) (fun c10 => ?_)
            · replace h := itT h c10
              refine lv_aload_n hx hb dX3_row_45 rfl (lv_at hl 0 rfl) ?_
              obtain ⟨z11, e12, h⟩ := bnd h
              refine k_X3_beginChange_h_ F hw e12 ⟨Nat.le_of_ble_eq_true rfl, Nat.le_of_ble_eq_true rfl⟩ ⟨Nat.zero_le _, Nat.zero_le _⟩ hl.1 (Nat.le_of_ble_eq_true rfl) dX3_row_46 (fun H locs hw => ?_)
              refine lv_aload_n hx hb dX3_row_49 rfl (lv_at hl 0 rfl) ?_
              refine h_g0_2 F hw dX3_row_50 ?_
              refine h_g3_2 F hw dX3_row_53 ?_
              refine lv_iload_n hx hb dX3_row_56 rfl (lv_at hl 1 rfl) ?_
              refine lv_iload_n hx hb dX3_row_57 rfl (lv_at hl 2 rfl) ?_
              obtain ⟨g13, h⟩ := gd h
              refine h_s12 F hw g13 dX3_row_58 (fun H locs hw => ?_)
              refine lv_aload_n hx hb dX3_row_59 rfl (lv_at hl 0 rfl) ?_
              refine h_g0_2 F hw dX3_row_60 ?_
              refine h_g3_3 F hw dX3_row_63 ?_
              refine lv_iload_n hx hb dX3_row_66 rfl (lv_at hl 1 rfl) ?_
              refine lv_iload_n hx hb dX3_row_67 rfl (lv_at hl 3 rfl) ?_
              obtain ⟨g14, h⟩ := gd h
              refine h_s13 F hw g14 dX3_row_68 (fun H locs hw => ?_)
              refine lv_aload_n hx hb dX3_row_69 rfl (lv_at hl 0 rfl) ?_
              refine lv_iconst (v := 1) hx hb dX3_row_70 rfl ?_
              obtain ⟨z15, e16, h⟩ := bnd h
              refine k_X3_endChange_h_ F hw e16 ⟨Nat.le_of_ble_eq_true rfl, Nat.le_of_ble_eq_true rfl⟩ ⟨Nat.zero_le _, Nat.zero_le _⟩ hl.1 (Nat.le_of_ble_eq_true rfl) dX3_row_71 (fun H locs hw => ?_)
              refine lv_iconst (v := 0) hx hb dX3_row_74 rfl ?_
              cases h
              exact retH_i F hw dX3_row_75
            · replace h := itF h c10
              refine lv_bipush (v := (-4)) hx hb dX3_row_42 rfl ?_
              cases h
              exact retH_i F hw dX3_row_44
          · replace h := itF h c7
            refine lv_bipush (v := (-3)) hx hb dX3_row_28 rfl ?_
            cases h
            exact retH_i F hw dX3_row_30
end
theorem c_X3_row {l : Launch} {G : GX} {ad : Nat → Nat} {x1 : Int32} {x2 : Int32} {x3 : Int32} {u : HS} {z : Int32 × HS} (h : f_X3_row x1 x2 x3 u = some z) : MH l yX3_row cX3_row 4 (some .int) rmX3_row G (hw_ G ad u) (hw_ G ad z.2) [.ref (ad 0), .int x1, .int x2, .int x3] (some (.int z.1)) := MH.of (by decide) (Nat.le_of_ble_eq_true rfl) (fun p e s m below meth c ls F hw hl => w_X3_row_0 F _ _ _ _ _ _ _ hw hl h)
/-! ===== X3_isStanding ===== -/
theorem dX3_isStanding_0 : decode cX3_isStanding 0 = .ok (.iload_n 1, 1) := by decide +kernel
theorem dX3_isStanding_1 : decode cX3_isStanding 1 = .ok (.ifCond .lt 30, 3) := by decide +kernel
theorem dX3_isStanding_4 : decode cX3_isStanding 4 = .ok (.iload_n 1, 1) := by decide +kernel
theorem dX3_isStanding_5 : decode cX3_isStanding 5 = .ok (.aload_n 0, 1) := by decide +kernel
theorem dX3_isStanding_6 : decode cX3_isStanding 6 = .ok (.getfield 31, 3) := by decide +kernel
theorem dX3_isStanding_9 : decode cX3_isStanding 9 = .ok (.if_icmp .ge 22, 3) := by decide +kernel
theorem dX3_isStanding_12 : decode cX3_isStanding 12 = .ok (.aload_n 0, 1) := by decide +kernel
theorem dX3_isStanding_13 : decode cX3_isStanding 13 = .ok (.getfield 20, 3) := by decide +kernel
theorem dX3_isStanding_16 : decode cX3_isStanding 16 = .ok (.getfield 69, 3) := by decide +kernel
theorem dX3_isStanding_19 : decode cX3_isStanding 19 = .ok (.iload_n 1, 1) := by decide +kernel
theorem dX3_isStanding_20 : decode cX3_isStanding 20 = .ok (.invokevirtual 73, 3) := by decide +kernel
theorem dX3_isStanding_23 : decode cX3_isStanding 23 = .ok (.iconst (-1), 1) := by decide +kernel
theorem dX3_isStanding_24 : decode cX3_isStanding 24 = .ok (.if_icmp .eq 7, 3) := by decide +kernel
theorem dX3_isStanding_27 : decode cX3_isStanding 27 = .ok (.iconst 1, 1) := by decide +kernel
theorem dX3_isStanding_28 : decode cX3_isStanding 28 = .ok (.goto 4, 3) := by decide +kernel
theorem dX3_isStanding_31 : decode cX3_isStanding 31 = .ok (.iconst 0, 1) := by decide +kernel
theorem dX3_isStanding_32 : decode cX3_isStanding 32 = .ok (.ireturn, 1) := by decide +kernel
theorem h_g0_5 {p : Program} {l : Launch} {e : Env} {R : Room} {s : State} {m : MethodId} {args : Array Value} {below : List Frame} {meth : Method} {c : Code} {H : Heap} {locs : List Loc} {cells slots : Nat} {Q : State → Prop} {G : GX} {A : Nat → Prop} {ad : Nat → Nat} {u : HS} {cc : ByteArray} {nL pc : Nat} {y : MethodName} {ret : Option FieldType} {ls : Array Slot} {rest : List Value} (F : FX p m c cc nL s args y ret RX3 meth) (hw : WD G A s (hw_ G ad u) H locs) (hdg : decode cc pc = .ok (.getfield 31, 3)) (kk : W p l e R s m args below meth c H locs cells slots Q (F0 m (pc + 3) ls (.int (u.2.2.1 5) :: rest))) : W p l e R s m args below meth c H locs cells slots Q (F0 m pc ls (.ref (ad 0) :: rest)) := va_get (D := G.1) (ci := 3) (C := RX3) (T := TX3) (N := 6) (Ts := lw_gt) F.1.1 F.1.2.1 (fun _ h => F.tb h) inX3 F.1.2.2.2.1 hw.1.1 hw.2.1 0 rfl rfl 5 (by decide) (F.tb (tw 106 (by decide +kernel) rfl)) (fun _ h9 => h9) rfl hdg kk
theorem h_g3_0 {p : Program} {l : Launch} {e : Env} {R : Room} {s : State} {m : MethodId} {args : Array Value} {below : List Frame} {meth : Method} {c : Code} {H : Heap} {locs : List Loc} {cells slots : Nat} {Q : State → Prop} {G : GX} {A : Nat → Prop} {ad : Nat → Nat} {u : HS} {cc : ByteArray} {nL pc : Nat} {y : MethodName} {ret : Option FieldType} {ls : Array Slot} {rest : List Value} (F : FX p m c cc nL s args y ret RX3 meth) (hw : WD G A s (hw_ G ad u) H locs) (hdg : decode cc pc = .ok (.getfield 69, 3)) (kk : W p l e R s m args below meth c H locs cells slots Q (F0 m (pc + 3) ls (.ref (u.1 1) :: rest))) : W p l e R s m args below meth c H locs cells slots Q (F0 m pc ls (.ref (u.1 0) :: rest)) := va_get (D := G.1) (ci := 2) (C := RX2) (T := TX2) (N := 8) (Ts := lw_gt) F.1.1 F.1.2.1 (fun _ h => F.tb h) inX2 F.1.2.2.2.1 hw.1.1 hw.2.1 3 rfl rfl 0 (by decide) (F.tb (tw 68 (by decide +kernel) rfl)) (fun _ h9 => h9) rfl hdg kk
theorem yv_X1_rowOfThing_X3 : YV RX3 73 yX1_rowOfThing cX1_rowOfThing 2 (some .int) 1 := ⟨(tw 186 (by decide +kernel) rfl), (tw 3 (by decide +kernel) rfl), (tw 183 (by decide +kernel) rfl), (tw 184 (by decide +kernel) rfl), (tw 185 (by decide +kernel) rfl), by decide +kernel⟩
theorem k_X1_rowOfThing_h_ {p : Program} {l : Launch} {e : Env} {R : Room} {s : State} {m : MethodId} {args : Array Value} {below : List Frame} {meth : Method} {c : Code} {H : Heap} {locs : List Loc} {cells slots : Nat} {Q : State → Prop} {G : GX} {A : Nat → Prop} {ad : Nat → Nat} {u : HS} {cc : ByteArray} {nL pc : Nat} {y : MethodName} {ret : Option FieldType} {ls : Array Slot} {rest : List Value} {x1 : Int32} {z : Int32} (F : FX p m c cc nL s args y ret RX3 meth) (hw : WD G A s (hw_ G ad u) H locs) (h : f_X1_rowOfThing x1 u.2.2.2.2.1.1 = some z) (hR : rmX1_rowOfThing.frames + 1 ≤ R.frames ∧ 8 + (2 + 11) + rmX1_rowOfThing.locals ≤ R.locals) (hcs : cells ≤ R.cells ∧ slots ≤ R.slots) (hsz : ls.size = nL) (hW : (rest.map fun v => v.category).sum ≤ 8) (hdg : decode cc pc = .ok (.invokevirtual 73, 3)) (kk : W p l e R s m args below meth c H locs cells slots Q (F0 m (pc + 3) ls (.int z :: rest))) : W p l e R s m args below meth c H locs cells slots Q (F0 m pc ls (.int x1 :: .ref (u.1 1) :: rest)) := callO (runV F yv_X1_rowOfThing_X3 (c_X1_rowOfThing h (ad := (fun k => u.1 (k + 1)))) hw.1 (hw.2.1.sub [4, 5, 6, 7] rfl) (hw.2.2.1.sub [4, 5, 6, 7] (by decide) rfl) rfl rfl rfl ⟨rfl, rfl⟩ hR hcs rfl hsz rfl hW hdg) kk
def rmX3_isStanding : Room := { frames := 1, cells := 0, slots := 0, locals := 21 }
noncomputable def f_X3_isStanding (x1 : Int32) (u : HS) : Option (Int32) := (if x1 < 0 then some 0 else (if (u.2.2.1 5) ≤ x1 then some 0 else (f_X1_rowOfThing x1 u.2.2.2.2.1.1).bind (fun z3 => (if z3 = ((-1) : Int32) then some 0 else some 1))))
section
variable {p : Program} {l : Launch} {e : Env} {s : State} {m : MethodId} {args : Array Value} {below : List Frame} {meth : Method} {c : Code}
variable {G : GX} {A : Nat → Prop} {ad : Nat → Nat} 
set_option maxHeartbeats 4000000 in
set_option maxRecDepth 100000 in
theorem w_X3_isStanding_0 (F : FX p m c cX3_isStanding 2 s args yX3_isStanding (some .boolean) RX3 meth) {z : Int32} : ∀ (x1 : Int32) (u : HS) (ls : Array Slot), WD G A s (hw_ G ad u) s.heap [] → lv_has ls 2 [(0, .ref (ad 0)), (1, .int x1)] → f_X3_isStanding x1 u = some z → W p l e rmX3_isStanding s m args below meth c s.heap [] 0 0 (MQ below (QO (some (.int z))) args s 0 0 (fun _ => False)) (F0 m 0 ls []) := by
  obtain ⟨⟨hx, hb, hml, hown, hts⟩, hr, hlocks⟩ := id F
  intro x1 u ls hw hl h
  unfold f_X3_isStanding at h
  refine lv_iload_n hx hb dX3_isStanding_0 rfl (lv_at hl 1 rfl) ?_
  refine lv_if_lt (tgt := 31) hx hb dX3_isStanding_1 rfl (fun c1 => ?_) (fun c1 => ?_)
  · replace h := itT h c1
    refine lv_iconst (v := 0) hx hb dX3_isStanding_31 rfl ?_
    cases h
    exact retO_z F narrow_b0 dX3_isStanding_32
  · replace h := itF h c1
    refine lv_iload_n hx hb dX3_isStanding_4 rfl (lv_at hl 1 rfl) ?_
    refine lv_aload_n hx hb dX3_isStanding_5 rfl (lv_at hl 0 rfl) ?_
    refine h_g0_5 F hw dX3_isStanding_6 ?_
    refine lv_icmp_ge (tgt := 31) hx hb dX3_isStanding_9 rfl (fun c2 => ?_) (fun c2 => ?_)
    · replace h := itT h c2
      refine lv_iconst (v := 0) hx hb dX3_isStanding_31 rfl ?_
      cases h
      exact retO_z F narrow_b0 dX3_isStanding_32
    · replace h := itF h c2
      refine lv_aload_n hx hb dX3_isStanding_12 rfl (lv_at hl 0 rfl) ?_
      refine h_g0_2 F hw dX3_isStanding_13 ?_
      refine h_g3_0 F hw dX3_isStanding_16 ?_
      refine lv_iload_n hx hb dX3_isStanding_19 rfl (lv_at hl 1 rfl) ?_
      obtain ⟨z3, e4, h⟩ := bnd h
      refine k_X1_rowOfThing_h_ F hw e4 ⟨Nat.le_of_ble_eq_true rfl, Nat.le_of_ble_eq_true rfl⟩ ⟨Nat.zero_le _, Nat.zero_le _⟩ hl.1 (Nat.le_of_ble_eq_true rfl) dX3_isStanding_20 ?_
      refine lv_iconst (v := (-1)) hx hb dX3_isStanding_23 rfl ?_
      refine lv_icmp_eq (tgt := 31) hx hb dX3_isStanding_24 rfl (fun c5 => ?_) (fun c5 => ?_)
      · replace h := itT h c5
        refine lv_iconst (v := 0) hx hb dX3_isStanding_31 rfl ?_
        cases h
        exact retO_z F narrow_b0 dX3_isStanding_32
      · replace h := itF h c5
        refine lv_iconst (v := 1) hx hb dX3_isStanding_27 rfl ?_
        refine lv_goto (tgt := 32) hx hb dX3_isStanding_28 rfl ?_
        cases h
        exact retO_z F narrow_b1 dX3_isStanding_32
end
theorem c_X3_isStanding {l : Launch} {G : GX} {ad : Nat → Nat} {x1 : Int32} {u : HS} {z : Int32} (h : f_X3_isStanding x1 u = some z) : MO l yX3_isStanding cX3_isStanding 2 (some .boolean) rmX3_isStanding G (hw_ G ad u) [.ref (ad 0), .int x1] (some (.int z)) := MO.of (by decide) (Nat.le_of_ble_eq_true rfl) (fun p e s m below meth c ls F hw hl => w_X3_isStanding_0 F _ _ _ hw hl h)
/-! ===== X3_hasStand ===== -/
theorem dX3_hasStand_0 : decode cX3_hasStand 0 = .ok (.aload_n 0, 1) := by decide +kernel
theorem dX3_hasStand_1 : decode cX3_hasStand 1 = .ok (.iload_n 1, 1) := by decide +kernel
theorem dX3_hasStand_2 : decode cX3_hasStand 2 = .ok (.invokevirtual 66, 3) := by decide +kernel
theorem dX3_hasStand_5 : decode cX3_hasStand 5 = .ok (.ifCond .eq 22, 3) := by decide +kernel
theorem dX3_hasStand_8 : decode cX3_hasStand 8 = .ok (.iload_n 2, 1) := by decide +kernel
theorem dX3_hasStand_9 : decode cX3_hasStand 9 = .ok (.ifCond .eq 14, 3) := by decide +kernel
theorem dX3_hasStand_12 : decode cX3_hasStand 12 = .ok (.aload_n 0, 1) := by decide +kernel
theorem dX3_hasStand_13 : decode cX3_hasStand 13 = .ok (.getfield 20, 3) := by decide +kernel
theorem dX3_hasStand_16 : decode cX3_hasStand 16 = .ok (.iload_n 1, 1) := by decide +kernel
theorem dX3_hasStand_17 : decode cX3_hasStand 17 = .ok (.invokevirtual 210, 3) := by decide +kernel
theorem dX3_hasStand_20 : decode cX3_hasStand 20 = .ok (.ifCond .eq 7, 3) := by decide +kernel
theorem dX3_hasStand_23 : decode cX3_hasStand 23 = .ok (.iconst 1, 1) := by decide +kernel
theorem dX3_hasStand_24 : decode cX3_hasStand 24 = .ok (.goto 4, 3) := by decide +kernel
theorem dX3_hasStand_27 : decode cX3_hasStand 27 = .ok (.iconst 0, 1) := by decide +kernel
theorem dX3_hasStand_28 : decode cX3_hasStand 28 = .ok (.ireturn, 1) := by decide +kernel
theorem yv_X3_isStanding_X3 : YV RX3 66 yX3_isStanding cX3_isStanding 2 (some .boolean) 1 := ⟨(tw 182 (by decide +kernel) rfl), (tw 1 (by decide +kernel) rfl), (tw 179 (by decide +kernel) rfl), (tw 181 (by decide +kernel) rfl), (tp 6 (by decide +kernel) rfl), by decide +kernel⟩
theorem k_X3_isStanding_h_ {p : Program} {l : Launch} {e : Env} {R : Room} {s : State} {m : MethodId} {args : Array Value} {below : List Frame} {meth : Method} {c : Code} {H : Heap} {locs : List Loc} {cells slots : Nat} {Q : State → Prop} {G : GX} {A : Nat → Prop} {ad : Nat → Nat} {u : HS} {cc : ByteArray} {nL pc : Nat} {y : MethodName} {ret : Option FieldType} {ls : Array Slot} {rest : List Value} {x1 : Int32} {z : Int32} (F : FX p m c cc nL s args y ret RX3 meth) (hw : WD G A s (hw_ G ad u) H locs) (h : f_X3_isStanding x1 u = some z) (hR : rmX3_isStanding.frames + 1 ≤ R.frames ∧ 8 + (2 + 11) + rmX3_isStanding.locals ≤ R.locals) (hcs : cells ≤ R.cells ∧ slots ≤ R.slots) (hsz : ls.size = nL) (hW : (rest.map fun v => v.category).sum ≤ 8) (hdg : decode cc pc = .ok (.invokevirtual 66, 3)) (kk : W p l e R s m args below meth c H locs cells slots Q (F0 m (pc + 3) ls (.int z :: rest))) : W p l e R s m args below meth c H locs cells slots Q (F0 m pc ls (.int x1 :: .ref (ad 0) :: rest)) := callO (runV F yv_X3_isStanding_X3 (c_X3_isStanding h) hw.1 hw.2.1 hw.2.2.1 rfl rfl rfl ⟨rfl, rfl⟩ hR hcs rfl hsz rfl hW hdg) kk
theorem yv_X2_isNested_X3 : YV RX3 210 yX2_isNested cX2_isNested 3 (some .boolean) 1 := ⟨(tw 190 (by decide +kernel) rfl), (tw 2 (by decide +kernel) rfl), (tw 187 (by decide +kernel) rfl), (tw 188 (by decide +kernel) rfl), (tw 189 (by decide +kernel) rfl), by decide +kernel⟩
theorem k_X2_isNested_h_ {p : Program} {l : Launch} {e : Env} {R : Room} {s : State} {m : MethodId} {args : Array Value} {below : List Frame} {meth : Method} {c : Code} {H : Heap} {locs : List Loc} {cells slots : Nat} {Q : State → Prop} {G : GX} {A : Nat → Prop} {ad : Nat → Nat} {u : HS} {cc : ByteArray} {nL pc : Nat} {y : MethodName} {ret : Option FieldType} {ls : Array Slot} {rest : List Value} {x1 : Int32} {z : Int32} (F : FX p m c cc nL s args y ret RX3 meth) (hw : WD G A s (hw_ G ad u) H locs) (h : f_X2_isNested x1 u.2.2.2.2.1 = some z) (hR : rmX2_isNested.frames + 1 ≤ R.frames ∧ 8 + (3 + 11) + rmX2_isNested.locals ≤ R.locals) (hcs : cells ≤ R.cells ∧ slots ≤ R.slots) (hsz : ls.size = nL) (hW : (rest.map fun v => v.category).sum ≤ 8) (hdg : decode cc pc = .ok (.invokevirtual 210, 3)) (kk : W p l e R s m args below meth c H locs cells slots Q (F0 m (pc + 3) ls (.int z :: rest))) : W p l e R s m args below meth c H locs cells slots Q (F0 m pc ls (.int x1 :: .ref (u.1 0) :: rest)) := callO (runV F yv_X2_isNested_X3 (c_X2_isNested h (ad := u.1)) hw.1 (hw.2.1.sub [3, 4, 5, 6, 7, 8, 9, 10, 11, 12, 13, 14, 15, 16] rfl) (hw.2.2.1.sub [3, 4, 5, 6, 7, 8, 9, 10, 11, 12, 13, 14, 15, 16] (by decide) rfl) rfl rfl rfl ⟨rfl, rfl⟩ hR hcs rfl hsz rfl hW hdg) kk
def rmX3_hasStand : Room := { frames := 2, cells := 0, slots := 0, locals := 43 }
noncomputable def f_X3_hasStand (x1 : Int32) (x2 : Int32) (u : HS) : Option (Int32) := (f_X3_isStanding x1 u).bind (fun z1 => (if z1 = 0 then some 0 else (if x2 = 0 then some 1 else (f_X2_isNested x1 u.2.2.2.2.1).bind (fun z5 => (if z5 = 0 then some 0 else some 1)))))
section
variable {p : Program} {l : Launch} {e : Env} {s : State} {m : MethodId} {args : Array Value} {below : List Frame} {meth : Method} {c : Code}
variable {G : GX} {A : Nat → Prop} {ad : Nat → Nat} 
set_option maxHeartbeats 4000000 in
set_option maxRecDepth 100000 in
theorem w_X3_hasStand_0 (F : FX p m c cX3_hasStand 3 s args yX3_hasStand (some .boolean) RX3 meth) {z : Int32} : ∀ (x1 : Int32) (x2 : Int32) (u : HS) (ls : Array Slot), WD G A s (hw_ G ad u) s.heap [] → lv_has ls 3 [(0, .ref (ad 0)), (1, .int x1), (2, .int x2)] → f_X3_hasStand x1 x2 u = some z → W p l e rmX3_hasStand s m args below meth c s.heap [] 0 0 (MQ below (QO (some (.int z))) args s 0 0 (fun _ => False)) (F0 m 0 ls []) := by
  obtain ⟨⟨hx, hb, hml, hown, hts⟩, hr, hlocks⟩ := id F
  intro x1 x2 u ls hw hl h
  unfold f_X3_hasStand at h
  refine lv_aload_n hx hb dX3_hasStand_0 rfl (lv_at hl 0 rfl) ?_
  refine lv_iload_n hx hb dX3_hasStand_1 rfl (lv_at hl 1 rfl) ?_
  obtain ⟨z1, e2, h⟩ := bnd h
  refine k_X3_isStanding_h_ F hw e2 ⟨Nat.le_of_ble_eq_true rfl, Nat.le_of_ble_eq_true rfl⟩ ⟨Nat.zero_le _, Nat.zero_le _⟩ hl.1 (Nat.le_of_ble_eq_true rfl) dX3_hasStand_2 ?_
  refine lv_if_eq (tgt := 27) hx hb dX3_hasStand_5 rfl (fun c3 => ?_) (fun c3 => ?_)
  · replace h := itT h c3
    refine lv_iconst (v := 0) hx hb dX3_hasStand_27 rfl ?_
    cases h
    exact retO_z F narrow_b0 dX3_hasStand_28
  · replace h := itF h c3
    refine lv_iload_n hx hb dX3_hasStand_8 rfl (lv_at hl 2 rfl) ?_
    refine lv_if_eq (tgt := 23) hx hb dX3_hasStand_9 rfl (fun c4 => ?_) (fun c4 => ?_)
    · replace h := itT h c4
      refine lv_iconst (v := 1) hx hb dX3_hasStand_23 rfl ?_
      refine lv_goto (tgt := 28) hx hb dX3_hasStand_24 rfl ?_
      cases h
      exact retO_z F narrow_b1 dX3_hasStand_28
    · replace h := itF h c4
      refine lv_aload_n hx hb dX3_hasStand_12 rfl (lv_at hl 0 rfl) ?_
      refine h_g0_2 F hw dX3_hasStand_13 ?_
      refine lv_iload_n hx hb dX3_hasStand_16 rfl (lv_at hl 1 rfl) ?_
      obtain ⟨z5, e6, h⟩ := bnd h
      refine k_X2_isNested_h_ F hw e6 ⟨Nat.le_of_ble_eq_true rfl, Nat.le_of_ble_eq_true rfl⟩ ⟨Nat.zero_le _, Nat.zero_le _⟩ hl.1 (Nat.le_of_ble_eq_true rfl) dX3_hasStand_17 ?_
      refine lv_if_eq (tgt := 27) hx hb dX3_hasStand_20 rfl (fun c7 => ?_) (fun c7 => ?_)
      · replace h := itT h c7
        refine lv_iconst (v := 0) hx hb dX3_hasStand_27 rfl ?_
        cases h
        exact retO_z F narrow_b0 dX3_hasStand_28
      · replace h := itF h c7
        refine lv_iconst (v := 1) hx hb dX3_hasStand_23 rfl ?_
        refine lv_goto (tgt := 28) hx hb dX3_hasStand_24 rfl ?_
        cases h
        exact retO_z F narrow_b1 dX3_hasStand_28
end
theorem c_X3_hasStand {l : Launch} {G : GX} {ad : Nat → Nat} {x1 : Int32} {x2 : Int32} {u : HS} {z : Int32} (h : f_X3_hasStand x1 x2 u = some z) : MO l yX3_hasStand cX3_hasStand 3 (some .boolean) rmX3_hasStand G (hw_ G ad u) [.ref (ad 0), .int x1, .int x2] (some (.int z)) := MO.of (by decide) (Nat.le_of_ble_eq_true rfl) (fun p e s m below meth c ls F hw hl => w_X3_hasStand_0 F _ _ _ _ hw hl h)
/-! ===== X3_isPlace ===== -/
theorem dX3_isPlace_0 : decode cX3_isPlace 0 = .ok (.aload_n 0, 1) := by decide +kernel
theorem dX3_isPlace_1 : decode cX3_isPlace 1 = .ok (.getfield 20, 3) := by decide +kernel
theorem dX3_isPlace_4 : decode cX3_isPlace 4 = .ok (.iload_n 1, 1) := by decide +kernel
theorem dX3_isPlace_5 : decode cX3_isPlace 5 = .ok (.invokevirtual 38, 3) := by decide +kernel
theorem dX3_isPlace_8 : decode cX3_isPlace 8 = .ok (.ifCond .ne 5, 3) := by decide +kernel
theorem dX3_isPlace_11 : decode cX3_isPlace 11 = .ok (.iconst 0, 1) := by decide +kernel
theorem dX3_isPlace_12 : decode cX3_isPlace 12 = .ok (.ireturn, 1) := by decide +kernel
theorem dX3_isPlace_13 : decode cX3_isPlace 13 = .ok (.iload_n 2, 1) := by decide +kernel
theorem dX3_isPlace_14 : decode cX3_isPlace 14 = .ok (.iconst (-1), 1) := by decide +kernel
theorem dX3_isPlace_15 : decode cX3_isPlace 15 = .ok (.if_icmp .ne 13, 3) := by decide +kernel
theorem dX3_isPlace_18 : decode cX3_isPlace 18 = .ok (.iload_n 3, 1) := by decide +kernel
theorem dX3_isPlace_19 : decode cX3_isPlace 19 = .ok (.ifCond .ne 7, 3) := by decide +kernel
theorem dX3_isPlace_22 : decode cX3_isPlace 22 = .ok (.iconst 1, 1) := by decide +kernel
theorem dX3_isPlace_23 : decode cX3_isPlace 23 = .ok (.goto 4, 3) := by decide +kernel
theorem dX3_isPlace_26 : decode cX3_isPlace 26 = .ok (.iconst 0, 1) := by decide +kernel
theorem dX3_isPlace_27 : decode cX3_isPlace 27 = .ok (.ireturn, 1) := by decide +kernel
theorem dX3_isPlace_28 : decode cX3_isPlace 28 = .ok (.aload_n 0, 1) := by decide +kernel
theorem dX3_isPlace_29 : decode cX3_isPlace 29 = .ok (.iload_n 2, 1) := by decide +kernel
theorem dX3_isPlace_30 : decode cX3_isPlace 30 = .ok (.iload_n 3, 1) := by decide +kernel
theorem dX3_isPlace_31 : decode cX3_isPlace 31 = .ok (.invokevirtual 118, 3) := by decide +kernel
theorem dX3_isPlace_34 : decode cX3_isPlace 34 = .ok (.ifCond .eq 22, 3) := by decide +kernel
theorem dX3_isPlace_37 : decode cX3_isPlace 37 = .ok (.aload_n 0, 1) := by decide +kernel
theorem dX3_isPlace_38 : decode cX3_isPlace 38 = .ok (.getfield 20, 3) := by decide +kernel
theorem dX3_isPlace_41 : decode cX3_isPlace 41 = .ok (.getfield 69, 3) := by decide +kernel
theorem dX3_isPlace_44 : decode cX3_isPlace 44 = .ok (.iload_n 2, 1) := by decide +kernel
theorem dX3_isPlace_45 : decode cX3_isPlace 45 = .ok (.invokevirtual 73, 3) := by decide +kernel
theorem dX3_isPlace_48 : decode cX3_isPlace 48 = .ok (.iload_n 1, 1) := by decide +kernel
theorem dX3_isPlace_49 : decode cX3_isPlace 49 = .ok (.if_icmp .ne 7, 3) := by decide +kernel
theorem dX3_isPlace_52 : decode cX3_isPlace 52 = .ok (.iconst 1, 1) := by decide +kernel
theorem dX3_isPlace_53 : decode cX3_isPlace 53 = .ok (.goto 4, 3) := by decide +kernel
theorem dX3_isPlace_56 : decode cX3_isPlace 56 = .ok (.iconst 0, 1) := by decide +kernel
theorem dX3_isPlace_57 : decode cX3_isPlace 57 = .ok (.ireturn, 1) := by decide +kernel
theorem yv_X3_hasStand_X3 : YV RX3 118 yX3_hasStand cX3_hasStand 3 (some .boolean) 2 := ⟨(tw 178 (by decide +kernel) rfl), (tw 1 (by decide +kernel) rfl), (tw 175 (by decide +kernel) rfl), (tw 177 (by decide +kernel) rfl), (tp 5 (by decide +kernel) rfl), by decide +kernel⟩
theorem k_X3_hasStand_h_ {p : Program} {l : Launch} {e : Env} {R : Room} {s : State} {m : MethodId} {args : Array Value} {below : List Frame} {meth : Method} {c : Code} {H : Heap} {locs : List Loc} {cells slots : Nat} {Q : State → Prop} {G : GX} {A : Nat → Prop} {ad : Nat → Nat} {u : HS} {cc : ByteArray} {nL pc : Nat} {y : MethodName} {ret : Option FieldType} {ls : Array Slot} {rest : List Value} {x1 : Int32} {x2 : Int32} {z : Int32} (F : FX p m c cc nL s args y ret RX3 meth) (hw : WD G A s (hw_ G ad u) H locs) (h : f_X3_hasStand x1 x2 u = some z) (hR : rmX3_hasStand.frames + 1 ≤ R.frames ∧ 8 + (3 + 11) + rmX3_hasStand.locals ≤ R.locals) (hcs : cells ≤ R.cells ∧ slots ≤ R.slots) (hsz : ls.size = nL) (hW : (rest.map fun v => v.category).sum ≤ 8) (hdg : decode cc pc = .ok (.invokevirtual 118, 3)) (kk : W p l e R s m args below meth c H locs cells slots Q (F0 m (pc + 3) ls (.int z :: rest))) : W p l e R s m args below meth c H locs cells slots Q (F0 m pc ls (.int x2 :: .int x1 :: .ref (ad 0) :: rest)) := callO (runV F yv_X3_hasStand_X3 (c_X3_hasStand h) hw.1 hw.2.1 hw.2.2.1 rfl rfl rfl ⟨rfl, rfl⟩ hR hcs rfl hsz rfl hW hdg) kk
def rmX3_isPlace : Room := { frames := 3, cells := 0, slots := 0, locals := 65 }
noncomputable def f_X3_isPlace (x1 : Int32) (x2 : Int32) (x3 : Int32) (u : HS) : Option (Int32) := (f_X2_isRow x1 u.2.2.2.2.1).bind (fun z1 => (if z1 = 0 then some 0 else (if x2 = ((-1) : Int32) then (if x3 = 0 then some 1 else some 0) else (f_X3_hasStand x2 x3 u).bind (fun z5 => (if z5 = 0 then some 0 else (f_X1_rowOfThing x2 u.2.2.2.2.1.1).bind (fun z8 => (if z8 = x1 then some 1 else some 0)))))))
section
variable {p : Program} {l : Launch} {e : Env} {s : State} {m : MethodId} {args : Array Value} {below : List Frame} {meth : Method} {c : Code}
variable {G : GX} {A : Nat → Prop} {ad : Nat → Nat} 
set_option maxHeartbeats 4000000 in
set_option maxRecDepth 100000 in
theorem w_X3_isPlace_0 (F : FX p m c cX3_isPlace 4 s args yX3_isPlace (some .boolean) RX3 meth) {z : Int32} : ∀ (x1 : Int32) (x2 : Int32) (x3 : Int32) (u : HS) (ls : Array Slot), WD G A s (hw_ G ad u) s.heap [] → lv_has ls 4 [(0, .ref (ad 0)), (1, .int x1), (2, .int x2), (3, .int x3)] → f_X3_isPlace x1 x2 x3 u = some z → W p l e rmX3_isPlace s m args below meth c s.heap [] 0 0 (MQ below (QO (some (.int z))) args s 0 0 (fun _ => False)) (F0 m 0 ls []) := by
  obtain ⟨⟨hx, hb, hml, hown, hts⟩, hr, hlocks⟩ := id F
  intro x1 x2 x3 u ls hw hl h
  unfold f_X3_isPlace at h
  refine lv_aload_n hx hb dX3_isPlace_0 rfl (lv_at hl 0 rfl) ?_
  refine h_g0_2 F hw dX3_isPlace_1 ?_
  refine lv_iload_n hx hb dX3_isPlace_4 rfl (lv_at hl 1 rfl) ?_
  obtain ⟨z1, e2, h⟩ := bnd h
  refine k_X2_isRow_h_ F hw e2 ⟨Nat.le_of_ble_eq_true rfl, Nat.le_of_ble_eq_true rfl⟩ ⟨Nat.zero_le _, Nat.zero_le _⟩ hl.1 (Nat.le_of_ble_eq_true rfl) dX3_isPlace_5 ?_
  refine lv_if_ne (tgt := 13) hx hb dX3_isPlace_8 rfl (fun c3 => ?_) (fun c3 => ?_)
  · replace h := itF h c3
    refine lv_iload_n hx hb dX3_isPlace_13 rfl (lv_at hl 2 rfl) ?_
    refine lv_iconst (v := (-1)) hx hb dX3_isPlace_14 rfl ?_
    refine lv_icmp_ne (tgt := 28) hx hb dX3_isPlace_15 rfl (fun c4 => ?_) (fun c4 => ?_)
    · replace h := itF h c4
      refine lv_aload_n hx hb dX3_isPlace_28 rfl (lv_at hl 0 rfl) ?_
      refine lv_iload_n hx hb dX3_isPlace_29 rfl (lv_at hl 2 rfl) ?_
      refine lv_iload_n hx hb dX3_isPlace_30 rfl (lv_at hl 3 rfl) ?_
      obtain ⟨z5, e6, h⟩ := bnd h
      refine k_X3_hasStand_h_ F hw e6 ⟨Nat.le_of_ble_eq_true rfl, Nat.le_of_ble_eq_true rfl⟩ ⟨Nat.zero_le _, Nat.zero_le _⟩ hl.1 (Nat.le_of_ble_eq_true rfl) dX3_isPlace_31 ?_
      refine lv_if_eq (tgt := 56) hx hb dX3_isPlace_34 rfl (fun c7 => ?_) (fun c7 => ?_)
      · replace h := itT h c7
        refine lv_iconst (v := 0) hx hb dX3_isPlace_56 rfl ?_
        cases h
        exact retO_z F narrow_b0 dX3_isPlace_57
      · replace h := itF h c7
        refine lv_aload_n hx hb dX3_isPlace_37 rfl (lv_at hl 0 rfl) ?_
        refine h_g0_2 F hw dX3_isPlace_38 ?_
        refine h_g3_0 F hw dX3_isPlace_41 ?_
        refine lv_iload_n hx hb dX3_isPlace_44 rfl (lv_at hl 2 rfl) ?_
        obtain ⟨z8, e9, h⟩ := bnd h
        refine k_X1_rowOfThing_h_ F hw e9 ⟨Nat.le_of_ble_eq_true rfl, Nat.le_of_ble_eq_true rfl⟩ ⟨Nat.zero_le _, Nat.zero_le _⟩ hl.1 (Nat.le_of_ble_eq_true rfl) dX3_isPlace_45 ?_
        refine lv_iload_n hx hb dX3_isPlace_48 rfl (lv_at hl 1 rfl) ?_
        refine lv_icmp_ne (tgt := 56) hx hb dX3_isPlace_49 rfl (fun c10 => ?_) (fun c10 => ?_)
        · replace h := itF h c10
          refine lv_iconst (v := 0) hx hb dX3_isPlace_56 rfl ?_
          cases h
          exact retO_z F narrow_b0 dX3_isPlace_57
        · replace h := itT h c10
          refine lv_iconst (v := 1) hx hb dX3_isPlace_52 rfl ?_
          refine lv_goto (tgt := 57) hx hb dX3_isPlace_53 rfl ?_
          cases h
          exact retO_z F narrow_b1 dX3_isPlace_57
    · replace h := itT h c4
      refine lv_iload_n hx hb dX3_isPlace_18 rfl (lv_at hl 3 rfl) ?_
      refine lv_if_ne (tgt := 26) hx hb dX3_isPlace_19 rfl (fun c11 => ?_) (fun c11 => ?_)
      · replace h := itF h c11
        refine lv_iconst (v := 0) hx hb dX3_isPlace_26 rfl ?_
        cases h
        exact retO_z F narrow_b0 dX3_isPlace_27
      · replace h := itT h c11
        refine lv_iconst (v := 1) hx hb dX3_isPlace_22 rfl ?_
        refine lv_goto (tgt := 27) hx hb dX3_isPlace_23 rfl ?_
        cases h
        exact retO_z F narrow_b1 dX3_isPlace_27
  · replace h := itT h c3
    refine lv_iconst (v := 0) hx hb dX3_isPlace_11 rfl ?_
    cases h
    exact retO_z F narrow_b0 dX3_isPlace_12
end
theorem c_X3_isPlace {l : Launch} {G : GX} {ad : Nat → Nat} {x1 : Int32} {x2 : Int32} {x3 : Int32} {u : HS} {z : Int32} (h : f_X3_isPlace x1 x2 x3 u = some z) : MO l yX3_isPlace cX3_isPlace 4 (some .boolean) rmX3_isPlace G (hw_ G ad u) [.ref (ad 0), .int x1, .int x2, .int x3] (some (.int z)) := MO.of (by decide) (Nat.le_of_ble_eq_true rfl) (fun p e s m below meth c ls F hw hl => w_X3_isPlace_0 F _ _ _ _ _ hw hl h)
/-! ===== X3_admit ===== -/
theorem dX3_admit_0 : decode cX3_admit 0 = .ok (.aload_n 0, 1) := by decide +kernel
theorem dX3_admit_1 : decode cX3_admit 1 = .ok (.getfield 31, 3) := by decide +kernel
theorem dX3_admit_4 : decode cX3_admit 4 = .ok (.sipush 300, 3) := by decide +kernel
theorem dX3_admit_7 : decode cX3_admit 7 = .ok (.if_icmp .lt 6, 3) := by decide +kernel
theorem dX3_admit_10 : decode cX3_admit 10 = .ok (.bipush (-5), 2) := by decide +kernel
theorem dX3_admit_12 : decode cX3_admit 12 = .ok (.ireturn, 1) := by decide +kernel
theorem dX3_admit_13 : decode cX3_admit 13 = .ok (.aload_n 0, 1) := by decide +kernel
theorem dX3_admit_14 : decode cX3_admit 14 = .ok (.invokevirtual 41, 3) := by decide +kernel
theorem dX3_admit_17 : decode cX3_admit 17 = .ok (.aload_n 0, 1) := by decide +kernel
theorem dX3_admit_18 : decode cX3_admit 18 = .ok (.getfield 20, 3) := by decide +kernel
theorem dX3_admit_21 : decode cX3_admit 21 = .ok (.iload_n 1, 1) := by decide +kernel
theorem dX3_admit_22 : decode cX3_admit 22 = .ok (.iload_n 2, 1) := by decide +kernel
theorem dX3_admit_23 : decode cX3_admit 23 = .ok (.invokevirtual 213, 3) := by decide +kernel
theorem dX3_admit_26 : decode cX3_admit 26 = .ok (.istore_n 3, 1) := by decide +kernel
theorem dX3_admit_27 : decode cX3_admit 27 = .ok (.aload_n 0, 1) := by decide +kernel
theorem dX3_admit_28 : decode cX3_admit 28 = .ok (.getfield 20, 3) := by decide +kernel
theorem dX3_admit_31 : decode cX3_admit 31 = .ok (.iload_n 1, 1) := by decide +kernel
theorem dX3_admit_32 : decode cX3_admit 32 = .ok (.iload_n 3, 1) := by decide +kernel
theorem dX3_admit_33 : decode cX3_admit 33 = .ok (.iconst 2, 1) := by decide +kernel
theorem dX3_admit_34 : decode cX3_admit 34 = .ok (.aload_n 0, 1) := by decide +kernel
theorem dX3_admit_35 : decode cX3_admit 35 = .ok (.getfield 31, 3) := by decide +kernel
theorem dX3_admit_38 : decode cX3_admit 38 = .ok (.imul, 1) := by decide +kernel
theorem dX3_admit_39 : decode cX3_admit 39 = .ok (.invokevirtual 216, 3) := by decide +kernel
theorem dX3_admit_42 : decode cX3_admit 42 = .ok (.istore 4, 2) := by decide +kernel
theorem dX3_admit_44 : decode cX3_admit 44 = .ok (.iload 4, 2) := by decide +kernel
theorem dX3_admit_46 : decode cX3_admit 46 = .ok (.ifCond .eq 37, 3) := by decide +kernel
theorem dX3_admit_49 : decode cX3_admit 49 = .ok (.aload_n 0, 1) := by decide +kernel
theorem dX3_admit_50 : decode cX3_admit 50 = .ok (.getfield 20, 3) := by decide +kernel
theorem dX3_admit_53 : decode cX3_admit 53 = .ok (.getfield 44, 3) := by decide +kernel
theorem dX3_admit_56 : decode cX3_admit 56 = .ok (.iload_n 1, 1) := by decide +kernel
theorem dX3_admit_57 : decode cX3_admit 57 = .ok (.iaload, 1) := by decide +kernel
theorem dX3_admit_58 : decode cX3_admit 58 = .ok (.iconst 3, 1) := by decide +kernel
theorem dX3_admit_59 : decode cX3_admit 59 = .ok (.if_icmp .ne 24, 3) := by decide +kernel
theorem dX3_admit_62 : decode cX3_admit 62 = .ok (.aload_n 0, 1) := by decide +kernel
theorem dX3_admit_63 : decode cX3_admit 63 = .ok (.getfield 20, 3) := by decide +kernel
theorem dX3_admit_66 : decode cX3_admit 66 = .ok (.iload_n 1, 1) := by decide +kernel
theorem dX3_admit_67 : decode cX3_admit 67 = .ok (.iload_n 3, 1) := by decide +kernel
theorem dX3_admit_68 : decode cX3_admit 68 = .ok (.iconst 1, 1) := by decide +kernel
theorem dX3_admit_69 : decode cX3_admit 69 = .ok (.iadd, 1) := by decide +kernel
theorem dX3_admit_70 : decode cX3_admit 70 = .ok (.iconst 2, 1) := by decide +kernel
theorem dX3_admit_71 : decode cX3_admit 71 = .ok (.aload_n 0, 1) := by decide +kernel
theorem dX3_admit_72 : decode cX3_admit 72 = .ok (.getfield 31, 3) := by decide +kernel
theorem dX3_admit_75 : decode cX3_admit 75 = .ok (.imul, 1) := by decide +kernel
theorem dX3_admit_76 : decode cX3_admit 76 = .ok (.iconst 1, 1) := by decide +kernel
theorem dX3_admit_77 : decode cX3_admit 77 = .ok (.iadd, 1) := by decide +kernel
theorem dX3_admit_78 : decode cX3_admit 78 = .ok (.invokevirtual 216, 3) := by decide +kernel
theorem dX3_admit_81 : decode cX3_admit 81 = .ok (.istore 4, 2) := by decide +kernel
theorem dX3_admit_83 : decode cX3_admit 83 = .ok (.aload_n 0, 1) := by decide +kernel
theorem dX3_admit_84 : decode cX3_admit 84 = .ok (.iload 4, 2) := by decide +kernel
theorem dX3_admit_86 : decode cX3_admit 86 = .ok (.invokevirtual 50, 3) := by decide +kernel
theorem dX3_admit_89 : decode cX3_admit 89 = .ok (.iload 4, 2) := by decide +kernel
theorem dX3_admit_91 : decode cX3_admit 91 = .ok (.ifCond .ne 6, 3) := by decide +kernel
theorem dX3_admit_94 : decode cX3_admit 94 = .ok (.bipush (-5), 2) := by decide +kernel
theorem dX3_admit_96 : decode cX3_admit 96 = .ok (.ireturn, 1) := by decide +kernel
theorem dX3_admit_97 : decode cX3_admit 97 = .ok (.aload_n 0, 1) := by decide +kernel
theorem dX3_admit_98 : decode cX3_admit 98 = .ok (.dup, 1) := by decide +kernel
theorem dX3_admit_99 : decode cX3_admit 99 = .ok (.getfield 31, 3) := by decide +kernel
theorem dX3_admit_102 : decode cX3_admit 102 = .ok (.iconst 1, 1) := by decide +kernel
theorem dX3_admit_103 : decode cX3_admit 103 = .ok (.iadd, 1) := by decide +kernel
theorem dX3_admit_104 : decode cX3_admit 104 = .ok (.putfield 31, 3) := by decide +kernel
theorem dX3_admit_107 : decode cX3_admit 107 = .ok (.aload_n 0, 1) := by decide +kernel
theorem dX3_admit_108 : decode cX3_admit 108 = .ok (.getfield 31, 3) := by decide +kernel
theorem dX3_admit_111 : decode cX3_admit 111 = .ok (.iconst 1, 1) := by decide +kernel
theorem dX3_admit_112 : decode cX3_admit 112 = .ok (.isub, 1) := by decide +kernel
theorem dX3_admit_113 : decode cX3_admit 113 = .ok (.ireturn, 1) := by decide +kernel
theorem yv_X2_placeBehind_X3 : YV RX3 213 yX2_placeBehind cX2_placeBehind 3 (some .int) 2 := ⟨(tw 202 (by decide +kernel) rfl), (tw 2 (by decide +kernel) rfl), (tw 199 (by decide +kernel) rfl), (tw 200 (by decide +kernel) rfl), (tw 201 (by decide +kernel) rfl), by decide +kernel⟩
theorem k_X2_placeBehind_h_ {p : Program} {l : Launch} {e : Env} {R : Room} {s : State} {m : MethodId} {args : Array Value} {below : List Frame} {meth : Method} {c : Code} {H : Heap} {locs : List Loc} {cells slots : Nat} {Q : State → Prop} {G : GX} {A : Nat → Prop} {ad : Nat → Nat} {u : HS} {cc : ByteArray} {nL pc : Nat} {y : MethodName} {ret : Option FieldType} {ls : Array Slot} {rest : List Value} {x1 : Int32} {x2 : Int32} {z : Int32} (F : FX p m c cc nL s args y ret RX3 meth) (hw : WD G A s (hw_ G ad u) H locs) (h : f_X2_placeBehind x1 x2 u.2.2.2.2.1 = some z) (hR : rmX2_placeBehind.frames + 1 ≤ R.frames ∧ 8 + (3 + 11) + rmX2_placeBehind.locals ≤ R.locals) (hcs : cells ≤ R.cells ∧ slots ≤ R.slots) (hsz : ls.size = nL) (hW : (rest.map fun v => v.category).sum ≤ 8) (hdg : decode cc pc = .ok (.invokevirtual 213, 3)) (kk : W p l e R s m args below meth c H locs cells slots Q (F0 m (pc + 3) ls (.int z :: rest))) : W p l e R s m args below meth c H locs cells slots Q (F0 m pc ls (.int x2 :: .int x1 :: .ref (u.1 0) :: rest)) := callO (runV F yv_X2_placeBehind_X3 (c_X2_placeBehind h (ad := u.1)) hw.1 (hw.2.1.sub [3, 4, 5, 6, 7, 8, 9, 10, 11, 12, 13, 14, 15, 16] rfl) (hw.2.2.1.sub [3, 4, 5, 6, 7, 8, 9, 10, 11, 12, 13, 14, 15, 16] (by decide) rfl) rfl rfl rfl ⟨rfl, rfl⟩ hR hcs rfl hsz rfl hW hdg) kk
theorem yv_X2_bring_X3 : YV RX3 216 yX2_bring cX2_bring 9 (some .boolean) 3 := ⟨(tw 223 (by decide +kernel) rfl), (tw 2 (by decide +kernel) rfl), (tw 220 (by decide +kernel) rfl), (tw 221 (by decide +kernel) rfl), (tw 222 (by decide +kernel) rfl), by decide +kernel⟩
theorem k_X2_bring_h_ {p : Program} {l : Launch} {e : Env} {R : Room} {s : State} {m : MethodId} {args : Array Value} {below : List Frame} {meth : Method} {c : Code} {H : Heap} {locs : List Loc} {cells slots : Nat} {Q : State → Prop} {G : GX} {A : Nat → Prop} {ad : Nat → Nat} {u : HS} {cc : ByteArray} {nL pc : Nat} {y : MethodName} {ret : Option FieldType} {ls : Array Slot} {rest : List Value} {x1 : Int32} {x2 : Int32} {x3 : Int32} {z : Int32 × SS} (F : FX p m c cc nL s args y ret RX3 meth) (hw : WD G A s (hw_ G ad u) H locs) (h : f_X2_bring x1 x2 x3 u.2.2.2.2.1 = some z) (hR : rmX2_bring.frames + 1 ≤ R.frames ∧ 8 + (9 + 11) + rmX2_bring.locals ≤ R.locals) (hcs : cells ≤ R.cells ∧ slots ≤ R.slots) (hsz : ls.size = nL) (hW : (rest.map fun v => v.category).sum ≤ 8) (hdg : decode cc pc = .ok (.invokevirtual 216, 3)) (kk : ∀ (H : Heap) (locs : List Loc), WD G A s (hw_ G ad (hN u z.2)) H locs → W p l e R s m args below meth c H locs cells slots Q (F0 m (pc + 3) ls (.int z.1 :: rest))) : W p l e R s m args below meth c H locs cells slots Q (F0 m pc ls (.int x3 :: .int x2 :: .int x1 :: .ref (u.1 0) :: rest)) := callW (runV F yv_X2_bring_X3 (c_X2_bring h (ad := u.1)) hw.1 (hw.2.1.sub [3, 4, 5, 6, 7, 8, 9, 10, 11, 12, 13, 14, 15, 16] rfl) (hw.2.2.1.sub [3, 4, 5, 6, 7, 8, 9, 10, 11, 12, 13, 14, 15, 16] (by decide) rfl) rfl rfl rfl ⟨rfl, rfl⟩ hR hcs rfl hsz rfl hW hdg) hw.2.2.2 (hw.2.2.1.sub [3, 4, 5, 6, 7, 8, 9, 10, 11, 12, 13, 14, 15, 16] (by decide) rfl).own_in (fun H1 l1 hP hk hS => kk H1 l1 ⟨hw.1, subT (joinT (wx := (hxw G ad u)) (N := 17) rfl hw.2.1 hw.2.2.1 [3, 4, 5, 6, 7, 8, 9, 10, 11, 12, 13, 14, 15, 16] [0, 1, 2] rfl (by decide) (by decide) hk hP) [0, 1, 2, 3, 4, 5, 6, 7, 8, 9, 10, 11, 12, 13, 14, 15, 16] rfl, hw.2.2.1.addr rfl, hS⟩)
theorem h_l12 {i : Int32} {p : Program} {l : Launch} {e : Env} {R : Room} {s : State} {m : MethodId} {args : Array Value} {below : List Frame} {meth : Method} {c : Code} {H : Heap} {locs : List Loc} {cells slots : Nat} {Q : State → Prop} {G : GX} {A : Nat → Prop} {ad : Nat → Nat} {u : HS} {cc : ByteArray} {nL pc : Nat} {y : MethodName} {ret : Option FieldType} {ls : Array Slot} {rest : List Value} (F : FX p m c cc nL s args y ret RX3 meth) (hw : WD G A s (hw_ G ad u) H locs) (hi : ix i 8 = true) (hdg : decode cc pc = .ok (.iaload, 1)) (kk : W p l e R s m args below meth c H locs cells slots Q (F0 m (pc + 1) ls (.int ((u.2.2.2.2.1.2.2.1 2) i.toNatClampNeg) :: rest))) : W p l e R s m args below meth c H locs cells slots Q (F0 m pc ls (.int i :: .ref (u.1 9) :: rest)) := va_iald F.1.1 F.1.2.1 hw.1.1 hw.2.1 12 0 rfl rfl (ix_in hi) hdg kk
theorem h_p0_5 {x : Int32} {p : Program} {l : Launch} {e : Env} {R : Room} {s : State} {m : MethodId} {args : Array Value} {below : List Frame} {meth : Method} {c : Code} {H : Heap} {locs : List Loc} {cells slots : Nat} {Q : State → Prop} {G : GX} {A : Nat → Prop} {ad : Nat → Nat} {u : HS} {cc : ByteArray} {nL pc : Nat} {y : MethodName} {ret : Option FieldType} {ls : Array Slot} {rest : List Value} (F : FX p m c cc nL s args y ret RX3 meth) (hw : WD G A s (hw_ G ad u) H locs) (hdg : decode cc pc = .ok (.putfield 31, 3)) (kk : ∀ (H : Heap) (locs : List Loc), WD G A s (hw_ G ad (hI u 5 x)) H locs → W p l e R s m args below meth c H locs cells slots Q (F0 m (pc + 3) ls (rest))) : W p l e R s m args below meth c H locs cells slots Q (F0 m pc ls (.int x :: .ref (ad 0) :: rest)) := va_put (D := G.1) (ci := 3) (ty := .int) (C := RX3) (T := TX3) (N := 6) (Ts := lw_gt) F.1.1 F.1.2.1 (fun _ h => F.tb h) inX3 tyX3 tyX3_ok nmX3 F.1.2.2.2.1 hw.1.1 hw.2.1 hw.2.2.1 hw.2.2.2 0 rfl rfl 5 (by decide) (F.tb (tw 106 (by decide +kernel) rfl)) (fun _ h9 => h9) rfl (by decide +kernel) rfl rfl (Nat.le_of_ble_eq_true rfl) hdg (fun H1 l1 hP hD hS => kk H1 l1 ⟨hw.1, hP, hD, hS⟩)
def rmX3_admit : Room := { frames := 6, cells := 0, slots := 0, locals := 172 }
noncomputable def f_X3_admit_83 (x4 : Int32) (u : HS) : Option (Int32 × HS) := (f_X3_endChange x4 u).bind (fun z13 => (if x4 = 0 then some ((-5), z13) else some ((((hI z13 5 ((z13.2.2.1 5) + 1)).2.2.1 5) - 1), (hI z13 5 ((z13.2.2.1 5) + 1)))))
noncomputable def f_X3_admit (x1 : Int32) (x2 : Int32) (u : HS) : Option (Int32 × HS) := (if (u.2.2.1 5) < (300 : Int32) then (f_X3_beginChange u).bind (fun z2 => (f_X2_placeBehind x1 x2 z2.2.2.2.2.1).bind (fun z4 => (f_X2_bring x1 z4 (2 * (z2.2.2.1 5)) z2.2.2.2.2.1).bind (fun z6 => (if z6.1 = 0 then f_X3_admit_83 z6.1 (hN z2 z6.2) else (if ix x1 8 = true then (if (((hN z2 z6.2).2.2.2.2.1.2.2.1 2) (Int32.toNatClampNeg x1)) = (3 : Int32) then (f_X2_bring x1 (z4 + 1) ((2 * ((hN z2 z6.2).2.2.1 5)) + 1) (hN z2 z6.2).2.2.2.2.1).bind (fun z11 => f_X3_admit_83 z11.1 (hN (hN z2 z6.2) z11.2)) else f_X3_admit_83 z6.1 (hN z2 z6.2)) else none))))) else some ((-5), u))
section
variable {p : Program} {l : Launch} {e : Env} {s : State} {m : MethodId} {args : Array Value} {below : List Frame} {meth : Method} {c : Code}
variable {G : GX} {A : Nat → Prop} {ad : Nat → Nat} 
set_option maxHeartbeats 4000000 in
set_option maxRecDepth 100000 in
theorem w_X3_admit_83 (F : FX p m c cX3_admit 5 s args yX3_admit (some .int) RX3 meth) {z : Int32 × HS} : ∀ (x4 : Int32) (u : HS) (H : Heap) (locs : List Loc) (ls : Array Slot), WD G A s (hw_ G ad u) H locs → lv_has ls 5 [(0, .ref (ad 0)), (4, .int x4)] → f_X3_admit_83 x4 u = some z → W p l e rmX3_admit s m args below meth c H locs 0 0 (MQ below (QH G (hw_ G ad z.2) A (some (.int z.1))) args s 0 0 A) (F0 m 83 ls []) := by
  obtain ⟨⟨hx, hb, hml, hown, hts⟩, hr, hlocks⟩ := id F
  intro x4 u H locs ls hw hl h
  unfold f_X3_admit_83 at h
  refine lv_aload_n hx hb dX3_admit_83 rfl (lv_at hl 0 rfl) ?_
  refine lv_iload hx hb dX3_admit_84 (lv_at hl 1 rfl) ?_
  obtain ⟨z13, e14, h⟩ := bnd h
  refine k_X3_endChange_h_ F hw e14 ⟨Nat.le_of_ble_eq_true rfl, Nat.le_of_ble_eq_true rfl⟩ ⟨Nat.zero_le _, Nat.zero_le _⟩ hl.1 (Nat.le_of_ble_eq_true rfl) dX3_admit_86 (fun H locs hw => ?_)
  refine lv_iload hx hb dX3_admit_89 (lv_at hl 1 rfl) ?_
  refine lv_if_ne (tgt := 97) hx hb dX3_admit_91 rfl (fun c15 => ?_) (fun c15 => ?_)
  · replace h := itF h c15
    refine lv_aload_n hx hb dX3_admit_97 rfl (lv_at hl 0 rfl) ?_
    refine lv_dup hx hb dX3_admit_98 rfl ?_
    refine h_g0_5 F hw dX3_admit_99 ?_
    refine lv_iconst (v := 1) hx hb dX3_admit_102 rfl ?_
    refine lv_iadd hx hb dX3_admit_103 ?_
    refine h_p0_5 F hw dX3_admit_104 (fun H locs hw => ?_)
    refine lv_aload_n hx hb dX3_admit_107 rfl (lv_at hl 0 rfl) ?_
    refine h_g0_5 F hw dX3_admit_108 ?_
    refine lv_iconst (v := 1) hx hb dX3_admit_111 rfl ?_
    refine lv_isub hx hb dX3_admit_112 ?_
    cases h
    exact retH_i F hw dX3_admit_113
  · replace h := itT h c15
    refine lv_bipush (v := (-5)) hx hb dX3_admit_94 rfl ?_
    cases h
    exact retH_i F hw dX3_admit_96
set_option maxHeartbeats 4000000 in
set_option maxRecDepth 100000 in
theorem w_X3_admit_0 (F : FX p m c cX3_admit 5 s args yX3_admit (some .int) RX3 meth) {z : Int32 × HS} : ∀ (x1 : Int32) (x2 : Int32) (u : HS) (H : Heap) (locs : List Loc) (ls : Array Slot), WD G A s (hw_ G ad u) H locs → lv_has ls 5 [(0, .ref (ad 0)), (1, .int x1), (2, .int x2)] → f_X3_admit x1 x2 u = some z → W p l e rmX3_admit s m args below meth c H locs 0 0 (MQ below (QH G (hw_ G ad z.2) A (some (.int z.1))) args s 0 0 A) (F0 m 0 ls []) := by
  obtain ⟨⟨hx, hb, hml, hown, hts⟩, hr, hlocks⟩ := id F
  intro x1 x2 u H locs ls hw hl h
  unfold f_X3_admit at h
  refine lv_aload_n hx hb dX3_admit_0 rfl (lv_at hl 0 rfl) ?_
  refine h_g0_5 F hw dX3_admit_1 ?_
  refine lv_sipush (v := 300) hx hb dX3_admit_4 rfl ?_
  refine lv_icmp_lt (tgt := 13) hx hb dX3_admit_7 rfl (fun c1 => ?_) (fun c1 => ?_)
  · replace h := itT h c1
    refine lv_aload_n hx hb dX3_admit_13 rfl (lv_at hl 0 rfl) ?_
    obtain ⟨z2, e3, h⟩ := bnd h
    refine k_X3_beginChange_h_ F hw e3 ⟨Nat.le_of_ble_eq_true rfl, Nat.le_of_ble_eq_true rfl⟩ ⟨Nat.zero_le _, Nat.zero_le _⟩ hl.1 (Nat.le_of_ble_eq_true rfl) dX3_admit_14 (fun H locs hw => ?_)
    refine lv_aload_n hx hb dX3_admit_17 rfl (lv_at hl 0 rfl) ?_
    refine h_g0_2 F hw dX3_admit_18 ?_
    refine lv_iload_n hx hb dX3_admit_21 rfl (lv_at hl 1 rfl) ?_
    refine lv_iload_n hx hb dX3_admit_22 rfl (lv_at hl 2 rfl) ?_
    obtain ⟨z4, e5, h⟩ := bnd h
    refine k_X2_placeBehind_h_ F hw e5 ⟨Nat.le_of_ble_eq_true rfl, Nat.le_of_ble_eq_true rfl⟩ ⟨Nat.zero_le _, Nat.zero_le _⟩ hl.1 (Nat.le_of_ble_eq_true rfl) dX3_admit_23 ?_
    refine lv_istore_n (lv' := [(3, .int z4), (0, .ref (ad 0)), (1, .int x1), (2, .int x2)]) hx hb dX3_admit_26 rfl hl (by decide) rfl (fun ls hl => ?_)
    refine lv_aload_n hx hb dX3_admit_27 rfl (lv_at hl 1 rfl) ?_
    refine h_g0_2 F hw dX3_admit_28 ?_
    refine lv_iload_n hx hb dX3_admit_31 rfl (lv_at hl 2 rfl) ?_
    refine lv_iload_n hx hb dX3_admit_32 rfl (lv_at hl 0 rfl) ?_
    refine lv_iconst (v := 2) hx hb dX3_admit_33 rfl ?_
    refine lv_aload_n hx hb dX3_admit_34 rfl (lv_at hl 1 rfl) ?_
    refine h_g0_5 F hw dX3_admit_35 ?_
    refine lv_imul hx hb dX3_admit_38 ?_
    obtain ⟨z6, e7, h⟩ := bnd h
    refine k_X2_bring_h_ F hw e7 ⟨Nat.le_of_ble_eq_true rfl, Nat.le_of_ble_eq_true rfl⟩ ⟨Nat.zero_le _, Nat.zero_le _⟩ hl.1 (Nat.le_of_ble_eq_true rfl) dX3_admit_39 (fun H locs hw => ?_)
    refine lv_istore (lv' := [(4, .int z6.1), (3, .int z4), (0, .ref (ad 0)), (1, .int x1), (2, .int x2)]) hx hb dX3_admit_42 hl (by decide) rfl (fun ls hl => ?_)
    refine lv_iload hx hb dX3_admit_44 (lv_at hl 0 rfl) ?_
    refine lv_if_eq (tgt := 83) hx hb dX3_admit_46 rfl (fun c8 => ?_) (fun c8 => ?_)
    · replace h := itT h c8
      exact w_X3_admit_83 F _ _ _ _ _ hw (lv_sub hl [2, 0] rfl) h
    · replace h := itF h c8
      refine lv_aload_n hx hb dX3_admit_49 rfl (lv_at hl 2 rfl) ?_
      refine h_g0_2 F hw dX3_admit_50 ?_
      refine h_g3_2 F hw dX3_admit_53 ?_
      refine lv_iload_n hx hb dX3_admit_56 rfl (lv_at hl 3 rfl) ?_
      obtain ⟨g9, h⟩ := gd h
      refine h_l12 F hw g9 dX3_admit_57 ?_
      refine lv_iconst (v := 3) hx hb dX3_admit_58 rfl ?_
      refine lv_icmp_ne (tgt := 83) hx hb dX3_admit_59 rfl (fun c10 => ?_) (fun c10 => ?_)
      · replace h := itF h c10
        exact w_X3_admit_83 F _ _ _ _ _ hw (lv_sub hl [2, 0] rfl) h
      · replace h := itT h c10
        refine lv_aload_n hx hb dX3_admit_62 rfl (lv_at hl 2 rfl) ?_
        refine h_g0_2 F hw dX3_admit_63 ?_
        refine lv_iload_n hx hb dX3_admit_66 rfl (lv_at hl 3 rfl) ?_
        refine lv_iload_n hx hb dX3_admit_67 rfl (lv_at hl 1 rfl) ?_
        refine lv_iconst (v := 1) hx hb dX3_admit_68 rfl ?_
        refine lv_iadd hx hb dX3_admit_69 ?_
        refine lv_iconst (v := 2) hx hb dX3_admit_70 rfl ?_
        refine lv_aload_n hx hb dX3_admit_71 rfl (lv_at hl 2 rfl) ?_
        refine h_g0_5 F hw dX3_admit_72 ?_
        refine lv_imul hx hb dX3_admit_75 ?_
        refine lv_iconst (v := 1) hx hb dX3_admit_76 rfl ?_
        refine lv_iadd hx hb dX3_admit_77 ?_
        obtain ⟨z11, e12, h⟩ := bnd h
        refine k_X2_bring_h_ F hw e12 ⟨Nat.le_of_ble_eq_true rfl, Nat.le_of_ble_eq_true rfl⟩ ⟨Nat.zero_le _, Nat.zero_le _⟩ hl.1 (Nat.le_of_ble_eq_true rfl) dX3_admit_78 (fun H locs hw => ?_)
        refine lv_istore (lv' := [(4, .int z11.1), (3, .int z4), (0, .ref (ad 0)), (1, .int x1), (2, .int x2)]) hx hb dX3_admit_81 hl (by decide) rfl (fun ls hl => ?_)
        exact w_X3_admit_83 F _ _ _ _ _ hw (lv_sub hl [2, 0] rfl) h
  · replace h := itF h c1
    refine lv_bipush (v := (-5)) hx hb dX3_admit_10 rfl ?_
    cases h
    exact retH_i F hw dX3_admit_12
end
theorem c_X3_admit {l : Launch} {G : GX} {ad : Nat → Nat} {x1 : Int32} {x2 : Int32} {u : HS} {z : Int32 × HS} (h : f_X3_admit x1 x2 u = some z) : MH l yX3_admit cX3_admit 5 (some .int) rmX3_admit G (hw_ G ad u) (hw_ G ad z.2) [.ref (ad 0), .int x1, .int x2] (some (.int z.1)) := MH.of (by decide) (Nat.le_of_ble_eq_true rfl) (fun p e s m below meth c ls F hw hl => w_X3_admit_0 F _ _ _ _ _ _ hw hl h)
/-! ===== X3_put ===== -/
theorem dX3_put_0 : decode cX3_put 0 = .ok (.aload_n 0, 1) := by decide +kernel
theorem dX3_put_1 : decode cX3_put 1 = .ok (.iload_n 1, 1) := by decide +kernel
theorem dX3_put_2 : decode cX3_put 2 = .ok (.iload_n 2, 1) := by decide +kernel
theorem dX3_put_3 : decode cX3_put 3 = .ok (.iload_n 3, 1) := by decide +kernel
theorem dX3_put_4 : decode cX3_put 4 = .ok (.invokevirtual 54, 3) := by decide +kernel
theorem dX3_put_7 : decode cX3_put 7 = .ok (.ifCond .ne 6, 3) := by decide +kernel
theorem dX3_put_10 : decode cX3_put 10 = .ok (.bipush (-3), 2) := by decide +kernel
theorem dX3_put_12 : decode cX3_put 12 = .ok (.ireturn, 1) := by decide +kernel
theorem dX3_put_13 : decode cX3_put 13 = .ok (.aload_n 0, 1) := by decide +kernel
theorem dX3_put_14 : decode cX3_put 14 = .ok (.iload_n 1, 1) := by decide +kernel
theorem dX3_put_15 : decode cX3_put 15 = .ok (.iload_n 2, 1) := by decide +kernel
theorem dX3_put_16 : decode cX3_put 16 = .ok (.iload_n 3, 1) := by decide +kernel
theorem dX3_put_17 : decode cX3_put 17 = .ok (.invokestatic 58, 3) := by decide +kernel
theorem dX3_put_20 : decode cX3_put 20 = .ok (.invokevirtual 62, 3) := by decide +kernel
theorem dX3_put_23 : decode cX3_put 23 = .ok (.ireturn, 1) := by decide +kernel
theorem yv_X3_isPlace_X3 : YV RX3 54 yX3_isPlace cX3_isPlace 4 (some .boolean) 3 := ⟨(tw 174 (by decide +kernel) rfl), (tw 1 (by decide +kernel) rfl), (tw 171 (by decide +kernel) rfl), (tw 173 (by decide +kernel) rfl), (tp 4 (by decide +kernel) rfl), by decide +kernel⟩
theorem k_X3_isPlace_h_ {p : Program} {l : Launch} {e : Env} {R : Room} {s : State} {m : MethodId} {args : Array Value} {below : List Frame} {meth : Method} {c : Code} {H : Heap} {locs : List Loc} {cells slots : Nat} {Q : State → Prop} {G : GX} {A : Nat → Prop} {ad : Nat → Nat} {u : HS} {cc : ByteArray} {nL pc : Nat} {y : MethodName} {ret : Option FieldType} {ls : Array Slot} {rest : List Value} {x1 : Int32} {x2 : Int32} {x3 : Int32} {z : Int32} (F : FX p m c cc nL s args y ret RX3 meth) (hw : WD G A s (hw_ G ad u) H locs) (h : f_X3_isPlace x1 x2 x3 u = some z) (hR : rmX3_isPlace.frames + 1 ≤ R.frames ∧ 8 + (4 + 11) + rmX3_isPlace.locals ≤ R.locals) (hcs : cells ≤ R.cells ∧ slots ≤ R.slots) (hsz : ls.size = nL) (hW : (rest.map fun v => v.category).sum ≤ 8) (hdg : decode cc pc = .ok (.invokevirtual 54, 3)) (kk : W p l e R s m args below meth c H locs cells slots Q (F0 m (pc + 3) ls (.int z :: rest))) : W p l e R s m args below meth c H locs cells slots Q (F0 m pc ls (.int x3 :: .int x2 :: .int x1 :: .ref (ad 0) :: rest)) := callO (runV F yv_X3_isPlace_X3 (c_X3_isPlace h) hw.1 hw.2.1 hw.2.2.1 rfl rfl rfl ⟨rfl, rfl⟩ hR hcs rfl hsz rfl hW hdg) kk
theorem yv_X3_standOf_X3 : YS RX3 58 yX3_standOf cX3_standOf 2 (some .int) 2 := ⟨(tw 194 (by decide +kernel) rfl), (tw 1 (by decide +kernel) rfl), (tw 192 (by decide +kernel) rfl), (tw 193 (by decide +kernel) rfl), by decide +kernel⟩
theorem k_X3_standOf_h_ {p : Program} {l : Launch} {e : Env} {R : Room} {s : State} {m : MethodId} {args : Array Value} {below : List Frame} {meth : Method} {c : Code} {H : Heap} {locs : List Loc} {cells slots : Nat} {Q : State → Prop} {G : GX} {A : Nat → Prop} {ad : Nat → Nat} {u : HS} {cc : ByteArray} {nL pc : Nat} {y : MethodName} {ret : Option FieldType} {ls : Array Slot} {rest : List Value} {x0 : Int32} {x1 : Int32} {z : Int32} (F : FX p m c cc nL s args y ret RX3 meth) (hw : WD G A s (hw_ G ad u) H locs) (h : f_X3_standOf x0 x1 = some z) (hR : rmX3_standOf.frames + 1 ≤ R.frames ∧ 8 + (2 + 11) + rmX3_standOf.locals ≤ R.locals) (hcs : cells ≤ R.cells ∧ slots ≤ R.slots) (hsz : ls.size = nL) (hW : (rest.map fun v => v.category).sum ≤ 8) (hdg : decode cc pc = .ok (.invokestatic 58, 3)) (kk : W p l e R s m args below meth c H locs cells slots Q (F0 m (pc + 3) ls (.int z :: rest))) : W p l e R s m args below meth c H locs cells slots Q (F0 m pc ls (.int x1 :: .int x0 :: rest)) := callO (runS F yv_X3_standOf_X3 (c_X3_standOf h (G := G)) hw.1 nil_P (A := A) nil_D ⟨rfl, rfl⟩ hR hcs rfl hsz rfl hW hdg) kk
theorem yv_X3_admit_X3 : YV RX3 62 yX3_admit cX3_admit 5 (some .int) 2 := ⟨(tw 198 (by decide +kernel) rfl), (tw 1 (by decide +kernel) rfl), (tw 195 (by decide +kernel) rfl), (tw 197 (by decide +kernel) rfl), (tp 7 (by decide +kernel) rfl), by decide +kernel⟩
theorem k_X3_admit_h_ {p : Program} {l : Launch} {e : Env} {R : Room} {s : State} {m : MethodId} {args : Array Value} {below : List Frame} {meth : Method} {c : Code} {H : Heap} {locs : List Loc} {cells slots : Nat} {Q : State → Prop} {G : GX} {A : Nat → Prop} {ad : Nat → Nat} {u : HS} {cc : ByteArray} {nL pc : Nat} {y : MethodName} {ret : Option FieldType} {ls : Array Slot} {rest : List Value} {x1 : Int32} {x2 : Int32} {z : Int32 × HS} (F : FX p m c cc nL s args y ret RX3 meth) (hw : WD G A s (hw_ G ad u) H locs) (h : f_X3_admit x1 x2 u = some z) (hR : rmX3_admit.frames + 1 ≤ R.frames ∧ 8 + (5 + 11) + rmX3_admit.locals ≤ R.locals) (hcs : cells ≤ R.cells ∧ slots ≤ R.slots) (hsz : ls.size = nL) (hW : (rest.map fun v => v.category).sum ≤ 8) (hdg : decode cc pc = .ok (.invokevirtual 62, 3)) (kk : ∀ (H : Heap) (locs : List Loc), WD G A s (hw_ G ad z.2) H locs → W p l e R s m args below meth c H locs cells slots Q (F0 m (pc + 3) ls (.int z.1 :: rest))) : W p l e R s m args below meth c H locs cells slots Q (F0 m pc ls (.int x2 :: .int x1 :: .ref (ad 0) :: rest)) := callH (runV F yv_X3_admit_X3 (c_X3_admit h) hw.1 hw.2.1 hw.2.2.1 rfl rfl rfl ⟨rfl, rfl⟩ hR hcs rfl hsz rfl hW hdg) hw.2.2.2 hw.2.2.1.own_in (fun H1 l1 hP hD _ hS => kk H1 l1 ⟨hw.1, hP, hD, hS⟩)
def rmX3_put : Room := { frames := 7, cells := 0, slots := 0, locals := 196 }
noncomputable def f_X3_put (x1 : Int32) (x2 : Int32) (x3 : Int32) (u : HS) : Option (Int32 × HS) := (f_X3_isPlace x1 x2 x3 u).bind (fun z1 => (if z1 = 0 then some ((-3), u) else (f_X3_standOf x2 x3).bind (fun z4 => (f_X3_admit x1 z4 u).bind (fun z6 => some (z6.1, z6.2)))))
section
variable {p : Program} {l : Launch} {e : Env} {s : State} {m : MethodId} {args : Array Value} {below : List Frame} {meth : Method} {c : Code}
variable {G : GX} {A : Nat → Prop} {ad : Nat → Nat} 
set_option maxHeartbeats 4000000 in
set_option maxRecDepth 100000 in
theorem w_X3_put_0 (F : FX p m c cX3_put 4 s args yX3_put (some .int) RX3 meth) {z : Int32 × HS} : ∀ (x1 : Int32) (x2 : Int32) (x3 : Int32) (u : HS) (H : Heap) (locs : List Loc) (ls : Array Slot), WD G A s (hw_ G ad u) H locs → lv_has ls 4 [(0, .ref (ad 0)), (1, .int x1), (2, .int x2), (3, .int x3)] → f_X3_put x1 x2 x3 u = some z → W p l e rmX3_put s m args below meth c H locs 0 0 (MQ below (QH G (hw_ G ad z.2) A (some (.int z.1))) args s 0 0 A) (F0 m 0 ls []) := by
  obtain ⟨⟨hx, hb, hml, hown, hts⟩, hr, hlocks⟩ := id F
  intro x1 x2 x3 u H locs ls hw hl h
  unfold f_X3_put at h
  refine lv_aload_n hx hb dX3_put_0 rfl (lv_at hl 0 rfl) ?_
  refine lv_iload_n hx hb dX3_put_1 rfl (lv_at hl 1 rfl) ?_
  refine lv_iload_n hx hb dX3_put_2 rfl (lv_at hl 2 rfl) ?_
  refine lv_iload_n hx hb dX3_put_3 rfl (lv_at hl 3 rfl) ?_
  obtain ⟨z1, e2, h⟩ := bnd h
  refine k_X3_isPlace_h_ F hw e2 ⟨Nat.le_of_ble_eq_true rfl, Nat.le_of_ble_eq_true rfl⟩ ⟨Nat.zero_le _, Nat.zero_le _⟩ hl.1 (Nat.le_of_ble_eq_true rfl) dX3_put_4 ?_
  refine lv_if_ne (tgt := 13) hx hb dX3_put_7 rfl (fun c3 => ?_) (fun c3 => ?_)
  · replace h := itF h c3
    refine lv_aload_n hx hb dX3_put_13 rfl (lv_at hl 0 rfl) ?_
    refine lv_iload_n hx hb dX3_put_14 rfl (lv_at hl 1 rfl) ?_
    refine lv_iload_n hx hb dX3_put_15 rfl (lv_at hl 2 rfl) ?_
    refine lv_iload_n hx hb dX3_put_16 rfl (lv_at hl 3 rfl) ?_
    obtain ⟨z4, e5, h⟩ := bnd h
    refine k_X3_standOf_h_ F hw e5 ⟨Nat.le_of_ble_eq_true rfl, Nat.le_of_ble_eq_true rfl⟩ ⟨Nat.zero_le _, Nat.zero_le _⟩ hl.1 (Nat.le_of_ble_eq_true rfl) dX3_put_17 ?_
    obtain ⟨z6, e7, h⟩ := bnd h
    refine k_X3_admit_h_ F hw e7 ⟨Nat.le_of_ble_eq_true rfl, Nat.le_of_ble_eq_true rfl⟩ ⟨Nat.zero_le _, Nat.zero_le _⟩ hl.1 (Nat.le_of_ble_eq_true rfl) dX3_put_20 (fun H locs hw => ?_)
    cases h
    exact retH_i F hw dX3_put_23
  · replace h := itT h c3
    refine lv_bipush (v := (-3)) hx hb dX3_put_10 rfl ?_
    cases h
    exact retH_i F hw dX3_put_12
end
theorem c_X3_put {l : Launch} {G : GX} {ad : Nat → Nat} {x1 : Int32} {x2 : Int32} {x3 : Int32} {u : HS} {z : Int32 × HS} (h : f_X3_put x1 x2 x3 u = some z) : MH l yX3_put cX3_put 4 (some .int) rmX3_put G (hw_ G ad u) (hw_ G ad z.2) [.ref (ad 0), .int x1, .int x2, .int x3] (some (.int z.1)) := MH.of (by decide) (Nat.le_of_ble_eq_true rfl) (fun p e s m below meth c ls F hw hl => w_X3_put_0 F _ _ _ _ _ _ _ hw hl h)
/-! ===== X3_thingsInPassage ===== -/
theorem dX3_thingsInPassage_0 : decode cX3_thingsInPassage 0 = .ok (.iconst 0, 1) := by decide +kernel
theorem dX3_thingsInPassage_1 : decode cX3_thingsInPassage 1 = .ok (.istore_n 2, 1) := by decide +kernel
theorem dX3_thingsInPassage_2 : decode cX3_thingsInPassage 2 = .ok (.iconst 0, 1) := by decide +kernel
theorem dX3_thingsInPassage_3 : decode cX3_thingsInPassage 3 = .ok (.istore_n 3, 1) := by decide +kernel
theorem dX3_thingsInPassage_4 : decode cX3_thingsInPassage 4 = .ok (.iload_n 3, 1) := by decide +kernel
theorem dX3_thingsInPassage_5 : decode cX3_thingsInPassage 5 = .ok (.iload_n 1, 1) := by decide +kernel
theorem dX3_thingsInPassage_6 : decode cX3_thingsInPassage 6 = .ok (.if_icmp .ge 33, 3) := by decide +kernel
theorem dX3_thingsInPassage_9 : decode cX3_thingsInPassage 9 = .ok (.iload_n 3, 1) := by decide +kernel
theorem dX3_thingsInPassage_10 : decode cX3_thingsInPassage 10 = .ok (.aload_n 0, 1) := by decide +kernel
theorem dX3_thingsInPassage_11 : decode cX3_thingsInPassage 11 = .ok (.getfield 15, 3) := by decide +kernel
theorem dX3_thingsInPassage_14 : decode cX3_thingsInPassage 14 = .ok (.arraylength, 1) := by decide +kernel
theorem dX3_thingsInPassage_15 : decode cX3_thingsInPassage 15 = .ok (.if_icmp .ge 24, 3) := by decide +kernel
theorem dX3_thingsInPassage_18 : decode cX3_thingsInPassage 18 = .ok (.aload_n 0, 1) := by decide +kernel
theorem dX3_thingsInPassage_19 : decode cX3_thingsInPassage 19 = .ok (.getfield 15, 3) := by decide +kernel
theorem dX3_thingsInPassage_22 : decode cX3_thingsInPassage 22 = .ok (.iload_n 3, 1) := by decide +kernel
theorem dX3_thingsInPassage_23 : decode cX3_thingsInPassage 23 = .ok (.iaload, 1) := by decide +kernel
theorem dX3_thingsInPassage_24 : decode cX3_thingsInPassage 24 = .ok (.invokestatic 170, 3) := by decide +kernel
theorem dX3_thingsInPassage_27 : decode cX3_thingsInPassage 27 = .ok (.ifCond .ne 6, 3) := by decide +kernel
theorem dX3_thingsInPassage_30 : decode cX3_thingsInPassage 30 = .ok (.iinc 2 1, 3) := by decide +kernel
theorem dX3_thingsInPassage_33 : decode cX3_thingsInPassage 33 = .ok (.iinc 3 1, 3) := by decide +kernel
theorem dX3_thingsInPassage_36 : decode cX3_thingsInPassage 36 = .ok (.goto (-32), 3) := by decide +kernel
theorem dX3_thingsInPassage_39 : decode cX3_thingsInPassage 39 = .ok (.iload_n 2, 1) := by decide +kernel
theorem dX3_thingsInPassage_40 : decode cX3_thingsInPassage 40 = .ok (.ireturn, 1) := by decide +kernel
theorem h_g0_1 {p : Program} {l : Launch} {e : Env} {R : Room} {s : State} {m : MethodId} {args : Array Value} {below : List Frame} {meth : Method} {c : Code} {H : Heap} {locs : List Loc} {cells slots : Nat} {Q : State → Prop} {G : GX} {A : Nat → Prop} {ad : Nat → Nat} {u : HS} {cc : ByteArray} {nL pc : Nat} {y : MethodName} {ret : Option FieldType} {ls : Array Slot} {rest : List Value} (F : FX p m c cc nL s args y ret RX3 meth) (hw : WD G A s (hw_ G ad u) H locs) (hdg : decode cc pc = .ok (.getfield 15, 3)) (kk : W p l e R s m args below meth c H locs cells slots Q (F0 m (pc + 3) ls (.ref (ad 2) :: rest))) : W p l e R s m args below meth c H locs cells slots Q (F0 m pc ls (.ref (ad 0) :: rest)) := va_get (D := G.1) (ci := 3) (C := RX3) (T := TX3) (N := 6) (Ts := lw_gt) F.1.1 F.1.2.1 (fun _ h => F.tb h) inX3 F.1.2.2.2.1 hw.1.1 hw.2.1 0 rfl rfl 1 (by decide) (F.tb (tw 102 (by decide +kernel) rfl)) (fun _ h9 => h9) rfl hdg kk
theorem h_n2 {p : Program} {l : Launch} {e : Env} {R : Room} {s : State} {m : MethodId} {args : Array Value} {below : List Frame} {meth : Method} {c : Code} {H : Heap} {locs : List Loc} {cells slots : Nat} {Q : State → Prop} {G : GX} {A : Nat → Prop} {ad : Nat → Nat} {u : HS} {cc : ByteArray} {nL pc : Nat} {y : MethodName} {ret : Option FieldType} {ls : Array Slot} {rest : List Value} (F : FX p m c cc nL s args y ret RX3 meth) (hw : WD G A s (hw_ G ad u) H locs) (hdg : decode cc pc = .ok (.arraylength, 1)) (kk : W p l e R s m args below meth c H locs cells slots Q (F0 m (pc + 1) ls (.int 600 :: rest))) : W p l e R s m args below meth c H locs cells slots Q (F0 m pc ls (.ref (ad 2) :: rest)) := va_alen F.1.1 F.1.2.1 hw.1.1 hw.2.1 2 0 rfl rfl rfl hdg kk
theorem h_l2 {i : Int32} {p : Program} {l : Launch} {e : Env} {R : Room} {s : State} {m : MethodId} {args : Array Value} {below : List Frame} {meth : Method} {c : Code} {H : Heap} {locs : List Loc} {cells slots : Nat} {Q : State → Prop} {G : GX} {A : Nat → Prop} {ad : Nat → Nat} {u : HS} {cc : ByteArray} {nL pc : Nat} {y : MethodName} {ret : Option FieldType} {ls : Array Slot} {rest : List Value} (F : FX p m c cc nL s args y ret RX3 meth) (hw : WD G A s (hw_ G ad u) H locs) (hi : ix i 600 = true) (hdg : decode cc pc = .ok (.iaload, 1)) (kk : W p l e R s m args below meth c H locs cells slots Q (F0 m (pc + 1) ls (.int (u.2.2.2.1 i.toNatClampNeg) :: rest))) : W p l e R s m args below meth c H locs cells slots Q (F0 m pc ls (.int i :: .ref (ad 2) :: rest)) := va_iald F.1.1 F.1.2.1 hw.1.1 hw.2.1 2 0 rfl rfl (ix_in hi) hdg kk
theorem yv_X3_isEnd_X3 : YS RX3 170 yX3_isEnd cX3_isEnd 1 (some .boolean) 1 := ⟨(tw 324 (by decide +kernel) rfl), (tw 1 (by decide +kernel) rfl), (tw 322 (by decide +kernel) rfl), (tw 323 (by decide +kernel) rfl), by decide +kernel⟩
theorem k_X3_isEnd_h_ {p : Program} {l : Launch} {e : Env} {R : Room} {s : State} {m : MethodId} {args : Array Value} {below : List Frame} {meth : Method} {c : Code} {H : Heap} {locs : List Loc} {cells slots : Nat} {Q : State → Prop} {G : GX} {A : Nat → Prop} {ad : Nat → Nat} {u : HS} {cc : ByteArray} {nL pc : Nat} {y : MethodName} {ret : Option FieldType} {ls : Array Slot} {rest : List Value} {x0 : Int32} {z : Int32} (F : FX p m c cc nL s args y ret RX3 meth) (hw : WD G A s (hw_ G ad u) H locs) (h : f_X3_isEnd x0 = some z) (hR : rmX3_isEnd.frames + 1 ≤ R.frames ∧ 8 + (1 + 11) + rmX3_isEnd.locals ≤ R.locals) (hcs : cells ≤ R.cells ∧ slots ≤ R.slots) (hsz : ls.size = nL) (hW : (rest.map fun v => v.category).sum ≤ 8) (hdg : decode cc pc = .ok (.invokestatic 170, 3)) (kk : W p l e R s m args below meth c H locs cells slots Q (F0 m (pc + 3) ls (.int z :: rest))) : W p l e R s m args below meth c H locs cells slots Q (F0 m pc ls (.int x0 :: rest)) := callO (runS F yv_X3_isEnd_X3 (c_X3_isEnd h (G := G)) hw.1 nil_P (A := A) nil_D ⟨rfl, rfl⟩ hR hcs rfl hsz rfl hW hdg) kk
def rmX3_thingsInPassage : Room := { frames := 1, cells := 0, slots := 0, locals := 20 }
noncomputable def f_X3_thingsInPassage_4 : Nat → Int32 → Int32 → Int32 → HS → Option (Int32)
  | 0, _, _, _, _ => none
  | n + 1, x1, x2, x3, u => (if x1 ≤ x3 then some x2 else (if (600 : Int32) ≤ x3 then some x2 else (if ix x3 600 = true then (f_X3_isEnd (u.2.2.2.1 (Int32.toNatClampNeg x3))).bind (fun z4 => (if z4 = 0 then f_X3_thingsInPassage_4 n x1 (x2 + 1) (x3 + 1) u else f_X3_thingsInPassage_4 n x1 x2 (x3 + 1) u)) else none)))
noncomputable def f_X3_thingsInPassage (x1 : Int32) (u : HS) : Option (Int32) := f_X3_thingsInPassage_4 NF x1 0 0 u
section
variable {p : Program} {l : Launch} {e : Env} {s : State} {m : MethodId} {args : Array Value} {below : List Frame} {meth : Method} {c : Code}
variable {G : GX} {A : Nat → Prop} {ad : Nat → Nat} 
set_option maxHeartbeats 4000000 in
set_option maxRecDepth 100000 in
theorem w_X3_thingsInPassage_4 (F : FX p m c cX3_thingsInPassage 4 s args yX3_thingsInPassage (some .int) RX3 meth) {z : Int32} : ∀ (n : Nat) (x1 : Int32) (x2 : Int32) (x3 : Int32) (u : HS) (ls : Array Slot), WD G A s (hw_ G ad u) s.heap [] → lv_has ls 4 [(0, .ref (ad 0)), (1, .int x1), (2, .int x2), (3, .int x3)] → f_X3_thingsInPassage_4 n x1 x2 x3 u = some z → W p l e rmX3_thingsInPassage s m args below meth c s.heap [] 0 0 (MQ below (QO (some (.int z))) args s 0 0 (fun _ => False)) (F0 m 4 ls []) := by
  obtain ⟨⟨hx, hb, hml, hown, hts⟩, hr, hlocks⟩ := id F
  intro n
  induction n with
  | zero =>
    intro x1 x2 x3 u ls hw hl h
    rw [f_X3_thingsInPassage_4] at h
    cases h
  | succ n ih =>
    intro x1 x2 x3 u ls hw hl h
    rw [f_X3_thingsInPassage_4] at h
    refine lv_iload_n hx hb dX3_thingsInPassage_4 rfl (lv_at hl 3 rfl) ?_
    refine lv_iload_n hx hb dX3_thingsInPassage_5 rfl (lv_at hl 1 rfl) ?_
    refine lv_icmp_ge (tgt := 39) hx hb dX3_thingsInPassage_6 rfl (fun c1 => ?_) (fun c1 => ?_)
    · replace h := itT h c1
      refine lv_iload_n hx hb dX3_thingsInPassage_39 rfl (lv_at hl 2 rfl) ?_
      cases h
      exact retO_i F dX3_thingsInPassage_40
    · replace h := itF h c1
      refine lv_iload_n hx hb dX3_thingsInPassage_9 rfl (lv_at hl 3 rfl) ?_
      refine lv_aload_n hx hb dX3_thingsInPassage_10 rfl (lv_at hl 0 rfl) ?_
      refine h_g0_1 F hw dX3_thingsInPassage_11 ?_
      refine h_n2 F hw dX3_thingsInPassage_14 ?_
      refine lv_icmp_ge (tgt := 39) hx hb dX3_thingsInPassage_15 rfl (fun c2 => ?_) (fun c2 => ?_)
      · replace h := itT h c2
        refine lv_iload_n hx hb dX3_thingsInPassage_39 rfl (lv_at hl 2 rfl) ?_
        cases h
        exact retO_i F dX3_thingsInPassage_40
      · replace h := itF h c2
        refine lv_aload_n hx hb dX3_thingsInPassage_18 rfl (lv_at hl 0 rfl) ?_
        refine h_g0_1 F hw dX3_thingsInPassage_19 ?_
        refine lv_iload_n hx hb dX3_thingsInPassage_22 rfl (lv_at hl 3 rfl) ?_
        obtain ⟨g3, h⟩ := gd h
        refine h_l2 F hw g3 dX3_thingsInPassage_23 ?_
        obtain ⟨z4, e5, h⟩ := bnd h
        refine k_X3_isEnd_h_ F hw e5 ⟨Nat.le_of_ble_eq_true rfl, Nat.le_of_ble_eq_true rfl⟩ ⟨Nat.zero_le _, Nat.zero_le _⟩ hl.1 (Nat.le_of_ble_eq_true rfl) dX3_thingsInPassage_24 ?_
        refine lv_if_ne (tgt := 33) hx hb dX3_thingsInPassage_27 rfl (fun c6 => ?_) (fun c6 => ?_)
        · replace h := itF h c6
          refine lv_iinc (v := (x3 + 1)) (lv' := [(3, .int (x3 + 1)), (0, .ref (ad 0)), (1, .int x1), (2, .int x2)]) hx hb dX3_thingsInPassage_33 hl (k := 3) rfl rfl (by decide) rfl (fun ls hl => ?_)
          refine lv_goto (tgt := 4) hx hb dX3_thingsInPassage_36 rfl ?_
          exact ih _ _ _ _ _ hw (lv_sub hl [1, 2, 3, 0] rfl) h
        · replace h := itT h c6
          refine lv_iinc (v := (x2 + 1)) (lv' := [(2, .int (x2 + 1)), (0, .ref (ad 0)), (1, .int x1), (3, .int x3)]) hx hb dX3_thingsInPassage_30 hl (k := 2) rfl rfl (by decide) rfl (fun ls hl => ?_)
          refine lv_iinc (v := (x3 + 1)) (lv' := [(3, .int (x3 + 1)), (2, .int (x2 + 1)), (0, .ref (ad 0)), (1, .int x1)]) hx hb dX3_thingsInPassage_33 hl (k := 3) rfl rfl (by decide) rfl (fun ls hl => ?_)
          refine lv_goto (tgt := 4) hx hb dX3_thingsInPassage_36 rfl ?_
          exact ih _ _ _ _ _ hw (lv_sub hl [2, 3, 1, 0] rfl) h
set_option maxHeartbeats 4000000 in
set_option maxRecDepth 100000 in
theorem w_X3_thingsInPassage_0 (F : FX p m c cX3_thingsInPassage 4 s args yX3_thingsInPassage (some .int) RX3 meth) {z : Int32} : ∀ (x1 : Int32) (u : HS) (ls : Array Slot), WD G A s (hw_ G ad u) s.heap [] → lv_has ls 4 [(0, .ref (ad 0)), (1, .int x1)] → f_X3_thingsInPassage x1 u = some z → W p l e rmX3_thingsInPassage s m args below meth c s.heap [] 0 0 (MQ below (QO (some (.int z))) args s 0 0 (fun _ => False)) (F0 m 0 ls []) := by
  obtain ⟨⟨hx, hb, hml, hown, hts⟩, hr, hlocks⟩ := id F
  intro x1 u ls hw hl h
  unfold f_X3_thingsInPassage at h
  refine lv_iconst (v := 0) hx hb dX3_thingsInPassage_0 rfl ?_
  refine lv_istore_n (lv' := [(2, .int 0), (0, .ref (ad 0)), (1, .int x1)]) hx hb dX3_thingsInPassage_1 rfl hl (by decide) rfl (fun ls hl => ?_)
  refine lv_iconst (v := 0) hx hb dX3_thingsInPassage_2 rfl ?_
  refine lv_istore_n (lv' := [(3, .int 0), (2, .int 0), (0, .ref (ad 0)), (1, .int x1)]) hx hb dX3_thingsInPassage_3 rfl hl (by decide) rfl (fun ls hl => ?_)
  exact w_X3_thingsInPassage_4 F NF _ _ _ _ _ hw (lv_sub hl [2, 3, 1, 0] rfl) h
end
theorem c_X3_thingsInPassage {l : Launch} {G : GX} {ad : Nat → Nat} {x1 : Int32} {u : HS} {z : Int32} (h : f_X3_thingsInPassage x1 u = some z) : MO l yX3_thingsInPassage cX3_thingsInPassage 4 (some .int) rmX3_thingsInPassage G (hw_ G ad u) [.ref (ad 0), .int x1] (some (.int z)) := MO.of (by decide) (Nat.le_of_ble_eq_true rfl) (fun p e s m below meth c ls F hw hl => w_X3_thingsInPassage_0 F _ _ _ hw hl h)
/-! ===== X3_drop ===== -/
theorem dX3_drop_0 : decode cX3_drop 0 = .ok (.aload_n 0, 1) := by decide +kernel
theorem dX3_drop_1 : decode cX3_drop 1 = .ok (.iload_n 1, 1) := by decide +kernel
theorem dX3_drop_2 : decode cX3_drop 2 = .ok (.invokevirtual 66, 3) := by decide +kernel
theorem dX3_drop_5 : decode cX3_drop 5 = .ok (.ifCond .ne 6, 3) := by decide +kernel
theorem dX3_drop_8 : decode cX3_drop 8 = .ok (.bipush (-3), 2) := by decide +kernel
theorem dX3_drop_10 : decode cX3_drop 10 = .ok (.ireturn, 1) := by decide +kernel
theorem dX3_drop_11 : decode cX3_drop 11 = .ok (.aload_n 0, 1) := by decide +kernel
theorem dX3_drop_12 : decode cX3_drop 12 = .ok (.getfield 20, 3) := by decide +kernel
theorem dX3_drop_15 : decode cX3_drop 15 = .ok (.getfield 69, 3) := by decide +kernel
theorem dX3_drop_18 : decode cX3_drop 18 = .ok (.iload_n 1, 1) := by decide +kernel
theorem dX3_drop_19 : decode cX3_drop 19 = .ok (.invokevirtual 73, 3) := by decide +kernel
theorem dX3_drop_22 : decode cX3_drop 22 = .ok (.istore_n 2, 1) := by decide +kernel
theorem dX3_drop_23 : decode cX3_drop 23 = .ok (.aload_n 0, 1) := by decide +kernel
theorem dX3_drop_24 : decode cX3_drop 24 = .ok (.invokevirtual 41, 3) := by decide +kernel
theorem dX3_drop_27 : decode cX3_drop 27 = .ok (.aload_n 0, 1) := by decide +kernel
theorem dX3_drop_28 : decode cX3_drop 28 = .ok (.getfield 20, 3) := by decide +kernel
theorem dX3_drop_31 : decode cX3_drop 31 = .ok (.iload_n 2, 1) := by decide +kernel
theorem dX3_drop_32 : decode cX3_drop 32 = .ok (.aload_n 0, 1) := by decide +kernel
theorem dX3_drop_33 : decode cX3_drop 33 = .ok (.getfield 20, 3) := by decide +kernel
theorem dX3_drop_36 : decode cX3_drop 36 = .ok (.iload_n 1, 1) := by decide +kernel
theorem dX3_drop_37 : decode cX3_drop 37 = .ok (.invokevirtual 79, 3) := by decide +kernel
theorem dX3_drop_40 : decode cX3_drop 40 = .ok (.aload_n 0, 1) := by decide +kernel
theorem dX3_drop_41 : decode cX3_drop 41 = .ok (.getfield 20, 3) := by decide +kernel
theorem dX3_drop_44 : decode cX3_drop 44 = .ok (.iload_n 1, 1) := by decide +kernel
theorem dX3_drop_45 : decode cX3_drop 45 = .ok (.invokevirtual 82, 3) := by decide +kernel
theorem dX3_drop_48 : decode cX3_drop 48 = .ok (.iconst 1, 1) := by decide +kernel
theorem dX3_drop_49 : decode cX3_drop 49 = .ok (.iadd, 1) := by decide +kernel
theorem dX3_drop_50 : decode cX3_drop 50 = .ok (.aload_n 0, 1) := by decide +kernel
theorem dX3_drop_51 : decode cX3_drop 51 = .ok (.getfield 15, 3) := by decide +kernel
theorem dX3_drop_54 : decode cX3_drop 54 = .ok (.invokevirtual 85, 3) := by decide +kernel
theorem dX3_drop_57 : decode cX3_drop 57 = .ok (.istore_n 3, 1) := by decide +kernel
theorem dX3_drop_58 : decode cX3_drop 58 = .ok (.aload_n 0, 1) := by decide +kernel
theorem dX3_drop_59 : decode cX3_drop 59 = .ok (.iconst 1, 1) := by decide +kernel
theorem dX3_drop_60 : decode cX3_drop 60 = .ok (.invokevirtual 50, 3) := by decide +kernel
theorem dX3_drop_63 : decode cX3_drop 63 = .ok (.aload_n 0, 1) := by decide +kernel
theorem dX3_drop_64 : decode cX3_drop 64 = .ok (.iload_n 3, 1) := by decide +kernel
theorem dX3_drop_65 : decode cX3_drop 65 = .ok (.invokevirtual 89, 3) := by decide +kernel
theorem dX3_drop_68 : decode cX3_drop 68 = .ok (.ireturn, 1) := by decide +kernel
theorem yv_X2_firstPlace_X3 : YV RX3 79 yX2_firstPlace cX2_firstPlace 2 (some .int) 1 := ⟨(tw 303 (by decide +kernel) rfl), (tw 2 (by decide +kernel) rfl), (tw 300 (by decide +kernel) rfl), (tw 301 (by decide +kernel) rfl), (tw 302 (by decide +kernel) rfl), by decide +kernel⟩
theorem k_X2_firstPlace_h_ {p : Program} {l : Launch} {e : Env} {R : Room} {s : State} {m : MethodId} {args : Array Value} {below : List Frame} {meth : Method} {c : Code} {H : Heap} {locs : List Loc} {cells slots : Nat} {Q : State → Prop} {G : GX} {A : Nat → Prop} {ad : Nat → Nat} {u : HS} {cc : ByteArray} {nL pc : Nat} {y : MethodName} {ret : Option FieldType} {ls : Array Slot} {rest : List Value} {x1 : Int32} {z : Int32} (F : FX p m c cc nL s args y ret RX3 meth) (hw : WD G A s (hw_ G ad u) H locs) (h : f_X2_firstPlace x1 u.2.2.2.2.1 = some z) (hR : rmX2_firstPlace.frames + 1 ≤ R.frames ∧ 8 + (2 + 11) + rmX2_firstPlace.locals ≤ R.locals) (hcs : cells ≤ R.cells ∧ slots ≤ R.slots) (hsz : ls.size = nL) (hW : (rest.map fun v => v.category).sum ≤ 8) (hdg : decode cc pc = .ok (.invokevirtual 79, 3)) (kk : W p l e R s m args below meth c H locs cells slots Q (F0 m (pc + 3) ls (.int z :: rest))) : W p l e R s m args below meth c H locs cells slots Q (F0 m pc ls (.int x1 :: .ref (u.1 0) :: rest)) := callO (runV F yv_X2_firstPlace_X3 (c_X2_firstPlace h (ad := u.1)) hw.1 (hw.2.1.sub [3, 4, 5, 6, 7, 8, 9, 10, 11, 12, 13, 14, 15, 16] rfl) (hw.2.2.1.sub [3, 4, 5, 6, 7, 8, 9, 10, 11, 12, 13, 14, 15, 16] (by decide) rfl) rfl rfl rfl ⟨rfl, rfl⟩ hR hcs rfl hsz rfl hW hdg) kk
theorem yv_X2_lastPlace_X3 : YV RX3 82 yX2_lastPlace cX2_lastPlace 2 (some .int) 1 := ⟨(tw 307 (by decide +kernel) rfl), (tw 2 (by decide +kernel) rfl), (tw 304 (by decide +kernel) rfl), (tw 305 (by decide +kernel) rfl), (tw 306 (by decide +kernel) rfl), by decide +kernel⟩
theorem k_X2_lastPlace_h_ {p : Program} {l : Launch} {e : Env} {R : Room} {s : State} {m : MethodId} {args : Array Value} {below : List Frame} {meth : Method} {c : Code} {H : Heap} {locs : List Loc} {cells slots : Nat} {Q : State → Prop} {G : GX} {A : Nat → Prop} {ad : Nat → Nat} {u : HS} {cc : ByteArray} {nL pc : Nat} {y : MethodName} {ret : Option FieldType} {ls : Array Slot} {rest : List Value} {x1 : Int32} {z : Int32} (F : FX p m c cc nL s args y ret RX3 meth) (hw : WD G A s (hw_ G ad u) H locs) (h : f_X2_lastPlace x1 u.2.2.2.2.1 = some z) (hR : rmX2_lastPlace.frames + 1 ≤ R.frames ∧ 8 + (2 + 11) + rmX2_lastPlace.locals ≤ R.locals) (hcs : cells ≤ R.cells ∧ slots ≤ R.slots) (hsz : ls.size = nL) (hW : (rest.map fun v => v.category).sum ≤ 8) (hdg : decode cc pc = .ok (.invokevirtual 82, 3)) (kk : W p l e R s m args below meth c H locs cells slots Q (F0 m (pc + 3) ls (.int z :: rest))) : W p l e R s m args below meth c H locs cells slots Q (F0 m pc ls (.int x1 :: .ref (u.1 0) :: rest)) := callO (runV F yv_X2_lastPlace_X3 (c_X2_lastPlace h (ad := u.1)) hw.1 (hw.2.1.sub [3, 4, 5, 6, 7, 8, 9, 10, 11, 12, 13, 14, 15, 16] rfl) (hw.2.2.1.sub [3, 4, 5, 6, 7, 8, 9, 10, 11, 12, 13, 14, 15, 16] (by decide) rfl) rfl rfl rfl ⟨rfl, rfl⟩ hR hcs rfl hsz rfl hW hdg) kk
theorem yv_X2_takeOut_X3 : YV RX3 85 yX2_takeOut cX2_takeOut 9 (some .int) 4 := ⟨(tw 313 (by decide +kernel) rfl), (tw 2 (by decide +kernel) rfl), (tw 310 (by decide +kernel) rfl), (tw 311 (by decide +kernel) rfl), (tw 312 (by decide +kernel) rfl), by decide +kernel⟩
theorem k_X2_takeOut_h_ {p : Program} {l : Launch} {e : Env} {R : Room} {s : State} {m : MethodId} {args : Array Value} {below : List Frame} {meth : Method} {c : Code} {H : Heap} {locs : List Loc} {cells slots : Nat} {Q : State → Prop} {G : GX} {A : Nat → Prop} {ad : Nat → Nat} {u : HS} {cc : ByteArray} {nL pc : Nat} {y : MethodName} {ret : Option FieldType} {ls : Array Slot} {rest : List Value} {x1 : Int32} {x2 : Int32} {x3 : Int32} {z : Int32 × SP} (F : FX p m c cc nL s args y ret RX3 meth) (hw : WD G A s (hw_ G ad u) H locs) (h : f_X2_takeOut x1 x2 x3 (u.2.2.2.2.1, u.2.2.2.1) = some z) (hR : rmX2_takeOut.frames + 1 ≤ R.frames ∧ 8 + (9 + 11) + rmX2_takeOut.locals ≤ R.locals) (hcs : cells ≤ R.cells ∧ slots ≤ R.slots) (hsz : ls.size = nL) (hW : (rest.map fun v => v.category).sum ≤ 8) (hdg : decode cc pc = .ok (.invokevirtual 85, 3)) (kk : ∀ (H : Heap) (locs : List Loc), WD G A s (hw_ G ad (hP (hN u z.2.1) z.2.2)) H locs → W p l e R s m args below meth c H locs cells slots Q (F0 m (pc + 3) ls (.int z.1 :: rest))) : W p l e R s m args below meth c H locs cells slots Q (F0 m pc ls (.ref (ad 2) :: .int x3 :: .int x2 :: .int x1 :: .ref (u.1 0) :: rest)) := callW (runV F yv_X2_takeOut_X3 (c_X2_takeOut h (ad := (fun k => if k = 14 then ad 2 else u.1 k))) hw.1 (hw.2.1.sub [3, 4, 5, 6, 7, 8, 9, 10, 11, 12, 13, 14, 15, 16, 2] rfl) (hw.2.2.1.sub [3, 4, 5, 6, 7, 8, 9, 10, 11, 12, 13, 14, 15, 16, 2] (by decide) rfl) rfl rfl rfl ⟨rfl, rfl⟩ hR hcs rfl hsz rfl hW hdg) hw.2.2.2 (hw.2.2.1.sub [3, 4, 5, 6, 7, 8, 9, 10, 11, 12, 13, 14, 15, 16, 2] (by decide) rfl).own_in (fun H1 l1 hP hk hS => kk H1 l1 ⟨hw.1, subT (joinT (wx := (hxw G ad u)) (N := 17) rfl hw.2.1 hw.2.2.1 [3, 4, 5, 6, 7, 8, 9, 10, 11, 12, 13, 14, 15, 16, 2] [0, 1] rfl (by decide) (by decide) hk hP) [0, 1, 16, 2, 3, 4, 5, 6, 7, 8, 9, 10, 11, 12, 13, 14, 15] rfl, hw.2.2.1.addr rfl, hS⟩)
theorem yv_X3_thingsInPassage_X3 : YV RX3 89 yX3_thingsInPassage cX3_thingsInPassage 4 (some .int) 1 := ⟨(tw 321 (by decide +kernel) rfl), (tw 1 (by decide +kernel) rfl), (tw 318 (by decide +kernel) rfl), (tw 320 (by decide +kernel) rfl), (tp 8 (by decide +kernel) rfl), by decide +kernel⟩
theorem k_X3_thingsInPassage_h_ {p : Program} {l : Launch} {e : Env} {R : Room} {s : State} {m : MethodId} {args : Array Value} {below : List Frame} {meth : Method} {c : Code} {H : Heap} {locs : List Loc} {cells slots : Nat} {Q : State → Prop} {G : GX} {A : Nat → Prop} {ad : Nat → Nat} {u : HS} {cc : ByteArray} {nL pc : Nat} {y : MethodName} {ret : Option FieldType} {ls : Array Slot} {rest : List Value} {x1 : Int32} {z : Int32} (F : FX p m c cc nL s args y ret RX3 meth) (hw : WD G A s (hw_ G ad u) H locs) (h : f_X3_thingsInPassage x1 u = some z) (hR : rmX3_thingsInPassage.frames + 1 ≤ R.frames ∧ 8 + (4 + 11) + rmX3_thingsInPassage.locals ≤ R.locals) (hcs : cells ≤ R.cells ∧ slots ≤ R.slots) (hsz : ls.size = nL) (hW : (rest.map fun v => v.category).sum ≤ 8) (hdg : decode cc pc = .ok (.invokevirtual 89, 3)) (kk : W p l e R s m args below meth c H locs cells slots Q (F0 m (pc + 3) ls (.int z :: rest))) : W p l e R s m args below meth c H locs cells slots Q (F0 m pc ls (.int x1 :: .ref (ad 0) :: rest)) := callO (runV F yv_X3_thingsInPassage_X3 (c_X3_thingsInPassage h) hw.1 hw.2.1 hw.2.2.1 rfl rfl rfl ⟨rfl, rfl⟩ hR hcs rfl hsz rfl hW hdg) kk
def rmX3_drop : Room := { frames := 4, cells := 0, slots := 0, locals := 80 }
noncomputable def f_X3_drop (x1 : Int32) (u : HS) : Option (Int32 × HS) := (f_X3_isStanding x1 u).bind (fun z1 => (if z1 = 0 then some ((-3), u) else (f_X1_rowOfThing x1 u.2.2.2.2.1.1).bind (fun z4 => (f_X3_beginChange u).bind (fun z6 => (f_X2_firstPlace x1 z6.2.2.2.2.1).bind (fun z8 => (f_X2_lastPlace x1 z6.2.2.2.2.1).bind (fun z10 => (f_X2_takeOut z4 z8 (z10 + 1) (z6.2.2.2.2.1, z6.2.2.2.1)).bind (fun z12 => (f_X3_endChange 1 (hP (hN z6 z12.2.1) z12.2.2)).bind (fun z14 => (f_X3_thingsInPassage z12.1 z14).bind (fun z16 => some (z16, z14))))))))))
section
variable {p : Program} {l : Launch} {e : Env} {s : State} {m : MethodId} {args : Array Value} {below : List Frame} {meth : Method} {c : Code}
variable {G : GX} {A : Nat → Prop} {ad : Nat → Nat} 
set_option maxHeartbeats 4000000 in
set_option maxRecDepth 100000 in
theorem w_X3_drop_0 (F : FX p m c cX3_drop 4 s args yX3_drop (some .int) RX3 meth) {z : Int32 × HS} : ∀ (x1 : Int32) (u : HS) (H : Heap) (locs : List Loc) (ls : Array Slot), WD G A s (hw_ G ad u) H locs → lv_has ls 4 [(0, .ref (ad 0)), (1, .int x1)] → f_X3_drop x1 u = some z → W p l e rmX3_drop s m args below meth c H locs 0 0 (MQ below (QH G (hw_ G ad z.2) A (some (.int z.1))) args s 0 0 A) (F0 m 0 ls []) := by
  obtain ⟨⟨hx, hb, hml, hown, hts⟩, hr, hlocks⟩ := id F
  intro x1 u H locs ls hw hl h
  unfold f_X3_drop at h
  refine lv_aload_n hx hb dX3_drop_0 rfl (lv_at hl 0 rfl) ?_
  refine lv_iload_n hx hb dX3_drop_1 rfl (lv_at hl 1 rfl) ?_
  obtain ⟨z1, e2, h⟩ := bnd h
  refine k_X3_isStanding_h_ F hw e2 ⟨Nat.le_of_ble_eq_true rfl, Nat.le_of_ble_eq_true rfl⟩ ⟨Nat.zero_le _, Nat.zero_le _⟩ hl.1 (Nat.le_of_ble_eq_true rfl) dX3_drop_2 ?_
  refine lv_if_ne (tgt := 11) hx hb dX3_drop_5 rfl (fun c3 => ?_) (fun c3 => ?_)
  · replace h := itF h c3
    refine lv_aload_n hx hb dX3_drop_11 rfl (lv_at hl 0 rfl) ?_
    refine h_g0_2 F hw dX3_drop_12 ?_
    refine h_g3_0 F hw dX3_drop_15 ?_
    refine lv_iload_n hx hb dX3_drop_18 rfl (lv_at hl 1 rfl) ?_
    obtain ⟨z4, e5, h⟩ := bnd h
    refine k_X1_rowOfThing_h_ F hw e5 ⟨Nat.le_of_ble_eq_true rfl, Nat.le_of_ble_eq_true rfl⟩ ⟨Nat.zero_le _, Nat.zero_le _⟩ hl.1 (Nat.le_of_ble_eq_true rfl) dX3_drop_19 ?_
    refine lv_istore_n (lv' := [(2, .int z4), (0, .ref (ad 0)), (1, .int x1)]) hx hb dX3_drop_22 rfl hl (by decide) rfl (fun ls hl => ?_)
    refine lv_aload_n hx hb dX3_drop_23 rfl (lv_at hl 1 rfl) ?_
    obtain ⟨z6, e7, h⟩ := bnd h
    refine k_X3_beginChange_h_ F hw e7 ⟨Nat.le_of_ble_eq_true rfl, Nat.le_of_ble_eq_true rfl⟩ ⟨Nat.zero_le _, Nat.zero_le _⟩ hl.1 (Nat.le_of_ble_eq_true rfl) dX3_drop_24 (fun H locs hw => ?_)
    refine lv_aload_n hx hb dX3_drop_27 rfl (lv_at hl 1 rfl) ?_
    refine h_g0_2 F hw dX3_drop_28 ?_
    refine lv_iload_n hx hb dX3_drop_31 rfl (lv_at hl 0 rfl) ?_
    refine lv_aload_n hx hb dX3_drop_32 rfl (lv_at hl 1 rfl) ?_
    refine h_g0_2 F hw dX3_drop_33 ?_
    refine lv_iload_n hx hb dX3_drop_36 rfl (lv_at hl 2 rfl) ?_
    obtain ⟨z8, e9, h⟩ := bnd h
    refine k_X2_firstPlace_h_ F hw e9 ⟨Nat.le_of_ble_eq_true rfl, Nat.le_of_ble_eq_true rfl⟩ ⟨Nat.zero_le _, Nat.zero_le _⟩ hl.1 (Nat.le_of_ble_eq_true rfl) dX3_drop_37 ?_
    refine lv_aload_n hx hb dX3_drop_40 rfl (lv_at hl 1 rfl) ?_
    refine h_g0_2 F hw dX3_drop_41 ?_
    refine lv_iload_n hx hb dX3_drop_44 rfl (lv_at hl 2 rfl) ?_
    obtain ⟨z10, e11, h⟩ := bnd h
    refine k_X2_lastPlace_h_ F hw e11 ⟨Nat.le_of_ble_eq_true rfl, Nat.le_of_ble_eq_true rfl⟩ ⟨Nat.zero_le _, Nat.zero_le _⟩ hl.1 (Nat.le_of_ble_eq_true rfl) dX3_drop_45 ?_
    refine lv_iconst (v := 1) hx hb dX3_drop_48 rfl ?_
    refine lv_iadd hx hb dX3_drop_49 ?_
    refine lv_aload_n hx hb dX3_drop_50 rfl (lv_at hl 1 rfl) ?_
    refine h_g0_1 F hw dX3_drop_51 ?_
    obtain ⟨z12, e13, h⟩ := bnd h
    refine k_X2_takeOut_h_ F hw e13 ⟨Nat.le_of_ble_eq_true rfl, Nat.le_of_ble_eq_true rfl⟩ ⟨Nat.zero_le _, Nat.zero_le _⟩ hl.1 (Nat.le_of_ble_eq_true rfl) dX3_drop_54 (fun H locs hw => ?_)
    refine lv_istore_n (lv' := [(3, .int z12.1), (2, .int z4), (0, .ref (ad 0)), (1, .int x1)]) hx hb dX3_drop_57 rfl hl (by decide) rfl (fun ls hl => ?_)
    refine lv_aload_n hx hb dX3_drop_58 rfl (lv_at hl 2 rfl) ?_
    refine lv_iconst (v := 1) hx hb dX3_drop_59 rfl ?_
    obtain ⟨z14, e15, h⟩ := bnd h
    refine k_X3_endChange_h_ F hw e15 ⟨Nat.le_of_ble_eq_true rfl, Nat.le_of_ble_eq_true rfl⟩ ⟨Nat.zero_le _, Nat.zero_le _⟩ hl.1 (Nat.le_of_ble_eq_true rfl) dX3_drop_60 (fun H locs hw => ?_)
    refine lv_aload_n hx hb dX3_drop_63 rfl (lv_at hl 2 rfl) ?_
    refine lv_iload_n hx hb dX3_drop_64 rfl (lv_at hl 0 rfl) ?_
    obtain ⟨z16, e17, h⟩ := bnd h
    refine k_X3_thingsInPassage_h_ F hw e17 ⟨Nat.le_of_ble_eq_true rfl, Nat.le_of_ble_eq_true rfl⟩ ⟨Nat.zero_le _, Nat.zero_le _⟩ hl.1 (Nat.le_of_ble_eq_true rfl) dX3_drop_65 ?_
    cases h
    exact retH_i F hw dX3_drop_68
  · replace h := itT h c3
    refine lv_bipush (v := (-3)) hx hb dX3_drop_8 rfl ?_
    cases h
    exact retH_i F hw dX3_drop_10
end
theorem c_X3_drop {l : Launch} {G : GX} {ad : Nat → Nat} {x1 : Int32} {u : HS} {z : Int32 × HS} (h : f_X3_drop x1 u = some z) : MH l yX3_drop cX3_drop 4 (some .int) rmX3_drop G (hw_ G ad u) (hw_ G ad z.2) [.ref (ad 0), .int x1] (some (.int z.1)) := MH.of (by decide) (Nat.le_of_ble_eq_true rfl) (fun p e s m below meth c ls F hw hl => w_X3_drop_0 F _ _ _ _ _ hw hl h)
/-! ===== X3_carry ===== -/
theorem dX3_carry_0 : decode cX3_carry 0 = .ok (.aload_n 0, 1) := by decide +kernel
theorem dX3_carry_1 : decode cX3_carry 1 = .ok (.invokevirtual 41, 3) := by decide +kernel
theorem dX3_carry_4 : decode cX3_carry 4 = .ok (.aload_n 0, 1) := by decide +kernel
theorem dX3_carry_5 : decode cX3_carry 5 = .ok (.getfield 20, 3) := by decide +kernel
theorem dX3_carry_8 : decode cX3_carry 8 = .ok (.iload_n 1, 1) := by decide +kernel
theorem dX3_carry_9 : decode cX3_carry 9 = .ok (.iload_n 2, 1) := by decide +kernel
theorem dX3_carry_10 : decode cX3_carry 10 = .ok (.iload_n 3, 1) := by decide +kernel
theorem dX3_carry_11 : decode cX3_carry 11 = .ok (.aload_n 0, 1) := by decide +kernel
theorem dX3_carry_12 : decode cX3_carry 12 = .ok (.getfield 15, 3) := by decide +kernel
theorem dX3_carry_15 : decode cX3_carry 15 = .ok (.invokevirtual 85, 3) := by decide +kernel
theorem dX3_carry_18 : decode cX3_carry 18 = .ok (.istore 6, 2) := by decide +kernel
theorem dX3_carry_20 : decode cX3_carry 20 = .ok (.aload_n 0, 1) := by decide +kernel
theorem dX3_carry_21 : decode cX3_carry 21 = .ok (.getfield 20, 3) := by decide +kernel
theorem dX3_carry_24 : decode cX3_carry 24 = .ok (.iload 4, 2) := by decide +kernel
theorem dX3_carry_26 : decode cX3_carry 26 = .ok (.iload 5, 2) := by decide +kernel
theorem dX3_carry_28 : decode cX3_carry 28 = .ok (.invokevirtual 213, 3) := by decide +kernel
theorem dX3_carry_31 : decode cX3_carry 31 = .ok (.istore 7, 2) := by decide +kernel
theorem dX3_carry_33 : decode cX3_carry 33 = .ok (.iconst 1, 1) := by decide +kernel
theorem dX3_carry_34 : decode cX3_carry 34 = .ok (.istore 8, 2) := by decide +kernel
theorem dX3_carry_36 : decode cX3_carry 36 = .ok (.iconst 0, 1) := by decide +kernel
theorem dX3_carry_37 : decode cX3_carry 37 = .ok (.istore 9, 2) := by decide +kernel
theorem dX3_carry_39 : decode cX3_carry 39 = .ok (.iload 9, 2) := by decide +kernel
theorem dX3_carry_41 : decode cX3_carry 41 = .ok (.iload 6, 2) := by decide +kernel
theorem dX3_carry_43 : decode cX3_carry 43 = .ok (.if_icmp .ge 37, 3) := by decide +kernel
theorem dX3_carry_46 : decode cX3_carry 46 = .ok (.iload 8, 2) := by decide +kernel
theorem dX3_carry_48 : decode cX3_carry 48 = .ok (.ifCond .eq 32, 3) := by decide +kernel
theorem dX3_carry_51 : decode cX3_carry 51 = .ok (.aload_n 0, 1) := by decide +kernel
theorem dX3_carry_52 : decode cX3_carry 52 = .ok (.getfield 20, 3) := by decide +kernel
theorem dX3_carry_55 : decode cX3_carry 55 = .ok (.iload 4, 2) := by decide +kernel
theorem dX3_carry_57 : decode cX3_carry 57 = .ok (.iload 7, 2) := by decide +kernel
theorem dX3_carry_59 : decode cX3_carry 59 = .ok (.iload 9, 2) := by decide +kernel
theorem dX3_carry_61 : decode cX3_carry 61 = .ok (.iadd, 1) := by decide +kernel
theorem dX3_carry_62 : decode cX3_carry 62 = .ok (.aload_n 0, 1) := by decide +kernel
theorem dX3_carry_63 : decode cX3_carry 63 = .ok (.getfield 15, 3) := by decide +kernel
theorem dX3_carry_66 : decode cX3_carry 66 = .ok (.iload 9, 2) := by decide +kernel
theorem dX3_carry_68 : decode cX3_carry 68 = .ok (.iaload, 1) := by decide +kernel
theorem dX3_carry_69 : decode cX3_carry 69 = .ok (.invokevirtual 216, 3) := by decide +kernel
theorem dX3_carry_72 : decode cX3_carry 72 = .ok (.istore 8, 2) := by decide +kernel
theorem dX3_carry_74 : decode cX3_carry 74 = .ok (.iinc 9 1, 3) := by decide +kernel
theorem dX3_carry_77 : decode cX3_carry 77 = .ok (.goto (-38), 3) := by decide +kernel
theorem dX3_carry_80 : decode cX3_carry 80 = .ok (.aload_n 0, 1) := by decide +kernel
theorem dX3_carry_81 : decode cX3_carry 81 = .ok (.iload 8, 2) := by decide +kernel
theorem dX3_carry_83 : decode cX3_carry 83 = .ok (.invokevirtual 50, 3) := by decide +kernel
theorem dX3_carry_86 : decode cX3_carry 86 = .ok (.iload 8, 2) := by decide +kernel
theorem dX3_carry_88 : decode cX3_carry 88 = .ok (.ifCond .eq 12, 3) := by decide +kernel
theorem dX3_carry_91 : decode cX3_carry 91 = .ok (.aload_n 0, 1) := by decide +kernel
theorem dX3_carry_92 : decode cX3_carry 92 = .ok (.iload 6, 2) := by decide +kernel
theorem dX3_carry_94 : decode cX3_carry 94 = .ok (.invokevirtual 89, 3) := by decide +kernel
theorem dX3_carry_97 : decode cX3_carry 97 = .ok (.goto 5, 3) := by decide +kernel
theorem dX3_carry_100 : decode cX3_carry 100 = .ok (.bipush (-5), 2) := by decide +kernel
theorem dX3_carry_102 : decode cX3_carry 102 = .ok (.ireturn, 1) := by decide +kernel
def rmX3_carry : Room := { frames := 6, cells := 0, slots := 0, locals := 172 }
noncomputable def f_X3_carry_39 : Nat → Int32 → Int32 → Int32 → Int32 → Int32 → HS → Option (Int32 × HS)
  | 0, _, _, _, _, _, _ => none
  | n + 1, x4, x6, x7, x8, x9, u => (if x6 ≤ x9 then (f_X3_endChange x8 u).bind (fun z8 => (if x8 = 0 then some ((-5), z8) else (f_X3_thingsInPassage x6 z8).bind (fun z11 => some (z11, z8)))) else (if x8 = 0 then (f_X3_endChange x8 u).bind (fun z14 => (if x8 = 0 then some ((-5), z14) else (f_X3_thingsInPassage x6 z14).bind (fun z17 => some (z17, z14)))) else (if ix x9 600 = true then (f_X2_bring x4 (x7 + x9) (u.2.2.2.1 (Int32.toNatClampNeg x9)) u.2.2.2.2.1).bind (fun z20 => f_X3_carry_39 n x4 x6 x7 z20.1 (x9 + 1) (hN u z20.2)) else none)))
noncomputable def f_X3_carry (x1 : Int32) (x2 : Int32) (x3 : Int32) (x4 : Int32) (x5 : Int32) (u : HS) : Option (Int32 × HS) := (f_X3_beginChange u).bind (fun z1 => (f_X2_takeOut x1 x2 x3 (z1.2.2.2.2.1, z1.2.2.2.1)).bind (fun z3 => (f_X2_placeBehind x4 x5 (hP (hN z1 z3.2.1) z3.2.2).2.2.2.2.1).bind (fun z5 => f_X3_carry_39 NF x4 z3.1 z5 1 0 (hP (hN z1 z3.2.1) z3.2.2))))
section
variable {p : Program} {l : Launch} {e : Env} {s : State} {m : MethodId} {args : Array Value} {below : List Frame} {meth : Method} {c : Code}
variable {G : GX} {A : Nat → Prop} {ad : Nat → Nat} 
set_option maxHeartbeats 4000000 in
set_option maxRecDepth 100000 in
theorem w_X3_carry_39 (F : FX p m c cX3_carry 10 s args yX3_carry (some .int) RX3 meth) {z : Int32 × HS} : ∀ (n : Nat) (x4 : Int32) (x6 : Int32) (x7 : Int32) (x8 : Int32) (x9 : Int32) (u : HS) (H : Heap) (locs : List Loc) (ls : Array Slot), WD G A s (hw_ G ad u) H locs → lv_has ls 10 [(0, .ref (ad 0)), (4, .int x4), (6, .int x6), (7, .int x7), (8, .int x8), (9, .int x9)] → f_X3_carry_39 n x4 x6 x7 x8 x9 u = some z → W p l e rmX3_carry s m args below meth c H locs 0 0 (MQ below (QH G (hw_ G ad z.2) A (some (.int z.1))) args s 0 0 A) (F0 m 39 ls []) := by
  obtain ⟨⟨hx, hb, hml, hown, hts⟩, hr, hlocks⟩ := id F
  intro n
  induction n with
  | zero =>
    intro x4 x6 x7 x8 x9 u H locs ls hw hl h
    rw [f_X3_carry_39] at h
    cases h
  | succ n ih =>
    intro x4 x6 x7 x8 x9 u H locs ls hw hl h
    rw [f_X3_carry_39] at h
    refine lv_iload hx hb dX3_carry_39 (lv_at hl 5 rfl) ?_
    refine lv_iload hx hb dX3_carry_41 (lv_at hl 2 rfl) ?_
    refine lv_icmp_ge (tgt := 80) hx hb dX3_carry_43 rfl (fun c7 => ?_) (fun c7 => ?_)
    · replace h := itT h c7
      refine lv_aload_n hx hb dX3_carry_80 rfl (lv_at hl 0 rfl) ?_
      refine lv_iload hx hb dX3_carry_81 (lv_at hl 4 rfl) ?_
      obtain ⟨z8, e9, h⟩ := bnd h
      refine k_X3_endChange_h_ F hw e9 ⟨Nat.le_of_ble_eq_true rfl, Nat.le_of_ble_eq_true rfl⟩ ⟨Nat.zero_le _, Nat.zero_le _⟩ hl.1 (Nat.le_of_ble_eq_true rfl) dX3_carry_83 (fun H locs hw => ?_)
      refine lv_iload hx hb dX3_carry_86 (lv_at hl 4 rfl) ?_
      refine lv_if_eq (tgt := 100) hx hb dX3_carry_88 rfl (fun c10 => ?_) (fun c10 => ?_)
      · replace h := itT h c10
        refine lv_bipush (v := (-5)) hx hb dX3_carry_100 rfl ?_
        cases h
        exact retH_i F hw dX3_carry_102
      · replace h := itF h c10
        refine lv_aload_n hx hb dX3_carry_91 rfl (lv_at hl 0 rfl) ?_
        refine lv_iload hx hb dX3_carry_92 (lv_at hl 2 rfl) ?_
        obtain ⟨z11, e12, h⟩ := bnd h
        refine k_X3_thingsInPassage_h_ F hw e12 ⟨Nat.le_of_ble_eq_true rfl, Nat.le_of_ble_eq_true rfl⟩ ⟨Nat.zero_le _, Nat.zero_le _⟩ hl.1 (Nat.le_of_ble_eq_true rfl) dX3_carry_94 ?_
        refine lv_goto (tgt := 102) hx hb dX3_carry_97 rfl ?_
        cases h
        exact retH_i F hw dX3_carry_102
    · replace h := itF h c7
      refine lv_iload hx hb dX3_carry_46 (lv_at hl 4 rfl) ?_
      refine lv_if_eq (tgt := 80) hx hb dX3_carry_48 rfl (fun c13 => ?_) (fun c13 => ?_)
      · replace h := itT h c13
        refine lv_aload_n hx hb dX3_carry_80 rfl (lv_at hl 0 rfl) ?_
        refine lv_iload hx hb dX3_carry_81 (lv_at hl 4 rfl) ?_
        obtain ⟨z14, e15, h⟩ := bnd h
        refine k_X3_endChange_h_ F hw e15 ⟨Nat.le_of_ble_eq_true rfl, Nat.le_of_ble_eq_true rfl⟩ ⟨Nat.zero_le _, Nat.zero_le _⟩ hl.1 (Nat.le_of_ble_eq_true rfl) dX3_carry_83 (fun H locs hw => ?_)
        refine lv_iload hx hb dX3_carry_86 (lv_at hl 4 rfl) ?_
        refine lv_if_eq (tgt := 100) hx hb dX3_carry_88 rfl (fun c16 => ?_) (fun c16 => ?_)
        · replace h := itT h c16
          refine lv_bipush (v := (-5)) hx hb dX3_carry_100 rfl ?_
          cases h
          exact retH_i F hw dX3_carry_102
        · replace h := itF h c16
          refine lv_aload_n hx hb dX3_carry_91 rfl (lv_at hl 0 rfl) ?_
          refine lv_iload hx hb dX3_carry_92 (lv_at hl 2 rfl) ?_
          obtain ⟨z17, e18, h⟩ := bnd h
          refine k_X3_thingsInPassage_h_ F hw e18 ⟨Nat.le_of_ble_eq_true rfl, Nat.le_of_ble_eq_true rfl⟩ ⟨Nat.zero_le _, Nat.zero_le _⟩ hl.1 (Nat.le_of_ble_eq_true rfl) dX3_carry_94 ?_
          refine lv_goto (tgt := 102) hx hb dX3_carry_97 rfl ?_
          cases h
          exact retH_i F hw dX3_carry_102
      · replace h := itF h c13
        refine lv_aload_n hx hb dX3_carry_51 rfl (lv_at hl 0 rfl) ?_
        refine h_g0_2 F hw dX3_carry_52 ?_
        refine lv_iload hx hb dX3_carry_55 (lv_at hl 1 rfl) ?_
        refine lv_iload hx hb dX3_carry_57 (lv_at hl 3 rfl) ?_
        refine lv_iload hx hb dX3_carry_59 (lv_at hl 5 rfl) ?_
        refine lv_iadd hx hb dX3_carry_61 ?_
        refine lv_aload_n hx hb dX3_carry_62 rfl (lv_at hl 0 rfl) ?_
        refine h_g0_1 F hw dX3_carry_63 ?_
        refine lv_iload hx hb dX3_carry_66 (lv_at hl 5 rfl) ?_
        obtain ⟨g19, h⟩ := gd h
        refine h_l2 F hw g19 dX3_carry_68 ?_
        obtain ⟨z20, e21, h⟩ := bnd h
        refine k_X2_bring_h_ F hw e21 ⟨Nat.le_of_ble_eq_true rfl, Nat.le_of_ble_eq_true rfl⟩ ⟨Nat.zero_le _, Nat.zero_le _⟩ hl.1 (Nat.le_of_ble_eq_true rfl) dX3_carry_69 (fun H locs hw => ?_)
        refine lv_istore (lv' := [(8, .int z20.1), (0, .ref (ad 0)), (4, .int x4), (6, .int x6), (7, .int x7), (9, .int x9)]) hx hb dX3_carry_72 hl (by decide) rfl (fun ls hl => ?_)
        refine lv_iinc (v := (x9 + 1)) (lv' := [(9, .int (x9 + 1)), (8, .int z20.1), (0, .ref (ad 0)), (4, .int x4), (6, .int x6), (7, .int x7)]) hx hb dX3_carry_74 hl (k := 5) rfl rfl (by decide) rfl (fun ls hl => ?_)
        refine lv_goto (tgt := 39) hx hb dX3_carry_77 rfl ?_
        exact ih _ _ _ _ _ _ _ _ _ hw (lv_sub hl [2, 3, 4, 5, 1, 0] rfl) h
set_option maxHeartbeats 4000000 in
set_option maxRecDepth 100000 in
theorem w_X3_carry_0 (F : FX p m c cX3_carry 10 s args yX3_carry (some .int) RX3 meth) {z : Int32 × HS} : ∀ (x1 : Int32) (x2 : Int32) (x3 : Int32) (x4 : Int32) (x5 : Int32) (u : HS) (H : Heap) (locs : List Loc) (ls : Array Slot), WD G A s (hw_ G ad u) H locs → lv_has ls 10 [(0, .ref (ad 0)), (1, .int x1), (2, .int x2), (3, .int x3), (4, .int x4), (5, .int x5)] → f_X3_carry x1 x2 x3 x4 x5 u = some z → W p l e rmX3_carry s m args below meth c H locs 0 0 (MQ below (QH G (hw_ G ad z.2) A (some (.int z.1))) args s 0 0 A) (F0 m 0 ls []) := by
  obtain ⟨⟨hx, hb, hml, hown, hts⟩, hr, hlocks⟩ := id F
  intro x1 x2 x3 x4 x5 u H locs ls hw hl h
  unfold f_X3_carry at h
  refine lv_aload_n hx hb dX3_carry_0 rfl (lv_at hl 0 rfl) ?_
  obtain ⟨z1, e2, h⟩ := bnd h
  refine k_X3_beginChange_h_ F hw e2 ⟨Nat.le_of_ble_eq_true rfl, Nat.le_of_ble_eq_true rfl⟩ ⟨Nat.zero_le _, Nat.zero_le _⟩ hl.1 (Nat.le_of_ble_eq_true rfl) dX3_carry_1 (fun H locs hw => ?_)
  refine lv_aload_n hx hb dX3_carry_4 rfl (lv_at hl 0 rfl) ?_
  refine h_g0_2 F hw dX3_carry_5 ?_
  refine lv_iload_n hx hb dX3_carry_8 rfl (lv_at hl 1 rfl) ?_
  refine lv_iload_n hx hb dX3_carry_9 rfl (lv_at hl 2 rfl) ?_
  refine lv_iload_n hx hb dX3_carry_10 rfl (lv_at hl 3 rfl) ?_
  refine lv_aload_n hx hb dX3_carry_11 rfl (lv_at hl 0 rfl) ?_
  refine h_g0_1 F hw dX3_carry_12 ?_
  obtain ⟨z3, e4, h⟩ := bnd h
  refine k_X2_takeOut_h_ F hw e4 ⟨Nat.le_of_ble_eq_true rfl, Nat.le_of_ble_eq_true rfl⟩ ⟨Nat.zero_le _, Nat.zero_le _⟩ hl.1 (Nat.le_of_ble_eq_true rfl) dX3_carry_15 (fun H locs hw => ?_)
  refine lv_istore (lv' := [(6, .int z3.1), (0, .ref (ad 0)), (1, .int x1), (2, .int x2), (3, .int x3), (4, .int x4), (5, .int x5)]) hx hb dX3_carry_18 hl (by decide) rfl (fun ls hl => ?_)
  refine lv_aload_n hx hb dX3_carry_20 rfl (lv_at hl 1 rfl) ?_
  refine h_g0_2 F hw dX3_carry_21 ?_
  refine lv_iload hx hb dX3_carry_24 (lv_at hl 5 rfl) ?_
  refine lv_iload hx hb dX3_carry_26 (lv_at hl 6 rfl) ?_
  obtain ⟨z5, e6, h⟩ := bnd h
  refine k_X2_placeBehind_h_ F hw e6 ⟨Nat.le_of_ble_eq_true rfl, Nat.le_of_ble_eq_true rfl⟩ ⟨Nat.zero_le _, Nat.zero_le _⟩ hl.1 (Nat.le_of_ble_eq_true rfl) dX3_carry_28 ?_
  refine lv_istore (lv' := [(7, .int z5), (6, .int z3.1), (0, .ref (ad 0)), (1, .int x1), (2, .int x2), (3, .int x3), (4, .int x4), (5, .int x5)]) hx hb dX3_carry_31 hl (by decide) rfl (fun ls hl => ?_)
  refine lv_iconst (v := 1) hx hb dX3_carry_33 rfl ?_
  refine lv_istore (lv' := [(8, .int 1), (7, .int z5), (6, .int z3.1), (0, .ref (ad 0)), (1, .int x1), (2, .int x2), (3, .int x3), (4, .int x4), (5, .int x5)]) hx hb dX3_carry_34 hl (by decide) rfl (fun ls hl => ?_)
  refine lv_iconst (v := 0) hx hb dX3_carry_36 rfl ?_
  refine lv_istore (lv' := [(9, .int 0), (8, .int 1), (7, .int z5), (6, .int z3.1), (0, .ref (ad 0)), (1, .int x1), (2, .int x2), (3, .int x3), (4, .int x4), (5, .int x5)]) hx hb dX3_carry_37 hl (by decide) rfl (fun ls hl => ?_)
  exact w_X3_carry_39 F NF _ _ _ _ _ _ _ _ _ hw (lv_sub hl [4, 8, 3, 2, 1, 0] rfl) h
end
theorem c_X3_carry {l : Launch} {G : GX} {ad : Nat → Nat} {x1 : Int32} {x2 : Int32} {x3 : Int32} {x4 : Int32} {x5 : Int32} {u : HS} {z : Int32 × HS} (h : f_X3_carry x1 x2 x3 x4 x5 u = some z) : MH l yX3_carry cX3_carry 10 (some .int) rmX3_carry G (hw_ G ad u) (hw_ G ad z.2) [.ref (ad 0), .int x1, .int x2, .int x3, .int x4, .int x5] (some (.int z.1)) := MH.of (by decide) (Nat.le_of_ble_eq_true rfl) (fun p e s m below meth c ls F hw hl => w_X3_carry_0 F _ _ _ _ _ _ _ _ _ hw hl h)
/-! ===== X3_move ===== -/
theorem dX3_move_0 : decode cX3_move 0 = .ok (.aload_n 0, 1) := by decide +kernel
theorem dX3_move_1 : decode cX3_move 1 = .ok (.iload_n 1, 1) := by decide +kernel
theorem dX3_move_2 : decode cX3_move 2 = .ok (.invokevirtual 66, 3) := by decide +kernel
theorem dX3_move_5 : decode cX3_move 5 = .ok (.ifCond .ne 6, 3) := by decide +kernel
theorem dX3_move_8 : decode cX3_move 8 = .ok (.bipush (-3), 2) := by decide +kernel
theorem dX3_move_10 : decode cX3_move 10 = .ok (.ireturn, 1) := by decide +kernel
theorem dX3_move_11 : decode cX3_move 11 = .ok (.aload_n 0, 1) := by decide +kernel
theorem dX3_move_12 : decode cX3_move 12 = .ok (.getfield 20, 3) := by decide +kernel
theorem dX3_move_15 : decode cX3_move 15 = .ok (.getfield 69, 3) := by decide +kernel
theorem dX3_move_18 : decode cX3_move 18 = .ok (.iload_n 1, 1) := by decide +kernel
theorem dX3_move_19 : decode cX3_move 19 = .ok (.invokevirtual 73, 3) := by decide +kernel
theorem dX3_move_22 : decode cX3_move 22 = .ok (.istore 4, 2) := by decide +kernel
theorem dX3_move_24 : decode cX3_move 24 = .ok (.aload_n 0, 1) := by decide +kernel
theorem dX3_move_25 : decode cX3_move 25 = .ok (.iload 4, 2) := by decide +kernel
theorem dX3_move_27 : decode cX3_move 27 = .ok (.iload_n 2, 1) := by decide +kernel
theorem dX3_move_28 : decode cX3_move 28 = .ok (.iload_n 3, 1) := by decide +kernel
theorem dX3_move_29 : decode cX3_move 29 = .ok (.invokevirtual 54, 3) := by decide +kernel
theorem dX3_move_32 : decode cX3_move 32 = .ok (.ifCond .ne 6, 3) := by decide +kernel
theorem dX3_move_35 : decode cX3_move 35 = .ok (.bipush (-3), 2) := by decide +kernel
theorem dX3_move_37 : decode cX3_move 37 = .ok (.ireturn, 1) := by decide +kernel
theorem dX3_move_38 : decode cX3_move 38 = .ok (.iload_n 2, 1) := by decide +kernel
theorem dX3_move_39 : decode cX3_move 39 = .ok (.iload_n 1, 1) := by decide +kernel
theorem dX3_move_40 : decode cX3_move 40 = .ok (.if_icmp .eq 20, 3) := by decide +kernel
theorem dX3_move_43 : decode cX3_move 43 = .ok (.iload_n 2, 1) := by decide +kernel
theorem dX3_move_44 : decode cX3_move 44 = .ok (.iconst (-1), 1) := by decide +kernel
theorem dX3_move_45 : decode cX3_move 45 = .ok (.if_icmp .eq 18, 3) := by decide +kernel
theorem dX3_move_48 : decode cX3_move 48 = .ok (.aload_n 0, 1) := by decide +kernel
theorem dX3_move_49 : decode cX3_move 49 = .ok (.getfield 20, 3) := by decide +kernel
theorem dX3_move_52 : decode cX3_move 52 = .ok (.iload_n 1, 1) := by decide +kernel
theorem dX3_move_53 : decode cX3_move 53 = .ok (.iload_n 2, 1) := by decide +kernel
theorem dX3_move_54 : decode cX3_move 54 = .ok (.invokevirtual 92, 3) := by decide +kernel
theorem dX3_move_57 : decode cX3_move 57 = .ok (.ifCond .eq 6, 3) := by decide +kernel
theorem dX3_move_60 : decode cX3_move 60 = .ok (.bipush (-4), 2) := by decide +kernel
theorem dX3_move_62 : decode cX3_move 62 = .ok (.ireturn, 1) := by decide +kernel
theorem dX3_move_63 : decode cX3_move 63 = .ok (.aload_n 0, 1) := by decide +kernel
theorem dX3_move_64 : decode cX3_move 64 = .ok (.getfield 20, 3) := by decide +kernel
theorem dX3_move_67 : decode cX3_move 67 = .ok (.iload_n 1, 1) := by decide +kernel
theorem dX3_move_68 : decode cX3_move 68 = .ok (.invokevirtual 79, 3) := by decide +kernel
theorem dX3_move_71 : decode cX3_move 71 = .ok (.istore 5, 2) := by decide +kernel
theorem dX3_move_73 : decode cX3_move 73 = .ok (.aload_n 0, 1) := by decide +kernel
theorem dX3_move_74 : decode cX3_move 74 = .ok (.getfield 20, 3) := by decide +kernel
theorem dX3_move_77 : decode cX3_move 77 = .ok (.iload_n 1, 1) := by decide +kernel
theorem dX3_move_78 : decode cX3_move 78 = .ok (.invokevirtual 82, 3) := by decide +kernel
theorem dX3_move_81 : decode cX3_move 81 = .ok (.iconst 1, 1) := by decide +kernel
theorem dX3_move_82 : decode cX3_move 82 = .ok (.iadd, 1) := by decide +kernel
theorem dX3_move_83 : decode cX3_move 83 = .ok (.istore 6, 2) := by decide +kernel
theorem dX3_move_85 : decode cX3_move 85 = .ok (.aload_n 0, 1) := by decide +kernel
theorem dX3_move_86 : decode cX3_move 86 = .ok (.iload 4, 2) := by decide +kernel
theorem dX3_move_88 : decode cX3_move 88 = .ok (.iload 5, 2) := by decide +kernel
theorem dX3_move_90 : decode cX3_move 90 = .ok (.iload 6, 2) := by decide +kernel
theorem dX3_move_92 : decode cX3_move 92 = .ok (.iload 4, 2) := by decide +kernel
theorem dX3_move_94 : decode cX3_move 94 = .ok (.iload_n 2, 1) := by decide +kernel
theorem dX3_move_95 : decode cX3_move 95 = .ok (.iload_n 3, 1) := by decide +kernel
theorem dX3_move_96 : decode cX3_move 96 = .ok (.invokestatic 58, 3) := by decide +kernel
theorem dX3_move_99 : decode cX3_move 99 = .ok (.invokevirtual 96, 3) := by decide +kernel
theorem dX3_move_102 : decode cX3_move 102 = .ok (.ireturn, 1) := by decide +kernel
theorem yv_X2_encloses_X3 : YV RX3 92 yX2_encloses cX2_encloses 3 (some .boolean) 2 := ⟨(tw 332 (by decide +kernel) rfl), (tw 2 (by decide +kernel) rfl), (tw 329 (by decide +kernel) rfl), (tw 330 (by decide +kernel) rfl), (tw 331 (by decide +kernel) rfl), by decide +kernel⟩
theorem k_X2_encloses_h_ {p : Program} {l : Launch} {e : Env} {R : Room} {s : State} {m : MethodId} {args : Array Value} {below : List Frame} {meth : Method} {c : Code} {H : Heap} {locs : List Loc} {cells slots : Nat} {Q : State → Prop} {G : GX} {A : Nat → Prop} {ad : Nat → Nat} {u : HS} {cc : ByteArray} {nL pc : Nat} {y : MethodName} {ret : Option FieldType} {ls : Array Slot} {rest : List Value} {x1 : Int32} {x2 : Int32} {z : Int32} (F : FX p m c cc nL s args y ret RX3 meth) (hw : WD G A s (hw_ G ad u) H locs) (h : f_X2_encloses x1 x2 u.2.2.2.2.1 = some z) (hR : rmX2_encloses.frames + 1 ≤ R.frames ∧ 8 + (3 + 11) + rmX2_encloses.locals ≤ R.locals) (hcs : cells ≤ R.cells ∧ slots ≤ R.slots) (hsz : ls.size = nL) (hW : (rest.map fun v => v.category).sum ≤ 8) (hdg : decode cc pc = .ok (.invokevirtual 92, 3)) (kk : W p l e R s m args below meth c H locs cells slots Q (F0 m (pc + 3) ls (.int z :: rest))) : W p l e R s m args below meth c H locs cells slots Q (F0 m pc ls (.int x2 :: .int x1 :: .ref (u.1 0) :: rest)) := callO (runV F yv_X2_encloses_X3 (c_X2_encloses h (ad := u.1)) hw.1 (hw.2.1.sub [3, 4, 5, 6, 7, 8, 9, 10, 11, 12, 13, 14, 15, 16] rfl) (hw.2.2.1.sub [3, 4, 5, 6, 7, 8, 9, 10, 11, 12, 13, 14, 15, 16] (by decide) rfl) rfl rfl rfl ⟨rfl, rfl⟩ hR hcs rfl hsz rfl hW hdg) kk
theorem yv_X3_carry_X3 : YV RX3 96 yX3_carry cX3_carry 10 (some .int) 5 := ⟨(tw 344 (by decide +kernel) rfl), (tw 1 (by decide +kernel) rfl), (tw 341 (by decide +kernel) rfl), (tw 343 (by decide +kernel) rfl), (tp 9 (by decide +kernel) rfl), by decide +kernel⟩
theorem k_X3_carry_h_ {p : Program} {l : Launch} {e : Env} {R : Room} {s : State} {m : MethodId} {args : Array Value} {below : List Frame} {meth : Method} {c : Code} {H : Heap} {locs : List Loc} {cells slots : Nat} {Q : State → Prop} {G : GX} {A : Nat → Prop} {ad : Nat → Nat} {u : HS} {cc : ByteArray} {nL pc : Nat} {y : MethodName} {ret : Option FieldType} {ls : Array Slot} {rest : List Value} {x1 : Int32} {x2 : Int32} {x3 : Int32} {x4 : Int32} {x5 : Int32} {z : Int32 × HS} (F : FX p m c cc nL s args y ret RX3 meth) (hw : WD G A s (hw_ G ad u) H locs) (h : f_X3_carry x1 x2 x3 x4 x5 u = some z) (hR : rmX3_carry.frames + 1 ≤ R.frames ∧ 8 + (10 + 11) + rmX3_carry.locals ≤ R.locals) (hcs : cells ≤ R.cells ∧ slots ≤ R.slots) (hsz : ls.size = nL) (hW : (rest.map fun v => v.category).sum ≤ 8) (hdg : decode cc pc = .ok (.invokevirtual 96, 3)) (kk : ∀ (H : Heap) (locs : List Loc), WD G A s (hw_ G ad z.2) H locs → W p l e R s m args below meth c H locs cells slots Q (F0 m (pc + 3) ls (.int z.1 :: rest))) : W p l e R s m args below meth c H locs cells slots Q (F0 m pc ls (.int x5 :: .int x4 :: .int x3 :: .int x2 :: .int x1 :: .ref (ad 0) :: rest)) := callH (runV F yv_X3_carry_X3 (c_X3_carry h) hw.1 hw.2.1 hw.2.2.1 rfl rfl rfl ⟨rfl, rfl⟩ hR hcs rfl hsz rfl hW hdg) hw.2.2.2 hw.2.2.1.own_in (fun H1 l1 hP hD _ hS => kk H1 l1 ⟨hw.1, hP, hD, hS⟩)
def rmX3_move : Room := { frames := 7, cells := 0, slots := 0, locals := 201 }
noncomputable def f_X3_move_63 (x1 : Int32) (x2 : Int32) (x3 : Int32) (x4 : Int32) (u : HS) : Option (Int32 × HS) := (f_X2_firstPlace x1 u.2.2.2.2.1).bind (fun z14 => (f_X2_lastPlace x1 u.2.2.2.2.1).bind (fun z16 => (f_X3_standOf x2 x3).bind (fun z18 => (f_X3_carry x4 z14 (z16 + 1) x4 z18 u).bind (fun z20 => some (z20.1, z20.2)))))
noncomputable def f_X3_move (x1 : Int32) (x2 : Int32) (x3 : Int32) (u : HS) : Option (Int32 × HS) := (f_X3_isStanding x1 u).bind (fun z1 => (if z1 = 0 then some ((-3), u) else (f_X1_rowOfThing x1 u.2.2.2.2.1.1).bind (fun z4 => (f_X3_isPlace z4 x2 x3 u).bind (fun z6 => (if z6 = 0 then some ((-3), u) else (if x2 = x1 then some ((-4), u) else (if x2 = ((-1) : Int32) then f_X3_move_63 x1 x2 x3 z4 u else (f_X2_encloses x1 x2 u.2.2.2.2.1).bind (fun z11 => (if z11 = 0 then f_X3_move_63 x1 x2 x3 z4 u else some ((-4), u))))))))))
section
variable {p : Program} {l : Launch} {e : Env} {s : State} {m : MethodId} {args : Array Value} {below : List Frame} {meth : Method} {c : Code}
variable {G : GX} {A : Nat → Prop} {ad : Nat → Nat} 
set_option maxHeartbeats 4000000 in
set_option maxRecDepth 100000 in
theorem w_X3_move_63 (F : FX p m c cX3_move 7 s args yX3_move (some .int) RX3 meth) {z : Int32 × HS} : ∀ (x1 : Int32) (x2 : Int32) (x3 : Int32) (x4 : Int32) (u : HS) (H : Heap) (locs : List Loc) (ls : Array Slot), WD G A s (hw_ G ad u) H locs → lv_has ls 7 [(0, .ref (ad 0)), (1, .int x1), (2, .int x2), (3, .int x3), (4, .int x4)] → f_X3_move_63 x1 x2 x3 x4 u = some z → W p l e rmX3_move s m args below meth c H locs 0 0 (MQ below (QH G (hw_ G ad z.2) A (some (.int z.1))) args s 0 0 A) (F0 m 63 ls []) := by
  obtain ⟨⟨hx, hb, hml, hown, hts⟩, hr, hlocks⟩ := id F
  intro x1 x2 x3 x4 u H locs ls hw hl h
  unfold f_X3_move_63 at h
  refine lv_aload_n hx hb dX3_move_63 rfl (lv_at hl 0 rfl) ?_
  refine h_g0_2 F hw dX3_move_64 ?_
  refine lv_iload_n hx hb dX3_move_67 rfl (lv_at hl 1 rfl) ?_
  obtain ⟨z14, e15, h⟩ := bnd h
  refine k_X2_firstPlace_h_ F hw e15 ⟨Nat.le_of_ble_eq_true rfl, Nat.le_of_ble_eq_true rfl⟩ ⟨Nat.zero_le _, Nat.zero_le _⟩ hl.1 (Nat.le_of_ble_eq_true rfl) dX3_move_68 ?_
  refine lv_istore (lv' := [(5, .int z14), (0, .ref (ad 0)), (1, .int x1), (2, .int x2), (3, .int x3), (4, .int x4)]) hx hb dX3_move_71 hl (by decide) rfl (fun ls hl => ?_)
  refine lv_aload_n hx hb dX3_move_73 rfl (lv_at hl 1 rfl) ?_
  refine h_g0_2 F hw dX3_move_74 ?_
  refine lv_iload_n hx hb dX3_move_77 rfl (lv_at hl 2 rfl) ?_
  obtain ⟨z16, e17, h⟩ := bnd h
  refine k_X2_lastPlace_h_ F hw e17 ⟨Nat.le_of_ble_eq_true rfl, Nat.le_of_ble_eq_true rfl⟩ ⟨Nat.zero_le _, Nat.zero_le _⟩ hl.1 (Nat.le_of_ble_eq_true rfl) dX3_move_78 ?_
  refine lv_iconst (v := 1) hx hb dX3_move_81 rfl ?_
  refine lv_iadd hx hb dX3_move_82 ?_
  refine lv_istore (lv' := [(6, .int (z16 + 1)), (5, .int z14), (0, .ref (ad 0)), (1, .int x1), (2, .int x2), (3, .int x3), (4, .int x4)]) hx hb dX3_move_83 hl (by decide) rfl (fun ls hl => ?_)
  refine lv_aload_n hx hb dX3_move_85 rfl (lv_at hl 2 rfl) ?_
  refine lv_iload hx hb dX3_move_86 (lv_at hl 6 rfl) ?_
  refine lv_iload hx hb dX3_move_88 (lv_at hl 1 rfl) ?_
  refine lv_iload hx hb dX3_move_90 (lv_at hl 0 rfl) ?_
  refine lv_iload hx hb dX3_move_92 (lv_at hl 6 rfl) ?_
  refine lv_iload_n hx hb dX3_move_94 rfl (lv_at hl 4 rfl) ?_
  refine lv_iload_n hx hb dX3_move_95 rfl (lv_at hl 5 rfl) ?_
  obtain ⟨z18, e19, h⟩ := bnd h
  refine k_X3_standOf_h_ F hw e19 ⟨Nat.le_of_ble_eq_true rfl, Nat.le_of_ble_eq_true rfl⟩ ⟨Nat.zero_le _, Nat.zero_le _⟩ hl.1 (Nat.le_of_ble_eq_true rfl) dX3_move_96 ?_
  obtain ⟨z20, e21, h⟩ := bnd h
  refine k_X3_carry_h_ F hw e21 ⟨Nat.le_of_ble_eq_true rfl, Nat.le_of_ble_eq_true rfl⟩ ⟨Nat.zero_le _, Nat.zero_le _⟩ hl.1 (Nat.le_of_ble_eq_true rfl) dX3_move_99 (fun H locs hw => ?_)
  cases h
  exact retH_i F hw dX3_move_102
set_option maxHeartbeats 4000000 in
set_option maxRecDepth 100000 in
theorem w_X3_move_0 (F : FX p m c cX3_move 7 s args yX3_move (some .int) RX3 meth) {z : Int32 × HS} : ∀ (x1 : Int32) (x2 : Int32) (x3 : Int32) (u : HS) (H : Heap) (locs : List Loc) (ls : Array Slot), WD G A s (hw_ G ad u) H locs → lv_has ls 7 [(0, .ref (ad 0)), (1, .int x1), (2, .int x2), (3, .int x3)] → f_X3_move x1 x2 x3 u = some z → W p l e rmX3_move s m args below meth c H locs 0 0 (MQ below (QH G (hw_ G ad z.2) A (some (.int z.1))) args s 0 0 A) (F0 m 0 ls []) := by
  obtain ⟨⟨hx, hb, hml, hown, hts⟩, hr, hlocks⟩ := id F
  intro x1 x2 x3 u H locs ls hw hl h
  unfold f_X3_move at h
  refine lv_aload_n hx hb dX3_move_0 rfl (lv_at hl 0 rfl) ?_
  refine lv_iload_n hx hb dX3_move_1 rfl (lv_at hl 1 rfl) ?_
  obtain ⟨z1, e2, h⟩ := bnd h
  refine k_X3_isStanding_h_ F hw e2 ⟨Nat.le_of_ble_eq_true rfl, Nat.le_of_ble_eq_true rfl⟩ ⟨Nat.zero_le _, Nat.zero_le _⟩ hl.1 (Nat.le_of_ble_eq_true rfl) dX3_move_2 ?_
  refine lv_if_ne (tgt := 11) hx hb dX3_move_5 rfl (fun c3 => ?_) (fun c3 => ?_)
  · replace h := itF h c3
    refine lv_aload_n hx hb dX3_move_11 rfl (lv_at hl 0 rfl) ?_
    refine h_g0_2 F hw dX3_move_12 ?_
    refine h_g3_0 F hw dX3_move_15 ?_
    refine lv_iload_n hx hb dX3_move_18 rfl (lv_at hl 1 rfl) ?_
    obtain ⟨z4, e5, h⟩ := bnd h
    refine k_X1_rowOfThing_h_ F hw e5 ⟨Nat.le_of_ble_eq_true rfl, Nat.le_of_ble_eq_true rfl⟩ ⟨Nat.zero_le _, Nat.zero_le _⟩ hl.1 (Nat.le_of_ble_eq_true rfl) dX3_move_19 ?_
    refine lv_istore (lv' := [(4, .int z4), (0, .ref (ad 0)), (1, .int x1), (2, .int x2), (3, .int x3)]) hx hb dX3_move_22 hl (by decide) rfl (fun ls hl => ?_)
    refine lv_aload_n hx hb dX3_move_24 rfl (lv_at hl 1 rfl) ?_
    refine lv_iload hx hb dX3_move_25 (lv_at hl 0 rfl) ?_
    refine lv_iload_n hx hb dX3_move_27 rfl (lv_at hl 3 rfl) ?_
    refine lv_iload_n hx hb dX3_move_28 rfl (lv_at hl 4 rfl) ?_
    obtain ⟨z6, e7, h⟩ := bnd h
    refine k_X3_isPlace_h_ F hw e7 ⟨Nat.le_of_ble_eq_true rfl, Nat.le_of_ble_eq_true rfl⟩ ⟨Nat.zero_le _, Nat.zero_le _⟩ hl.1 (Nat.le_of_ble_eq_true rfl) dX3_move_29 ?_
    refine lv_if_ne (tgt := 38) hx hb dX3_move_32 rfl (fun c8 => ?_) (fun c8 => ?_)
    · replace h := itF h c8
      refine lv_iload_n hx hb dX3_move_38 rfl (lv_at hl 3 rfl) ?_
      refine lv_iload_n hx hb dX3_move_39 rfl (lv_at hl 2 rfl) ?_
      refine lv_icmp_eq (tgt := 60) hx hb dX3_move_40 rfl (fun c9 => ?_) (fun c9 => ?_)
      · replace h := itT h c9
        refine lv_bipush (v := (-4)) hx hb dX3_move_60 rfl ?_
        cases h
        exact retH_i F hw dX3_move_62
      · replace h := itF h c9
        refine lv_iload_n hx hb dX3_move_43 rfl (lv_at hl 3 rfl) ?_
        refine lv_iconst (v := (-1)) hx hb dX3_move_44 rfl ?_
        refine lv_icmp_eq (tgt := 63) hx hb dX3_move_45 rfl (fun c10 => ?_) (fun c10 => ?_)
        · replace h := itT h c10
          exact w_X3_move_63 F _ _ _ _ _ _ _ _ hw (lv_sub hl [1, 2, 3, 4, 0] rfl) h
        · replace h := itF h c10
          refine lv_aload_n hx hb dX3_move_48 rfl (lv_at hl 1 rfl) ?_
          refine h_g0_2 F hw dX3_move_49 ?_
          refine lv_iload_n hx hb dX3_move_52 rfl (lv_at hl 2 rfl) ?_
          refine lv_iload_n hx hb dX3_move_53 rfl (lv_at hl 3 rfl) ?_
          obtain ⟨z11, e12, h⟩ := bnd h
          refine k_X2_encloses_h_ F hw e12 ⟨Nat.le_of_ble_eq_true rfl, Nat.le_of_ble_eq_true rfl⟩ ⟨Nat.zero_le _, Nat.zero_le _⟩ hl.1 (Nat.le_of_ble_eq_true rfl) dX3_move_54 ?_
          refine lv_if_eq (tgt := 63) hx hb dX3_move_57 rfl (fun c13 => ?_) (fun c13 => ?_)
          · replace h := itT h c13
            exact w_X3_move_63 F _ _ _ _ _ _ _ _ hw (lv_sub hl [1, 2, 3, 4, 0] rfl) h
          · replace h := itF h c13
            refine lv_bipush (v := (-4)) hx hb dX3_move_60 rfl ?_
            cases h
            exact retH_i F hw dX3_move_62
    · replace h := itT h c8
      refine lv_bipush (v := (-3)) hx hb dX3_move_35 rfl ?_
      cases h
      exact retH_i F hw dX3_move_37
  · replace h := itT h c3
    refine lv_bipush (v := (-3)) hx hb dX3_move_8 rfl ?_
    cases h
    exact retH_i F hw dX3_move_10
end
theorem c_X3_move {l : Launch} {G : GX} {ad : Nat → Nat} {x1 : Int32} {x2 : Int32} {x3 : Int32} {u : HS} {z : Int32 × HS} (h : f_X3_move x1 x2 x3 u = some z) : MH l yX3_move cX3_move 7 (some .int) rmX3_move G (hw_ G ad u) (hw_ G ad z.2) [.ref (ad 0), .int x1, .int x2, .int x3] (some (.int z.1)) := MH.of (by decide) (Nat.le_of_ble_eq_true rfl) (fun p e s m below meth c ls F hw hl => w_X3_move_0 F _ _ _ _ _ _ _ hw hl h)
/-! ===== X3_join ===== -/
theorem dX3_join_0 : decode cX3_join 0 = .ok (.aload_n 0, 1) := by decide +kernel
theorem dX3_join_1 : decode cX3_join 1 = .ok (.getfield 20, 3) := by decide +kernel
theorem dX3_join_4 : decode cX3_join 4 = .ok (.iload_n 1, 1) := by decide +kernel
theorem dX3_join_5 : decode cX3_join 5 = .ok (.invokevirtual 38, 3) := by decide +kernel
theorem dX3_join_8 : decode cX3_join 8 = .ok (.ifCond .eq 19, 3) := by decide +kernel
theorem dX3_join_11 : decode cX3_join 11 = .ok (.aload_n 0, 1) := by decide +kernel
theorem dX3_join_12 : decode cX3_join 12 = .ok (.getfield 20, 3) := by decide +kernel
theorem dX3_join_15 : decode cX3_join 15 = .ok (.iload_n 2, 1) := by decide +kernel
theorem dX3_join_16 : decode cX3_join 16 = .ok (.invokevirtual 38, 3) := by decide +kernel
theorem dX3_join_19 : decode cX3_join 19 = .ok (.ifCond .eq 8, 3) := by decide +kernel
theorem dX3_join_22 : decode cX3_join 22 = .ok (.iload_n 1, 1) := by decide +kernel
theorem dX3_join_23 : decode cX3_join 23 = .ok (.iload_n 2, 1) := by decide +kernel
theorem dX3_join_24 : decode cX3_join 24 = .ok (.if_icmp .ne 6, 3) := by decide +kernel
theorem dX3_join_27 : decode cX3_join 27 = .ok (.bipush (-3), 2) := by decide +kernel
theorem dX3_join_29 : decode cX3_join 29 = .ok (.ireturn, 1) := by decide +kernel
theorem dX3_join_30 : decode cX3_join 30 = .ok (.aload_n 0, 1) := by decide +kernel
theorem dX3_join_31 : decode cX3_join 31 = .ok (.getfield 20, 3) := by decide +kernel
theorem dX3_join_34 : decode cX3_join 34 = .ok (.getfield 44, 3) := by decide +kernel
theorem dX3_join_37 : decode cX3_join 37 = .ok (.iload_n 1, 1) := by decide +kernel
theorem dX3_join_38 : decode cX3_join 38 = .ok (.iaload, 1) := by decide +kernel
theorem dX3_join_39 : decode cX3_join 39 = .ok (.aload_n 0, 1) := by decide +kernel
theorem dX3_join_40 : decode cX3_join 40 = .ok (.getfield 20, 3) := by decide +kernel
theorem dX3_join_43 : decode cX3_join 43 = .ok (.getfield 44, 3) := by decide +kernel
theorem dX3_join_46 : decode cX3_join 46 = .ok (.iload_n 2, 1) := by decide +kernel
theorem dX3_join_47 : decode cX3_join 47 = .ok (.iaload, 1) := by decide +kernel
theorem dX3_join_48 : decode cX3_join 48 = .ok (.if_icmp .eq 6, 3) := by decide +kernel
theorem dX3_join_51 : decode cX3_join 51 = .ok (.bipush (-4), 2) := by decide +kernel
theorem dX3_join_53 : decode cX3_join 53 = .ok (.ireturn, 1) := by decide +kernel
theorem dX3_join_54 : decode cX3_join 54 = .ok (.aload_n 0, 1) := by decide +kernel
theorem dX3_join_55 : decode cX3_join 55 = .ok (.iload_n 1, 1) := by decide +kernel
theorem dX3_join_56 : decode cX3_join 56 = .ok (.aload_n 0, 1) := by decide +kernel
theorem dX3_join_57 : decode cX3_join 57 = .ok (.getfield 20, 3) := by decide +kernel
theorem dX3_join_60 : decode cX3_join 60 = .ok (.getfield 69, 3) := by decide +kernel
theorem dX3_join_63 : decode cX3_join 63 = .ok (.iload_n 1, 1) := by decide +kernel
theorem dX3_join_64 : decode cX3_join 64 = .ok (.invokevirtual 100, 3) := by decide +kernel
theorem dX3_join_67 : decode cX3_join 67 = .ok (.aload_n 0, 1) := by decide +kernel
theorem dX3_join_68 : decode cX3_join 68 = .ok (.getfield 20, 3) := by decide +kernel
theorem dX3_join_71 : decode cX3_join 71 = .ok (.getfield 69, 3) := by decide +kernel
theorem dX3_join_74 : decode cX3_join 74 = .ok (.iload_n 1, 1) := by decide +kernel
theorem dX3_join_75 : decode cX3_join 75 = .ok (.invokevirtual 103, 3) := by decide +kernel
theorem dX3_join_78 : decode cX3_join 78 = .ok (.iload_n 2, 1) := by decide +kernel
theorem dX3_join_79 : decode cX3_join 79 = .ok (.aload_n 0, 1) := by decide +kernel
theorem dX3_join_80 : decode cX3_join 80 = .ok (.getfield 20, 3) := by decide +kernel
theorem dX3_join_83 : decode cX3_join 83 = .ok (.getfield 69, 3) := by decide +kernel
theorem dX3_join_86 : decode cX3_join 86 = .ok (.iload_n 2, 1) := by decide +kernel
theorem dX3_join_87 : decode cX3_join 87 = .ok (.invokevirtual 106, 3) := by decide +kernel
theorem dX3_join_90 : decode cX3_join 90 = .ok (.invokevirtual 96, 3) := by decide +kernel
theorem dX3_join_93 : decode cX3_join 93 = .ok (.ireturn, 1) := by decide +kernel
theorem yv_X1_first_X3 : YV RX3 100 yX1_first cX1_first 2 (some .int) 1 := ⟨(tw 206 (by decide +kernel) rfl), (tw 3 (by decide +kernel) rfl), (tw 349 (by decide +kernel) rfl), (tw 204 (by decide +kernel) rfl), (tw 205 (by decide +kernel) rfl), by decide +kernel⟩
theorem k_X1_first_h_ {p : Program} {l : Launch} {e : Env} {R : Room} {s : State} {m : MethodId} {args : Array Value} {below : List Frame} {meth : Method} {c : Code} {H : Heap} {locs : List Loc} {cells slots : Nat} {Q : State → Prop} {G : GX} {A : Nat → Prop} {ad : Nat → Nat} {u : HS} {cc : ByteArray} {nL pc : Nat} {y : MethodName} {ret : Option FieldType} {ls : Array Slot} {rest : List Value} {x1 : Int32} {z : Int32} (F : FX p m c cc nL s args y ret RX3 meth) (hw : WD G A s (hw_ G ad u) H locs) (h : f_X1_first x1 u.2.2.2.2.1.1 = some z) (hR : rmX1_first.frames + 1 ≤ R.frames ∧ 8 + (2 + 11) + rmX1_first.locals ≤ R.locals) (hcs : cells ≤ R.cells ∧ slots ≤ R.slots) (hsz : ls.size = nL) (hW : (rest.map fun v => v.category).sum ≤ 8) (hdg : decode cc pc = .ok (.invokevirtual 100, 3)) (kk : W p l e R s m args below meth c H locs cells slots Q (F0 m (pc + 3) ls (.int z :: rest))) : W p l e R s m args below meth c H locs cells slots Q (F0 m pc ls (.int x1 :: .ref (u.1 1) :: rest)) := callO (runV F yv_X1_first_X3 (c_X1_first h (ad := (fun k => u.1 (k + 1)))) hw.1 (hw.2.1.sub [4, 5, 6, 7] rfl) (hw.2.2.1.sub [4, 5, 6, 7] (by decide) rfl) rfl rfl rfl ⟨rfl, rfl⟩ hR hcs rfl hsz rfl hW hdg) kk
theorem yv_X1_end_X3 : YV RX3 103 yX1_end cX1_end 2 (some .int) 1 := ⟨(tw 219 (by decide +kernel) rfl), (tw 3 (by decide +kernel) rfl), (tw 350 (by decide +kernel) rfl), (tw 217 (by decide +kernel) rfl), (tw 218 (by decide +kernel) rfl), by decide +kernel⟩
theorem k_X1_end_h_ {p : Program} {l : Launch} {e : Env} {R : Room} {s : State} {m : MethodId} {args : Array Value} {below : List Frame} {meth : Method} {c : Code} {H : Heap} {locs : List Loc} {cells slots : Nat} {Q : State → Prop} {G : GX} {A : Nat → Prop} {ad : Nat → Nat} {u : HS} {cc : ByteArray} {nL pc : Nat} {y : MethodName} {ret : Option FieldType} {ls : Array Slot} {rest : List Value} {x1 : Int32} {z : Int32} (F : FX p m c cc nL s args y ret RX3 meth) (hw : WD G A s (hw_ G ad u) H locs) (h : f_X1_end x1 u.2.2.2.2.1.1 = some z) (hR : rmX1_end.frames + 1 ≤ R.frames ∧ 8 + (2 + 11) + rmX1_end.locals ≤ R.locals) (hcs : cells ≤ R.cells ∧ slots ≤ R.slots) (hsz : ls.size = nL) (hW : (rest.map fun v => v.category).sum ≤ 8) (hdg : decode cc pc = .ok (.invokevirtual 103, 3)) (kk : W p l e R s m args below meth c H locs cells slots Q (F0 m (pc + 3) ls (.int z :: rest))) : W p l e R s m args below meth c H locs cells slots Q (F0 m pc ls (.int x1 :: .ref (u.1 1) :: rest)) := callO (runV F yv_X1_end_X3 (c_X1_end h (ad := (fun k => u.1 (k + 1)))) hw.1 (hw.2.1.sub [4, 5, 6, 7] rfl) (hw.2.2.1.sub [4, 5, 6, 7] (by decide) rfl) rfl rfl rfl ⟨rfl, rfl⟩ hR hcs rfl hsz rfl hW hdg) kk
theorem yv_X1_lastStand_X3 : YV RX3 106 yX1_lastStand cX1_lastStand 2 (some .int) 1 := ⟨(tw 354 (by decide +kernel) rfl), (tw 3 (by decide +kernel) rfl), (tw 351 (by decide +kernel) rfl), (tw 352 (by decide +kernel) rfl), (tw 353 (by decide +kernel) rfl), by decide +kernel⟩
theorem k_X1_lastStand_h_ {p : Program} {l : Launch} {e : Env} {R : Room} {s : State} {m : MethodId} {args : Array Value} {below : List Frame} {meth : Method} {c : Code} {H : Heap} {locs : List Loc} {cells slots : Nat} {Q : State → Prop} {G : GX} {A : Nat → Prop} {ad : Nat → Nat} {u : HS} {cc : ByteArray} {nL pc : Nat} {y : MethodName} {ret : Option FieldType} {ls : Array Slot} {rest : List Value} {x1 : Int32} {z : Int32} (F : FX p m c cc nL s args y ret RX3 meth) (hw : WD G A s (hw_ G ad u) H locs) (h : f_X1_lastStand x1 u.2.2.2.2.1.1 = some z) (hR : rmX1_lastStand.frames + 1 ≤ R.frames ∧ 8 + (2 + 11) + rmX1_lastStand.locals ≤ R.locals) (hcs : cells ≤ R.cells ∧ slots ≤ R.slots) (hsz : ls.size = nL) (hW : (rest.map fun v => v.category).sum ≤ 8) (hdg : decode cc pc = .ok (.invokevirtual 106, 3)) (kk : W p l e R s m args below meth c H locs cells slots Q (F0 m (pc + 3) ls (.int z :: rest))) : W p l e R s m args below meth c H locs cells slots Q (F0 m pc ls (.int x1 :: .ref (u.1 1) :: rest)) := callO (runV F yv_X1_lastStand_X3 (c_X1_lastStand h (ad := (fun k => u.1 (k + 1)))) hw.1 (hw.2.1.sub [4, 5, 6, 7] rfl) (hw.2.2.1.sub [4, 5, 6, 7] (by decide) rfl) rfl rfl rfl ⟨rfl, rfl⟩ hR hcs rfl hsz rfl hW hdg) kk
def rmX3_join : Room := { frames := 7, cells := 0, slots := 0, locals := 201 }
noncomputable def f_X3_join (x1 : Int32) (x2 : Int32) (u : HS) : Option (Int32 × HS) := (f_X2_isRow x1 u.2.2.2.2.1).bind (fun z1 => (if z1 = 0 then some ((-3), u) else (f_X2_isRow x2 u.2.2.2.2.1).bind (fun z4 => (if z4 = 0 then some ((-3), u) else (if x1 = x2 then some ((-3), u) else (if ix x1 8 = true then (if ix x2 8 = true then (if ((u.2.2.2.2.1.2.2.1 2) (Int32.toNatClampNeg x1)) = ((u.2.2.2.2.1.2.2.1 2) (Int32.toNatClampNeg x2)) then (f_X1_first x1 u.2.2.2.2.1.1).bind (fun z11 => (f_X1_end x1 u.2.2.2.2.1.1).bind (fun z13 => (f_X1_lastStand x2 u.2.2.2.2.1.1).bind (fun z15 => (f_X3_carry x1 z11 z13 x2 z15 u).bind (fun z17 => some (z17.1, z17.2))))) else some ((-4), u)) else none) else none))))))
section
variable {p : Program} {l : Launch} {e : Env} {s : State} {m : MethodId} {args : Array Value} {below : List Frame} {meth : Method} {c : Code}
variable {G : GX} {A : Nat → Prop} {ad : Nat → Nat} 
set_option maxHeartbeats 4000000 in
set_option maxRecDepth 100000 in
theorem w_X3_join_0 (F : FX p m c cX3_join 3 s args yX3_join (some .int) RX3 meth) {z : Int32 × HS} : ∀ (x1 : Int32) (x2 : Int32) (u : HS) (H : Heap) (locs : List Loc) (ls : Array Slot), WD G A s (hw_ G ad u) H locs → lv_has ls 3 [(0, .ref (ad 0)), (1, .int x1), (2, .int x2)] → f_X3_join x1 x2 u = some z → W p l e rmX3_join s m args below meth c H locs 0 0 (MQ below (QH G (hw_ G ad z.2) A (some (.int z.1))) args s 0 0 A) (F0 m 0 ls []) := by
  obtain ⟨⟨hx, hb, hml, hown, hts⟩, hr, hlocks⟩ := id F
  intro x1 x2 u H locs ls hw hl h
  unfold f_X3_join at h
  refine lv_aload_n hx hb dX3_join_0 rfl (lv_at hl 0 rfl) ?_
  refine h_g0_2 F hw dX3_join_1 ?_
  refine lv_iload_n hx hb dX3_join_4 rfl (lv_at hl 1 rfl) ?_
  obtain ⟨z1, e2, h⟩ := bnd h
  refine k_X2_isRow_h_ F hw e2 ⟨Nat.le_of_ble_eq_true rfl, Nat.le_of_ble_eq_true rfl⟩ ⟨Nat.zero_le _, Nat.zero_le _⟩ hl.1 (Nat.le_of_ble_eq_true rfl) dX3_join_5 ?_
  refine lv_if_eq (tgt := 27) hx hb dX3_join_8 rfl (fun c3 => ?_) (fun c3 => ?_)
  · replace h := itT h c3
    refine lv_bipush (v := (-3)) hx hb dX3_join_27 rfl ?_
    cases h
    exact retH_i F hw dX3_join_29
  · replace h := itF h c3
    refine lv_aload_n hx hb dX3_join_11 rfl (lv_at hl 0 rfl) ?_
    refine h_g0_2 F hw dX3_join_12 ?_
    refine lv_iload_n hx hb dX3_join_15 rfl (lv_at hl 2 rfl) ?_
    obtain ⟨z4, e5, h⟩ := bnd h
    refine k_X2_isRow_h_ F hw e5 ⟨Nat.le_of_ble_eq_true rfl, Nat.le_of_ble_eq_true rfl⟩ ⟨Nat.zero_le _, Nat.zero_le _⟩ hl.1 (Nat.le_of_ble_eq_true rfl) dX3_join_16 ?_
    refine lv_if_eq (tgt := 27) hx hb dX3_join_19 rfl (fun c6 => ?_) (fun c6 => ?_)
    · replace h := itT h c6
      refine lv_bipush (v := (-3)) hx hb dX3_join_27 rfl ?_
      cases h
      exact retH_i F hw dX3_join_29
    · replace h := itF h c6
      refine lv_iload_n hx hb dX3_join_22 rfl (lv_at hl 1 rfl) ?_
      refine lv_iload_n hx hb dX3_join_23 rfl (lv_at hl 2 rfl) ?_
      refine lv_icmp_ne (tgt := 30) hx hb dX3_join_24 rfl (fun c7 => ?_) (fun c7 => ?_)
      · replace h := itF h c7
        refine lv_aload_n hx hb dX3_join_30 rfl (lv_at hl 0 rfl) ?_
        refine h_g0_2 F hw dX3_join_31 ?_
        refine h_g3_2 F hw dX3_join_34 ?_
        refine lv_iload_n hx hb dX3_join_37 rfl (lv_at hl 1 rfl) ?_
        obtain ⟨g8, h⟩ := gd h
        refine h_l12 F hw g8 dX3_join_38 ?_
        refine lv_aload_n hx hb dX3_join_39 rfl (lv_at hl 0 rfl) ?_
        refine h_g0_2 F hw dX3_join_40 ?_
        refine h_g3_2 F hw dX3_join_43 ?_
        refine lv_iload_n hx hb dX3_join_46 rfl (lv_at hl 2 rfl) ?_
        obtain ⟨g9, h⟩ := gd h
        refine h_l12 F hw g9 dX3_join_47 ?_
        refine lv_icmp_eq (tgt := 54) hx hb dX3_join_48 rfl (fun c10 => ?_) (fun c10 => ?_)
        · replace h := itT h c10
          refine lv_aload_n hx hb dX3_join_54 rfl (lv_at hl 0 rfl) ?_
          refine lv_iload_n hx hb dX3_join_55 rfl (lv_at hl 1 rfl) ?_
          refine lv_aload_n hx hb dX3_join_56 rfl (lv_at hl 0 rfl) ?_
          refine h_g0_2 F hw dX3_join_57 ?_
          refine h_g3_0 F hw dX3_join_60 ?_
          refine lv_iload_n hx hb dX3_join_63 rfl (lv_at hl 1 rfl) ?_
          obtain ⟨z11, e12, h⟩ := bnd h
          refine k_X1_first_h_ F hw e12 ⟨Nat.le_of_ble_eq_true rfl, Nat.le_of_ble_eq_true rfl⟩ ⟨Nat.zero_le _, Nat.zero_le _⟩ hl.1 (Nat.le_of_ble_eq_true rfl) dX3_join_64 ?_
          refine lv_aload_n hx hb dX3_join_67 rfl (lv_at hl 0 rfl) ?_
          refine h_g0_2 F hw dX3_join_68 ?_
          refine h_g3_0 F hw dX3_join_71 ?_
          refine lv_iload_n hx hb dX3_join_74 rfl (lv_at hl 1 rfl) ?_
          obtain ⟨z13, e14, h⟩ := bnd h
          refine k_X1_end_h_ F hw e14 ⟨Nat.le_of_ble_eq_true rfl, Nat.le_of_ble_eq_true rfl⟩ ⟨Nat.zero_le _, Nat.zero_le _⟩ hl.1 (Nat.le_of_ble_eq_true rfl) dX3_join_75 ?_
          refine lv_iload_n hx hb dX3_join_78 rfl (lv_at hl 2 rfl) ?_
          refine lv_aload_n hx hb dX3_join_79 rfl (lv_at hl 0 rfl) ?_
          refine h_g0_2 F hw dX3_join_80 ?_
          refine h_g3_0 F hw dX3_join_83 ?_
          refine lv_iload_n hx hb dX3_join_86 rfl (lv_at hl 2 rfl) ?_
          obtain ⟨z15, e16, h⟩ := bnd h
          refine k_X1_lastStand_h_ F hw e16 ⟨Nat.le_of_ble_eq_true rfl, Nat.le_of_ble_eq_true rfl⟩ ⟨Nat.zero_le _, Nat.zero_le _⟩ hl.1 (Nat.le_of_ble_eq_true rfl) dX3_join_87 ?_
          obtain ⟨z17, e18, h⟩ := bnd h
          refine k_X3_carry_h_ F hw e18 ⟨Nat.le_of_ble_eq_true rfl, Nat.le_of_ble_eq_true rfl⟩ ⟨Nat.zero_le _, Nat.zero_le _⟩ hl.1 (Nat.le_of_ble_eq_true rfl) dX3_join_90 (fun H locs hw => ?_)
          cases h
          exact retH_i F hw dX3_join_93
        · replace h := itF h c10
          refine lv_bipush (v := (-4)) hx hb dX3_join_51 rfl ?_
          cases h
          exact retH_i F hw dX3_join_53
      · replace h := itT h c7
        refine lv_bipush (v := (-3)) hx hb dX3_join_27 rfl ?_
        cases h
        exact retH_i F hw dX3_join_29
end
theorem c_X3_join {l : Launch} {G : GX} {ad : Nat → Nat} {x1 : Int32} {x2 : Int32} {u : HS} {z : Int32 × HS} (h : f_X3_join x1 x2 u = some z) : MH l yX3_join cX3_join 3 (some .int) rmX3_join G (hw_ G ad u) (hw_ G ad z.2) [.ref (ad 0), .int x1, .int x2] (some (.int z.1)) := MH.of (by decide) (Nat.le_of_ble_eq_true rfl) (fun p e s m below meth c ls F hw hl => w_X3_join_0 F _ _ _ _ _ _ hw hl h)
/-! ===== X3_split ===== -/
theorem dX3_split_0 : decode cX3_split 0 = .ok (.aload_n 0, 1) := by decide +kernel
theorem dX3_split_1 : decode cX3_split 1 = .ok (.iload_n 1, 1) := by decide +kernel
theorem dX3_split_2 : decode cX3_split 2 = .ok (.invokevirtual 66, 3) := by decide +kernel
theorem dX3_split_5 : decode cX3_split 5 = .ok (.ifCond .eq 14, 3) := by decide +kernel
theorem dX3_split_8 : decode cX3_split 8 = .ok (.aload_n 0, 1) := by decide +kernel
theorem dX3_split_9 : decode cX3_split 9 = .ok (.getfield 20, 3) := by decide +kernel
theorem dX3_split_12 : decode cX3_split 12 = .ok (.iload_n 2, 1) := by decide +kernel
theorem dX3_split_13 : decode cX3_split 13 = .ok (.invokevirtual 38, 3) := by decide +kernel
theorem dX3_split_16 : decode cX3_split 16 = .ok (.ifCond .ne 6, 3) := by decide +kernel
theorem dX3_split_19 : decode cX3_split 19 = .ok (.bipush (-3), 2) := by decide +kernel
theorem dX3_split_21 : decode cX3_split 21 = .ok (.ireturn, 1) := by decide +kernel
theorem dX3_split_22 : decode cX3_split 22 = .ok (.aload_n 0, 1) := by decide +kernel
theorem dX3_split_23 : decode cX3_split 23 = .ok (.getfield 20, 3) := by decide +kernel
theorem dX3_split_26 : decode cX3_split 26 = .ok (.getfield 69, 3) := by decide +kernel
theorem dX3_split_29 : decode cX3_split 29 = .ok (.iload_n 1, 1) := by decide +kernel
theorem dX3_split_30 : decode cX3_split 30 = .ok (.invokevirtual 73, 3) := by decide +kernel
theorem dX3_split_33 : decode cX3_split 33 = .ok (.istore_n 3, 1) := by decide +kernel
theorem dX3_split_34 : decode cX3_split 34 = .ok (.iload_n 3, 1) := by decide +kernel
theorem dX3_split_35 : decode cX3_split 35 = .ok (.iload_n 2, 1) := by decide +kernel
theorem dX3_split_36 : decode cX3_split 36 = .ok (.if_icmp .ne 6, 3) := by decide +kernel
theorem dX3_split_39 : decode cX3_split 39 = .ok (.bipush (-3), 2) := by decide +kernel
theorem dX3_split_41 : decode cX3_split 41 = .ok (.ireturn, 1) := by decide +kernel
theorem dX3_split_42 : decode cX3_split 42 = .ok (.aload_n 0, 1) := by decide +kernel
theorem dX3_split_43 : decode cX3_split 43 = .ok (.getfield 20, 3) := by decide +kernel
theorem dX3_split_46 : decode cX3_split 46 = .ok (.getfield 44, 3) := by decide +kernel
theorem dX3_split_49 : decode cX3_split 49 = .ok (.iload_n 3, 1) := by decide +kernel
theorem dX3_split_50 : decode cX3_split 50 = .ok (.iaload, 1) := by decide +kernel
theorem dX3_split_51 : decode cX3_split 51 = .ok (.aload_n 0, 1) := by decide +kernel
theorem dX3_split_52 : decode cX3_split 52 = .ok (.getfield 20, 3) := by decide +kernel
theorem dX3_split_55 : decode cX3_split 55 = .ok (.getfield 44, 3) := by decide +kernel
theorem dX3_split_58 : decode cX3_split 58 = .ok (.iload_n 2, 1) := by decide +kernel
theorem dX3_split_59 : decode cX3_split 59 = .ok (.iaload, 1) := by decide +kernel
theorem dX3_split_60 : decode cX3_split 60 = .ok (.if_icmp .ne 16, 3) := by decide +kernel
theorem dX3_split_63 : decode cX3_split 63 = .ok (.aload_n 0, 1) := by decide +kernel
theorem dX3_split_64 : decode cX3_split 64 = .ok (.getfield 20, 3) := by decide +kernel
theorem dX3_split_67 : decode cX3_split 67 = .ok (.iload_n 1, 1) := by decide +kernel
theorem dX3_split_68 : decode cX3_split 68 = .ok (.iload_n 1, 1) := by decide +kernel
theorem dX3_split_69 : decode cX3_split 69 = .ok (.invokevirtual 109, 3) := by decide +kernel
theorem dX3_split_72 : decode cX3_split 72 = .ok (.iconst (-1), 1) := by decide +kernel
theorem dX3_split_73 : decode cX3_split 73 = .ok (.if_icmp .eq 6, 3) := by decide +kernel
theorem dX3_split_76 : decode cX3_split 76 = .ok (.bipush (-4), 2) := by decide +kernel
theorem dX3_split_78 : decode cX3_split 78 = .ok (.ireturn, 1) := by decide +kernel
theorem dX3_split_79 : decode cX3_split 79 = .ok (.aload_n 0, 1) := by decide +kernel
theorem dX3_split_80 : decode cX3_split 80 = .ok (.iload_n 3, 1) := by decide +kernel
theorem dX3_split_81 : decode cX3_split 81 = .ok (.aload_n 0, 1) := by decide +kernel
theorem dX3_split_82 : decode cX3_split 82 = .ok (.getfield 20, 3) := by decide +kernel
theorem dX3_split_85 : decode cX3_split 85 = .ok (.iload_n 1, 1) := by decide +kernel
theorem dX3_split_86 : decode cX3_split 86 = .ok (.invokevirtual 82, 3) := by decide +kernel
theorem dX3_split_89 : decode cX3_split 89 = .ok (.iconst 1, 1) := by decide +kernel
theorem dX3_split_90 : decode cX3_split 90 = .ok (.iadd, 1) := by decide +kernel
theorem dX3_split_91 : decode cX3_split 91 = .ok (.aload_n 0, 1) := by decide +kernel
theorem dX3_split_92 : decode cX3_split 92 = .ok (.getfield 20, 3) := by decide +kernel
theorem dX3_split_95 : decode cX3_split 95 = .ok (.getfield 69, 3) := by decide +kernel
theorem dX3_split_98 : decode cX3_split 98 = .ok (.iload_n 3, 1) := by decide +kernel
theorem dX3_split_99 : decode cX3_split 99 = .ok (.invokevirtual 103, 3) := by decide +kernel
theorem dX3_split_102 : decode cX3_split 102 = .ok (.iload_n 2, 1) := by decide +kernel
theorem dX3_split_103 : decode cX3_split 103 = .ok (.aload_n 0, 1) := by decide +kernel
theorem dX3_split_104 : decode cX3_split 104 = .ok (.getfield 20, 3) := by decide +kernel
theorem dX3_split_107 : decode cX3_split 107 = .ok (.getfield 69, 3) := by decide +kernel
theorem dX3_split_110 : decode cX3_split 110 = .ok (.iload_n 2, 1) := by decide +kernel
theorem dX3_split_111 : decode cX3_split 111 = .ok (.invokevirtual 106, 3) := by decide +kernel
theorem dX3_split_114 : decode cX3_split 114 = .ok (.invokevirtual 96, 3) := by decide +kernel
theorem dX3_split_117 : decode cX3_split 117 = .ok (.ireturn, 1) := by decide +kernel
theorem yv_X2_innermost_X3 : YV RX3 109 yX2_innermost cX2_innermost 6 (some .int) 2 := ⟨(tw 364 (by decide +kernel) rfl), (tw 2 (by decide +kernel) rfl), (tw 361 (by decide +kernel) rfl), (tw 362 (by decide +kernel) rfl), (tw 363 (by decide +kernel) rfl), by decide +kernel⟩
theorem k_X2_innermost_h_ {p : Program} {l : Launch} {e : Env} {R : Room} {s : State} {m : MethodId} {args : Array Value} {below : List Frame} {meth : Method} {c : Code} {H : Heap} {locs : List Loc} {cells slots : Nat} {Q : State → Prop} {G : GX} {A : Nat → Prop} {ad : Nat → Nat} {u : HS} {cc : ByteArray} {nL pc : Nat} {y : MethodName} {ret : Option FieldType} {ls : Array Slot} {rest : List Value} {x1 : Int32} {x2 : Int32} {z : Int32} (F : FX p m c cc nL s args y ret RX3 meth) (hw : WD G A s (hw_ G ad u) H locs) (h : f_X2_innermost x1 x2 u.2.2.2.2.1 = some z) (hR : rmX2_innermost.frames + 1 ≤ R.frames ∧ 8 + (6 + 11) + rmX2_innermost.locals ≤ R.locals) (hcs : cells ≤ R.cells ∧ slots ≤ R.slots) (hsz : ls.size = nL) (hW : (rest.map fun v => v.category).sum ≤ 8) (hdg : decode cc pc = .ok (.invokevirtual 109, 3)) (kk : W p l e R s m args below meth c H locs cells slots Q (F0 m (pc + 3) ls (.int z :: rest))) : W p l e R s m args below meth c H locs cells slots Q (F0 m pc ls (.int x2 :: .int x1 :: .ref (u.1 0) :: rest)) := callO (runV F yv_X2_innermost_X3 (c_X2_innermost h (ad := u.1)) hw.1 (hw.2.1.sub [3, 4, 5, 6, 7, 8, 9, 10, 11, 12, 13, 14, 15, 16] rfl) (hw.2.2.1.sub [3, 4, 5, 6, 7, 8, 9, 10, 11, 12, 13, 14, 15, 16] (by decide) rfl) rfl rfl rfl ⟨rfl, rfl⟩ hR hcs rfl hsz rfl hW hdg) kk
def rmX3_split : Room := { frames := 7, cells := 0, slots := 0, locals := 201 }
noncomputable def f_X3_split (x1 : Int32) (x2 : Int32) (u : HS) : Option (Int32 × HS) := (f_X3_isStanding x1 u).bind (fun z1 => (if z1 = 0 then some ((-3), u) else (f_X2_isRow x2 u.2.2.2.2.1).bind (fun z4 => (if z4 = 0 then some ((-3), u) else (f_X1_rowOfThing x1 u.2.2.2.2.1.1).bind (fun z7 => (if z7 = x2 then some ((-3), u) else (if ix z7 8 = true then (if ix x2 8 = true then (if ((u.2.2.2.2.1.2.2.1 2) (Int32.toNatClampNeg z7)) = ((u.2.2.2.2.1.2.2.1 2) (Int32.toNatClampNeg x2)) then (f_X2_innermost x1 x1 u.2.2.2.2.1).bind (fun z13 => (if z13 = ((-1) : Int32) then (f_X2_lastPlace x1 u.2.2.2.2.1).bind (fun z16 => (f_X1_end z7 u.2.2.2.2.1.1).bind (fun z18 => (f_X1_lastStand x2 u.2.2.2.2.1.1).bind (fun z20 => (f_X3_carry z7 (z16 + 1) z18 x2 z20 u).bind (fun z22 => some (z22.1, z22.2))))) else some ((-4), u))) else some ((-4), u)) else none) else none)))))))
section
variable {p : Program} {l : Launch} {e : Env} {s : State} {m : MethodId} {args : Array Value} {below : List Frame} {meth : Method} {c : Code}
variable {G : GX} {A : Nat → Prop} {ad : Nat → Nat} 
set_option maxHeartbeats 4000000 in
set_option maxRecDepth 100000 in
theorem w_X3_split_0 (F : FX p m c cX3_split 4 s args yX3_split (some .int) RX3 meth) {z : Int32 × HS} : ∀ (x1 : Int32) (x2 : Int32) (u : HS) (H : Heap) (locs : List Loc) (ls : Array Slot), WD G A s (hw_ G ad u) H locs → lv_has ls 4 [(0, .ref (ad 0)), (1, .int x1), (2, .int x2)] → f_X3_split x1 x2 u = some z → W p l e rmX3_split s m args below meth c H locs 0 0 (MQ below (QH G (hw_ G ad z.2) A (some (.int z.1))) args s 0 0 A) (F0 m 0 ls []) := by
  obtain ⟨⟨hx, hb, hml, hown, hts⟩, hr, hlocks⟩ := id F
  intro x1 x2 u H locs ls hw hl h
  unfold f_X3_split at h
  refine lv_aload_n hx hb dX3_split_0 rfl (lv_at hl 0 rfl) ?_
  refine lv_iload_n hx hb dX3_split_1 rfl (lv_at hl 1 rfl) ?_
  obtain ⟨z1, e2, h⟩ := bnd h
  refine k_X3_isStanding_h_ F hw e2 ⟨Nat.le_of_ble_eq_true rfl, Nat.le_of_ble_eq_true rfl⟩ ⟨Nat.zero_le _, Nat.zero_le _⟩ hl.1 (Nat.le_of_ble_eq_true rfl) dX3_split_2 ?_
  refine lv_if_eq (tgt := 19) hx hb dX3_split_5 rfl (fun c3 => ?_) (fun c3 => ?_)
  · replace h := itT h c3
    refine lv_bipush (v := (-3)) hx hb dX3_split_19 rfl ?_
    cases h
    exact retH_i F hw dX3_split_21
  · replace h := itF h c3
    refine lv_aload_n hx hb dX3_split_8 rfl (lv_at hl 0 rfl) ?_
    refine h_g0_2 F hw dX3_split_9 ?_
    refine lv_iload_n hx hb dX3_split_12 rfl (lv_at hl 2 rfl) ?_
    obtain ⟨z4, e5, h⟩ := bnd h
    refine k_X2_isRow_h_ F hw e5 ⟨Nat.le_of_ble_eq_true rfl, Nat.le_of_ble_eq_true rfl⟩ ⟨Nat.zero_le _, Nat.zero_le _⟩ hl.1 (Nat.le_of_ble_eq_true rfl) dX3_split_13 ?_
    refine lv_if_ne (tgt := 22) hx hb dX3_split_16 rfl (fun c6 => ?_) (fun c6 => ?_)
    · replace h := itF h c6
      refine lv_aload_n hx hb dX3_split_22 rfl (lv_at hl 0 rfl) ?_
      refine h_g0_2 F hw dX3_split_23 ?_
      refine h_g3_0 F hw dX3_split_26 ?_
      refine lv_iload_n hx hb dX3_split_29 rfl (lv_at hl 1 rfl) ?_
      obtain ⟨z7, e8, h⟩ := bnd h
      refine k_X1_rowOfThing_h_ F hw e8 ⟨Nat.le_of_ble_eq_true rfl, Nat.le_of_ble_eq_true rfl⟩ ⟨Nat.zero_le _, Nat.zero_le _⟩ hl.1 (Nat.le_of_ble_eq_true rfl) dX3_split_30 ?_
      refine lv_istore_n (lv' := [(3, .int z7), (0, .ref (ad 0)), (1, .int x1), (2, .int x2)]) hx hb dX3_split_33 rfl hl (by decide) rfl (fun ls hl => ?_)
      refine lv_iload_n hx hb dX3_split_34 rfl (lv_at hl 0 rfl) ?_
      refine lv_iload_n hx hb dX3_split_35 rfl (lv_at hl 3 rfl) ?_
      refine lv_icmp_ne (tgt := 42) hx hb dX3_split_36 rfl (fun c9 => ?_) (fun c9 => ?_)
      · replace h := itF h c9
        refine lv_aload_n hx hb dX3_split_42 rfl (lv_at hl 1 rfl) ?_
        refine h_g0_2 F hw dX3_split_43 ?_
        refine h_g3_2 F hw dX3_split_46 ?_
        refine lv_iload_n hx hb dX3_split_49 rfl (lv_at hl 0 rfl) ?_
        obtain ⟨g10, h⟩ := gd h
        refine h_l12 F hw g10 dX3_split_50 ?_
        refine lv_aload_n hx hb dX3_split_51 rfl (lv_at hl 1 rfl) ?_
        refine h_g0_2 F hw dX3_split_52 ?_
        refine h_g3_2 F hw dX3_split_55 ?_
        refine lv_iload_n hx hb dX3_split_58 rfl (lv_at hl 3 rfl) ?_
        obtain ⟨g11, h⟩ := gd h
        refine h_l12 F hw g11 dX3_split_59 ?_
        refine lv_icmp_ne (tgt := 76) hx hb dX3_split_60 rfl (fun c12 => ?_) (fun c12 => ?_)
        · replace h := itF h c12
          refine lv_bipush (v := (-4)) hx hb dX3_split_76 rfl ?_
          cases h
          exact retH_i F hw dX3_split_78
        · replace h := itT h c12
          refine lv_aload_n hx hb dX3_split_63 rfl (lv_at hl 1 rfl) ?_
          refine h_g0_2 F hw dX3_split_64 ?_
          refine lv_iload_n hx hb dX3_split_67 rfl (lv_at hl 2 rfl) ?_
          refine lv_iload_n hx hb dX3_split_68 rfl (lv_at hl 2 rfl) ?_
          obtain ⟨z13, e14, h⟩ := bnd h
          refine k_X2_innermost_h_ F hw e14 ⟨Nat.le_of_ble_eq_true rfl, Nat.le_of_ble_eq_true rfl⟩ ⟨Nat.zero_le _, Nat.zero_le _⟩ hl.1 (Nat.le_of_ble_eq_true rfl) dX3_split_69 ?_
          refine lv_iconst (v := (-1)) hx hb dX3_split_72 rfl ?_
          refine lv_icmp_eq (tgt := 79) hx hb dX3_split_73 rfl (fun c15 => ?_) (fun c15 => ?_)
          · replace h := itT h c15
            refine lv_aload_n hx hb dX3_split_79 rfl (lv_at hl 1 rfl) ?_
            refine lv_iload_n hx hb dX3_split_80 rfl (lv_at hl 0 rfl) ?_
            refine lv_aload_n hx hb dX3_split_81 rfl (lv_at hl 1 rfl) ?_
            refine h_g0_2 F hw dX3_split_82 ?_
            refine lv_iload_n hx hb dX3_split_85 rfl (lv_at hl 2 rfl) ?_
            obtain ⟨z16, e17, h⟩ := bnd h
            refine k_X2_lastPlace_h_ F hw e17 ⟨Nat.le_of_ble_eq_true rfl, Nat.le_of_ble_eq_true rfl⟩ ⟨Nat.zero_le _, Nat.zero_le _⟩ hl.1 (Nat.le_of_ble_eq_true rfl) dX3_split_86 ?_
            refine lv_iconst (v := 1) hx hb dX3_split_89 rfl ?_
            refine lv_iadd hx hb dX3_split_90 ?_
            refine lv_aload_n hx hb dX3_split_91 rfl (lv_at hl 1 rfl) ?_
            refine h_g0_2 F hw dX3_split_92 ?_
            refine h_g3_0 F hw dX3_split_95 ?_
            refine lv_iload_n hx hb dX3_split_98 rfl (lv_at hl 0 rfl) ?_
            obtain ⟨z18, e19, h⟩ := bnd h
            refine k_X1_end_h_ F hw e19 ⟨Nat.le_of_ble_eq_true rfl, Nat.le_of_ble_eq_true rfl⟩ ⟨Nat.zero_le _, Nat.zero_le _⟩ hl.1 (Nat.le_of_ble_eq_true rfl) dX3_split_99 ?_
            refine lv_iload_n hx hb dX3_split_102 rfl (lv_at hl 3 rfl) ?_
            refine lv_aload_n hx hb dX3_split_103 rfl (lv_at hl 1 rfl) ?_
            refine h_g0_2 F hw dX3_split_104 ?_
            refine h_g3_0 F hw dX3_split_107 ?_
            refine lv_iload_n hx hb dX3_split_110 rfl (lv_at hl 3 rfl) ?_
            obtain ⟨z20, e21, h⟩ := bnd h
            refine k_X1_lastStand_h_ F hw e21 ⟨Nat.le_of_ble_eq_true rfl, Nat.le_of_ble_eq_true rfl⟩ ⟨Nat.zero_le _, Nat.zero_le _⟩ hl.1 (Nat.le_of_ble_eq_true rfl) dX3_split_111 ?_
            obtain ⟨z22, e23, h⟩ := bnd h
            refine k_X3_carry_h_ F hw e23 ⟨Nat.le_of_ble_eq_true rfl, Nat.le_of_ble_eq_true rfl⟩ ⟨Nat.zero_le _, Nat.zero_le _⟩ hl.1 (Nat.le_of_ble_eq_true rfl) dX3_split_114 (fun H locs hw => ?_)
            cases h
            exact retH_i F hw dX3_split_117
          · replace h := itF h c15
            refine lv_bipush (v := (-4)) hx hb dX3_split_76 rfl ?_
            cases h
            exact retH_i F hw dX3_split_78
      · replace h := itT h c9
        refine lv_bipush (v := (-3)) hx hb dX3_split_39 rfl ?_
        cases h
        exact retH_i F hw dX3_split_41
    · replace h := itT h c6
      refine lv_bipush (v := (-3)) hx hb dX3_split_19 rfl ?_
      cases h
      exact retH_i F hw dX3_split_21
end
theorem c_X3_split {l : Launch} {G : GX} {ad : Nat → Nat} {x1 : Int32} {x2 : Int32} {u : HS} {z : Int32 × HS} (h : f_X3_split x1 x2 u = some z) : MH l yX3_split cX3_split 4 (some .int) rmX3_split G (hw_ G ad u) (hw_ G ad z.2) [.ref (ad 0), .int x1, .int x2] (some (.int z.1)) := MH.of (by decide) (Nat.le_of_ble_eq_true rfl) (fun p e s m below meth c ls F hw hl => w_X3_split_0 F _ _ _ _ _ _ hw hl h)
/-! ===== X3_faultOfPair ===== -/
theorem dX3_faultOfPair_0 : decode cX3_faultOfPair 0 = .ok (.aload_n 0, 1) := by decide +kernel
theorem dX3_faultOfPair_1 : decode cX3_faultOfPair 1 = .ok (.iload_n 1, 1) := by decide +kernel
theorem dX3_faultOfPair_2 : decode cX3_faultOfPair 2 = .ok (.invokevirtual 66, 3) := by decide +kernel
theorem dX3_faultOfPair_5 : decode cX3_faultOfPair 5 = .ok (.ifCond .eq 11, 3) := by decide +kernel
theorem dX3_faultOfPair_8 : decode cX3_faultOfPair 8 = .ok (.aload_n 0, 1) := by decide +kernel
theorem dX3_faultOfPair_9 : decode cX3_faultOfPair 9 = .ok (.iload_n 2, 1) := by decide +kernel
theorem dX3_faultOfPair_10 : decode cX3_faultOfPair 10 = .ok (.invokevirtual 66, 3) := by decide +kernel
theorem dX3_faultOfPair_13 : decode cX3_faultOfPair 13 = .ok (.ifCond .ne 6, 3) := by decide +kernel
theorem dX3_faultOfPair_16 : decode cX3_faultOfPair 16 = .ok (.bipush (-3), 2) := by decide +kernel
theorem dX3_faultOfPair_18 : decode cX3_faultOfPair 18 = .ok (.ireturn, 1) := by decide +kernel
theorem dX3_faultOfPair_19 : decode cX3_faultOfPair 19 = .ok (.aload_n 0, 1) := by decide +kernel
theorem dX3_faultOfPair_20 : decode cX3_faultOfPair 20 = .ok (.getfield 20, 3) := by decide +kernel
theorem dX3_faultOfPair_23 : decode cX3_faultOfPair 23 = .ok (.iload_n 1, 1) := by decide +kernel
theorem dX3_faultOfPair_24 : decode cX3_faultOfPair 24 = .ok (.iload_n 2, 1) := by decide +kernel
theorem dX3_faultOfPair_25 : decode cX3_faultOfPair 25 = .ok (.invokevirtual 207, 3) := by decide +kernel
theorem dX3_faultOfPair_28 : decode cX3_faultOfPair 28 = .ok (.ifCond .eq 7, 3) := by decide +kernel
theorem dX3_faultOfPair_31 : decode cX3_faultOfPair 31 = .ok (.iconst 0, 1) := by decide +kernel
theorem dX3_faultOfPair_32 : decode cX3_faultOfPair 32 = .ok (.goto 5, 3) := by decide +kernel
theorem dX3_faultOfPair_35 : decode cX3_faultOfPair 35 = .ok (.bipush (-4), 2) := by decide +kernel
theorem dX3_faultOfPair_37 : decode cX3_faultOfPair 37 = .ok (.ireturn, 1) := by decide +kernel
theorem yv_X2_inOneRow_X3 : YV RX3 207 yX2_inOneRow cX2_inOneRow 3 (some .boolean) 2 := ⟨(tw 336 (by decide +kernel) rfl), (tw 2 (by decide +kernel) rfl), (tw 376 (by decide +kernel) rfl), (tw 334 (by decide +kernel) rfl), (tw 335 (by decide +kernel) rfl), by decide +kernel⟩
theorem k_X2_inOneRow_h_ {p : Program} {l : Launch} {e : Env} {R : Room} {s : State} {m : MethodId} {args : Array Value} {below : List Frame} {meth : Method} {c : Code} {H : Heap} {locs : List Loc} {cells slots : Nat} {Q : State → Prop} {G : GX} {A : Nat → Prop} {ad : Nat → Nat} {u : HS} {cc : ByteArray} {nL pc : Nat} {y : MethodName} {ret : Option FieldType} {ls : Array Slot} {rest : List Value} {x1 : Int32} {x2 : Int32} {z : Int32} (F : FX p m c cc nL s args y ret RX3 meth) (hw : WD G A s (hw_ G ad u) H locs) (h : f_X2_inOneRow x1 x2 u.2.2.2.2.1 = some z) (hR : rmX2_inOneRow.frames + 1 ≤ R.frames ∧ 8 + (3 + 11) + rmX2_inOneRow.locals ≤ R.locals) (hcs : cells ≤ R.cells ∧ slots ≤ R.slots) (hsz : ls.size = nL) (hW : (rest.map fun v => v.category).sum ≤ 8) (hdg : decode cc pc = .ok (.invokevirtual 207, 3)) (kk : W p l e R s m args below meth c H locs cells slots Q (F0 m (pc + 3) ls (.int z :: rest))) : W p l e R s m args below meth c H locs cells slots Q (F0 m pc ls (.int x2 :: .int x1 :: .ref (u.1 0) :: rest)) := callO (runV F yv_X2_inOneRow_X3 (c_X2_inOneRow h (ad := u.1)) hw.1 (hw.2.1.sub [3, 4, 5, 6, 7, 8, 9, 10, 11, 12, 13, 14, 15, 16] rfl) (hw.2.2.1.sub [3, 4, 5, 6, 7, 8, 9, 10, 11, 12, 13, 14, 15, 16] (by decide) rfl) rfl rfl rfl ⟨rfl, rfl⟩ hR hcs rfl hsz rfl hW hdg) kk
def rmX3_faultOfPair : Room := { frames := 2, cells := 0, slots := 0, locals := 43 }
noncomputable def f_X3_faultOfPair (x1 : Int32) (x2 : Int32) (u : HS) : Option (Int32) := (f_X3_isStanding x1 u).bind (fun z1 => (if z1 = 0 then some (-3) else (f_X3_isStanding x2 u).bind (fun z4 => (if z4 = 0 then some (-3) else (f_X2_inOneRow x1 x2 u.2.2.2.2.1).bind (fun z7 => (if z7 = 0 then some (-4) else some 0))))))
section
variable {p : Program} {l : Launch} {e : Env} {s : State} {m : MethodId} {args : Array Value} {below : List Frame} {meth : Method} {c : Code}
variable {G : GX} {A : Nat → Prop} {ad : Nat → Nat} 
set_option maxHeartbeats 4000000 in
set_option maxRecDepth 100000 in
theorem w_X3_faultOfPair_0 (F : FX p m c cX3_faultOfPair 3 s args yX3_faultOfPair (some .int) RX3 meth) {z : Int32} : ∀ (x1 : Int32) (x2 : Int32) (u : HS) (ls : Array Slot), WD G A s (hw_ G ad u) s.heap [] → lv_has ls 3 [(0, .ref (ad 0)), (1, .int x1), (2, .int x2)] → f_X3_faultOfPair x1 x2 u = some z → W p l e rmX3_faultOfPair s m args below meth c s.heap [] 0 0 (MQ below (QO (some (.int z))) args s 0 0 (fun _ => False)) (F0 m 0 ls []) := by
  obtain ⟨⟨hx, hb, hml, hown, hts⟩, hr, hlocks⟩ := id F
  intro x1 x2 u ls hw hl h
  unfold f_X3_faultOfPair at h
  refine lv_aload_n hx hb dX3_faultOfPair_0 rfl (lv_at hl 0 rfl) ?_
  refine lv_iload_n hx hb dX3_faultOfPair_1 rfl (lv_at hl 1 rfl) ?_
  obtain ⟨z1, e2, h⟩ := bnd h
  refine k_X3_isStanding_h_ F hw e2 ⟨Nat.le_of_ble_eq_true rfl, Nat.le_of_ble_eq_true rfl⟩ ⟨Nat.zero_le _, Nat.zero_le _⟩ hl.1 (Nat.le_of_ble_eq_true rfl) dX3_faultOfPair_2 ?_
  refine lv_if_eq (tgt := 16) hx hb dX3_faultOfPair_5 rfl (fun c3 => ?_) (fun c3 => ?_)
  · replace h := itT h c3
    refine lv_bipush (v := (-3)) hx hb dX3_faultOfPair_16 rfl ?_
    cases h
    exact retO_i F dX3_faultOfPair_18
  · replace h := itF h c3
    refine lv_aload_n hx hb dX3_faultOfPair_8 rfl (lv_at hl 0 rfl) ?_
    refine lv_iload_n hx hb dX3_faultOfPair_9 rfl (lv_at hl 2 rfl) ?_
    obtain ⟨z4, e5, h⟩ := bnd h
    refine k_X3_isStanding_h_ F hw e5 ⟨Nat.le_of_ble_eq_true rfl, Nat.le_of_ble_eq_true rfl⟩ ⟨Nat.zero_le _, Nat.zero_le _⟩ hl.1 (Nat.le_of_ble_eq_true rfl) dX3_faultOfPair_10 ?_
    refine lv_if_ne (tgt := 19) hx hb dX3_faultOfPair_13 rfl (fun c6 => ?_) (fun c6 => ?_)
    · replace h := itF h c6
      refine lv_aload_n hx hb dX3_faultOfPair_19 rfl (lv_at hl 0 rfl) ?_
      refine h_g0_2 F hw dX3_faultOfPair_20 ?_
      refine lv_iload_n hx hb dX3_faultOfPair_23 rfl (lv_at hl 1 rfl) ?_
      refine lv_iload_n hx hb dX3_faultOfPair_24 rfl (lv_at hl 2 rfl) ?_
      obtain ⟨z7, e8, h⟩ := bnd h
      refine k_X2_inOneRow_h_ F hw e8 ⟨Nat.le_of_ble_eq_true rfl, Nat.le_of_ble_eq_true rfl⟩ ⟨Nat.zero_le _, Nat.zero_le _⟩ hl.1 (Nat.le_of_ble_eq_true rfl) dX3_faultOfPair_25 ?_
      refine lv_if_eq (tgt := 35) hx hb dX3_faultOfPair_28 rfl (fun c9 => ?_) (fun c9 => ?_)
      · replace h := itT h c9
        refine lv_bipush (v := (-4)) hx hb dX3_faultOfPair_35 rfl ?_
        cases h
        exact retO_i F dX3_faultOfPair_37
      · replace h := itF h c9
        refine lv_iconst (v := 0) hx hb dX3_faultOfPair_31 rfl ?_
        refine lv_goto (tgt := 37) hx hb dX3_faultOfPair_32 rfl ?_
        cases h
        exact retO_i F dX3_faultOfPair_37
    · replace h := itT h c6
      refine lv_bipush (v := (-3)) hx hb dX3_faultOfPair_16 rfl ?_
      cases h
      exact retO_i F dX3_faultOfPair_18
end
theorem c_X3_faultOfPair {l : Launch} {G : GX} {ad : Nat → Nat} {x1 : Int32} {x2 : Int32} {u : HS} {z : Int32} (h : f_X3_faultOfPair x1 x2 u = some z) : MO l yX3_faultOfPair cX3_faultOfPair 3 (some .int) rmX3_faultOfPair G (hw_ G ad u) [.ref (ad 0), .int x1, .int x2] (some (.int z)) := MO.of (by decide) (Nat.le_of_ble_eq_true rfl) (fun p e s m below meth c ls F hw hl => w_X3_faultOfPair_0 F _ _ _ _ hw hl h)
/-! ===== X3_less ===== -/
theorem dX3_less_0 : decode cX3_less 0 = .ok (.aload_n 0, 1) := by decide +kernel
theorem dX3_less_1 : decode cX3_less 1 = .ok (.iload_n 1, 1) := by decide +kernel
theorem dX3_less_2 : decode cX3_less 2 = .ok (.iload_n 2, 1) := by decide +kernel
theorem dX3_less_3 : decode cX3_less 3 = .ok (.invokevirtual 112, 3) := by decide +kernel
theorem dX3_less_6 : decode cX3_less 6 = .ok (.istore_n 3, 1) := by decide +kernel
theorem dX3_less_7 : decode cX3_less 7 = .ok (.iload_n 3, 1) := by decide +kernel
theorem dX3_less_8 : decode cX3_less 8 = .ok (.ifCond .eq 5, 3) := by decide +kernel
theorem dX3_less_11 : decode cX3_less 11 = .ok (.iload_n 3, 1) := by decide +kernel
theorem dX3_less_12 : decode cX3_less 12 = .ok (.ireturn, 1) := by decide +kernel
theorem dX3_less_13 : decode cX3_less 13 = .ok (.iload_n 1, 1) := by decide +kernel
theorem dX3_less_14 : decode cX3_less 14 = .ok (.iload_n 2, 1) := by decide +kernel
theorem dX3_less_15 : decode cX3_less 15 = .ok (.if_icmp .ne 5, 3) := by decide +kernel
theorem dX3_less_18 : decode cX3_less 18 = .ok (.iconst 0, 1) := by decide +kernel
theorem dX3_less_19 : decode cX3_less 19 = .ok (.ireturn, 1) := by decide +kernel
theorem dX3_less_20 : decode cX3_less 20 = .ok (.aload_n 0, 1) := by decide +kernel
theorem dX3_less_21 : decode cX3_less 21 = .ok (.getfield 20, 3) := by decide +kernel
theorem dX3_less_24 : decode cX3_less 24 = .ok (.iconst 2, 1) := by decide +kernel
theorem dX3_less_25 : decode cX3_less 25 = .ok (.iload_n 1, 1) := by decide +kernel
theorem dX3_less_26 : decode cX3_less 26 = .ok (.imul, 1) := by decide +kernel
theorem dX3_less_27 : decode cX3_less 27 = .ok (.iconst 2, 1) := by decide +kernel
theorem dX3_less_28 : decode cX3_less 28 = .ok (.iload_n 2, 1) := by decide +kernel
theorem dX3_less_29 : decode cX3_less 29 = .ok (.imul, 1) := by decide +kernel
theorem dX3_less_30 : decode cX3_less 30 = .ok (.invokevirtual 115, 3) := by decide +kernel
theorem dX3_less_33 : decode cX3_less 33 = .ok (.ifCond .eq 7, 3) := by decide +kernel
theorem dX3_less_36 : decode cX3_less 36 = .ok (.iconst 1, 1) := by decide +kernel
theorem dX3_less_37 : decode cX3_less 37 = .ok (.goto 4, 3) := by decide +kernel
theorem dX3_less_40 : decode cX3_less 40 = .ok (.iconst 2, 1) := by decide +kernel
theorem dX3_less_41 : decode cX3_less 41 = .ok (.ireturn, 1) := by decide +kernel
theorem yv_X3_faultOfPair_X3 : YV RX3 112 yX3_faultOfPair cX3_faultOfPair 3 (some .int) 2 := ⟨(tw 375 (by decide +kernel) rfl), (tw 1 (by decide +kernel) rfl), (tw 372 (by decide +kernel) rfl), (tw 374 (by decide +kernel) rfl), (tp 10 (by decide +kernel) rfl), by decide +kernel⟩
theorem k_X3_faultOfPair_h_ {p : Program} {l : Launch} {e : Env} {R : Room} {s : State} {m : MethodId} {args : Array Value} {below : List Frame} {meth : Method} {c : Code} {H : Heap} {locs : List Loc} {cells slots : Nat} {Q : State → Prop} {G : GX} {A : Nat → Prop} {ad : Nat → Nat} {u : HS} {cc : ByteArray} {nL pc : Nat} {y : MethodName} {ret : Option FieldType} {ls : Array Slot} {rest : List Value} {x1 : Int32} {x2 : Int32} {z : Int32} (F : FX p m c cc nL s args y ret RX3 meth) (hw : WD G A s (hw_ G ad u) H locs) (h : f_X3_faultOfPair x1 x2 u = some z) (hR : rmX3_faultOfPair.frames + 1 ≤ R.frames ∧ 8 + (3 + 11) + rmX3_faultOfPair.locals ≤ R.locals) (hcs : cells ≤ R.cells ∧ slots ≤ R.slots) (hsz : ls.size = nL) (hW : (rest.map fun v => v.category).sum ≤ 8) (hdg : decode cc pc = .ok (.invokevirtual 112, 3)) (kk : W p l e R s m args below meth c H locs cells slots Q (F0 m (pc + 3) ls (.int z :: rest))) : W p l e R s m args below meth c H locs cells slots Q (F0 m pc ls (.int x2 :: .int x1 :: .ref (ad 0) :: rest)) := callO (runV F yv_X3_faultOfPair_X3 (c_X3_faultOfPair h) hw.1 hw.2.1 hw.2.2.1 rfl rfl rfl ⟨rfl, rfl⟩ hR hcs rfl hsz rfl hW hdg) kk
theorem yv_X2_isAhead_X3 : YV RX3 115 yX2_isAhead cX2_isAhead 3 (some .boolean) 2 := ⟨(tw 340 (by decide +kernel) rfl), (tw 2 (by decide +kernel) rfl), (tw 377 (by decide +kernel) rfl), (tw 338 (by decide +kernel) rfl), (tw 339 (by decide +kernel) rfl), by decide +kernel⟩
theorem k_X2_isAhead_h_ {p : Program} {l : Launch} {e : Env} {R : Room} {s : State} {m : MethodId} {args : Array Value} {below : List Frame} {meth : Method} {c : Code} {H : Heap} {locs : List Loc} {cells slots : Nat} {Q : State → Prop} {G : GX} {A : Nat → Prop} {ad : Nat → Nat} {u : HS} {cc : ByteArray} {nL pc : Nat} {y : MethodName} {ret : Option FieldType} {ls : Array Slot} {rest : List Value} {x1 : Int32} {x2 : Int32} {z : Int32} (F : FX p m c cc nL s args y ret RX3 meth) (hw : WD G A s (hw_ G ad u) H locs) (h : f_X2_isAhead x1 x2 u.2.2.2.2.1 = some z) (hR : rmX2_isAhead.frames + 1 ≤ R.frames ∧ 8 + (3 + 11) + rmX2_isAhead.locals ≤ R.locals) (hcs : cells ≤ R.cells ∧ slots ≤ R.slots) (hsz : ls.size = nL) (hW : (rest.map fun v => v.category).sum ≤ 8) (hdg : decode cc pc = .ok (.invokevirtual 115, 3)) (kk : W p l e R s m args below meth c H locs cells slots Q (F0 m (pc + 3) ls (.int z :: rest))) : W p l e R s m args below meth c H locs cells slots Q (F0 m pc ls (.int x2 :: .int x1 :: .ref (u.1 0) :: rest)) := callO (runV F yv_X2_isAhead_X3 (c_X2_isAhead h (ad := u.1)) hw.1 (hw.2.1.sub [3, 4, 5, 6, 7, 8, 9, 10, 11, 12, 13, 14, 15, 16] rfl) (hw.2.2.1.sub [3, 4, 5, 6, 7, 8, 9, 10, 11, 12, 13, 14, 15, 16] (by decide) rfl) rfl rfl rfl ⟨rfl, rfl⟩ hR hcs rfl hsz rfl hW hdg) kk
def rmX3_less : Room := { frames := 3, cells := 0, slots := 0, locals := 65 }
noncomputable def f_X3_less (x1 : Int32) (x2 : Int32) (u : HS) : Option (Int32) := (f_X3_faultOfPair x1 x2 u).bind (fun z1 => (if z1 = 0 then (if x1 = x2 then some 0 else (f_X2_isAhead (2 * x1) (2 * x2) u.2.2.2.2.1).bind (fun z5 => (if z5 = 0 then some 2 else some 1))) else some z1))
section
variable {p : Program} {l : Launch} {e : Env} {s : State} {m : MethodId} {args : Array Value} {below : List Frame} {meth : Method} {c : Code}
variable {G : GX} {A : Nat → Prop} {ad : Nat → Nat} 
set_option maxHeartbeats 4000000 in
set_option maxRecDepth 100000 in
theorem w_X3_less_0 (F : FX p m c cX3_less 4 s args yX3_less (some .int) RX3 meth) {z : Int32} : ∀ (x1 : Int32) (x2 : Int32) (u : HS) (ls : Array Slot), WD G A s (hw_ G ad u) s.heap [] → lv_has ls 4 [(0, .ref (ad 0)), (1, .int x1), (2, .int x2)] → f_X3_less x1 x2 u = some z → W p l e rmX3_less s m args below meth c s.heap [] 0 0 (MQ below (QO (some (.int z))) args s 0 0 (fun _ => False)) (F0 m 0 ls []) := by
  obtain ⟨⟨hx, hb, hml, hown, hts⟩, hr, hlocks⟩ := id F
  intro x1 x2 u ls hw hl h
  unfold f_X3_less at h
  refine lv_aload_n hx hb dX3_less_0 rfl (lv_at hl 0 rfl) ?_
  refine lv_iload_n hx hb dX3_less_1 rfl (lv_at hl 1 rfl) ?_
  refine lv_iload_n hx hb dX3_less_2 rfl (lv_at hl 2 rfl) ?_
  obtain ⟨z1, e2, h⟩ := bnd h
  refine k_X3_faultOfPair_h_ F hw e2 ⟨Nat.le_of_ble_eq_true rfl, Nat.le_of_ble_eq_true rfl⟩ ⟨Nat.zero_le _, Nat.zero_le _⟩ hl.1 (Nat.le_of_ble_eq_true rfl) dX3_less_3 ?_
  refine lv_istore_n (lv' := [(3, .int z1), (0, .ref (ad 0)), (1, .int x1), (2, .int x2)]) hx hb dX3_less_6 rfl hl (by decide) rfl (fun ls hl => ?_)
  refine lv_iload_n hx hb dX3_less_7 rfl (lv_at hl 0 rfl) ?_
  refine lv_if_eq (tgt := 13) hx hb dX3_less_8 rfl (fun c3 => ?_) (fun c3 => ?_)
  · replace h := itT h c3
    refine lv_iload_n hx hb dX3_less_13 rfl (lv_at hl 2 rfl) ?_
    refine lv_iload_n hx hb dX3_less_14 rfl (lv_at hl 3 rfl) ?_
    refine lv_icmp_ne (tgt := 20) hx hb dX3_less_15 rfl (fun c4 => ?_) (fun c4 => ?_)
    · replace h := itF h c4
      refine lv_aload_n hx hb dX3_less_20 rfl (lv_at hl 1 rfl) ?_
      refine h_g0_2 F hw dX3_less_21 ?_
      refine lv_iconst (v := 2) hx hb dX3_less_24 rfl ?_
      refine lv_iload_n hx hb dX3_less_25 rfl (lv_at hl 2 rfl) ?_
      refine lv_imul hx hb dX3_less_26 ?_
      refine lv_iconst (v := 2) hx hb dX3_less_27 rfl ?_
      refine lv_iload_n hx hb dX3_less_28 rfl (lv_at hl 3 rfl) ?_
      refine lv_imul hx hb dX3_less_29 ?_
      obtain ⟨z5, e6, h⟩ := bnd h
      refine k_X2_isAhead_h_ F hw e6 ⟨Nat.le_of_ble_eq_true rfl, Nat.le_of_ble_eq_true rfl⟩ ⟨Nat.zero_le _, Nat.zero_le _⟩ hl.1 (Nat.le_of_ble_eq_true rfl) dX3_less_30 ?_
      refine lv_if_eq (tgt := 40) hx hb dX3_less_33 rfl (fun c7 => ?_) (fun c7 => ?_)
      · replace h := itT h c7
        refine lv_iconst (v := 2) hx hb dX3_less_40 rfl ?_
        cases h
        exact retO_i F dX3_less_41
      · replace h := itF h c7
        refine lv_iconst (v := 1) hx hb dX3_less_36 rfl ?_
        refine lv_goto (tgt := 41) hx hb dX3_less_37 rfl ?_
        cases h
        exact retO_i F dX3_less_41
    · replace h := itT h c4
      refine lv_iconst (v := 0) hx hb dX3_less_18 rfl ?_
      cases h
      exact retO_i F dX3_less_19
  · replace h := itF h c3
    refine lv_iload_n hx hb dX3_less_11 rfl (lv_at hl 0 rfl) ?_
    cases h
    exact retO_i F dX3_less_12
end
theorem c_X3_less {l : Launch} {G : GX} {ad : Nat → Nat} {x1 : Int32} {x2 : Int32} {u : HS} {z : Int32} (h : f_X3_less x1 x2 u = some z) : MO l yX3_less cX3_less 4 (some .int) rmX3_less G (hw_ G ad u) [.ref (ad 0), .int x1, .int x2] (some (.int z)) := MO.of (by decide) (Nat.le_of_ble_eq_true rfl) (fun p e s m below meth c ls F hw hl => w_X3_less_0 F _ _ _ _ hw hl h)
/-! ===== X3_label ===== -/
theorem dX3_label_0 : decode cX3_label 0 = .ok (.aload_n 0, 1) := by decide +kernel
theorem dX3_label_1 : decode cX3_label 1 = .ok (.iload_n 1, 1) := by decide +kernel
theorem dX3_label_2 : decode cX3_label 2 = .ok (.iload_n 2, 1) := by decide +kernel
theorem dX3_label_3 : decode cX3_label 3 = .ok (.invokevirtual 118, 3) := by decide +kernel
theorem dX3_label_6 : decode cX3_label 6 = .ok (.ifCond .eq 19, 3) := by decide +kernel
theorem dX3_label_9 : decode cX3_label 9 = .ok (.aload_n 0, 1) := by decide +kernel
theorem dX3_label_10 : decode cX3_label 10 = .ok (.getfield 20, 3) := by decide +kernel
theorem dX3_label_13 : decode cX3_label 13 = .ok (.getfield 122, 3) := by decide +kernel
theorem dX3_label_16 : decode cX3_label 16 = .ok (.iload_n 1, 1) := by decide +kernel
theorem dX3_label_17 : decode cX3_label 17 = .ok (.iload_n 2, 1) := by decide +kernel
theorem dX3_label_18 : decode cX3_label 18 = .ok (.invokestatic 58, 3) := by decide +kernel
theorem dX3_label_21 : decode cX3_label 21 = .ok (.laload, 1) := by decide +kernel
theorem dX3_label_22 : decode cX3_label 22 = .ok (.goto 6, 3) := by decide +kernel
theorem dX3_label_25 : decode cX3_label 25 = .ok (.ldc2_w 126, 3) := by decide +kernel
theorem dX3_label_28 : decode cX3_label 28 = .ok (.lreturn, 1) := by decide +kernel
theorem h_g3_5 {p : Program} {l : Launch} {e : Env} {R : Room} {s : State} {m : MethodId} {args : Array Value} {below : List Frame} {meth : Method} {c : Code} {H : Heap} {locs : List Loc} {cells slots : Nat} {Q : State → Prop} {G : GX} {A : Nat → Prop} {ad : Nat → Nat} {u : HS} {cc : ByteArray} {nL pc : Nat} {y : MethodName} {ret : Option FieldType} {ls : Array Slot} {rest : List Value} (F : FX p m c cc nL s args y ret RX3 meth) (hw : WD G A s (hw_ G ad u) H locs) (hdg : decode cc pc = .ok (.getfield 122, 3)) (kk : W p l e R s m args below meth c H locs cells slots Q (F0 m (pc + 3) ls (.ref (u.1 12) :: rest))) : W p l e R s m args below meth c H locs cells slots Q (F0 m pc ls (.ref (u.1 0) :: rest)) := va_get (D := G.1) (ci := 2) (C := RX2) (T := TX2) (N := 8) (Ts := lw_gt) F.1.1 F.1.2.1 (fun _ h => F.tb h) inX2 F.1.2.2.2.1 hw.1.1 hw.2.1 3 rfl rfl 5 (by decide) (F.tb (tw 78 (by decide +kernel) rfl)) (fun _ h9 => h9) rfl hdg kk
theorem h_l15 {i : Int32} {p : Program} {l : Launch} {e : Env} {R : Room} {s : State} {m : MethodId} {args : Array Value} {below : List Frame} {meth : Method} {c : Code} {H : Heap} {locs : List Loc} {cells slots : Nat} {Q : State → Prop} {G : GX} {A : Nat → Prop} {ad : Nat → Nat} {u : HS} {cc : ByteArray} {nL pc : Nat} {y : MethodName} {ret : Option FieldType} {ls : Array Slot} {rest : List Value} (F : FX p m c cc nL s args y ret RX3 meth) (hw : WD G A s (hw_ G ad u) H locs) (hi : ix i 600 = true) (hdg : decode cc pc = .ok (.laload, 1)) (kk : W p l e R s m args below meth c H locs cells slots Q (F0 m (pc + 1) ls (.long (u.2.2.2.2.1.2.2.2.1 i.toNatClampNeg) :: rest))) : W p l e R s m args below meth c H locs cells slots Q (F0 m pc ls (.int i :: .ref (u.1 12) :: rest)) := va_lald F.1.1 F.1.2.1 hw.1.1 hw.2.1 15 1 rfl rfl (ix_in hi) hdg kk
def rmX3_label : Room := { frames := 3, cells := 0, slots := 0, locals := 65 }
noncomputable def f_X3_label (x1 : Int32) (x2 : Int32) (u : HS) : Option (Int64) := (f_X3_hasStand x1 x2 u).bind (fun z1 => (if z1 = 0 then some (-3) else (f_X3_standOf x1 x2).bind (fun z4 => (if ix z4 600 = true then some (u.2.2.2.2.1.2.2.2.1 (Int32.toNatClampNeg z4)) else none))))
section
variable {p : Program} {l : Launch} {e : Env} {s : State} {m : MethodId} {args : Array Value} {below : List Frame} {meth : Method} {c : Code}
variable {G : GX} {A : Nat → Prop} {ad : Nat → Nat} 
set_option maxHeartbeats 4000000 in
set_option maxRecDepth 100000 in
theorem w_X3_label_0 (F : FX p m c cX3_label 3 s args yX3_label (some .long) RX3 meth) {z : Int64} : ∀ (x1 : Int32) (x2 : Int32) (u : HS) (ls : Array Slot), WD G A s (hw_ G ad u) s.heap [] → lv_has ls 3 [(0, .ref (ad 0)), (1, .int x1), (2, .int x2)] → f_X3_label x1 x2 u = some z → W p l e rmX3_label s m args below meth c s.heap [] 0 0 (MQ below (QO (some (.long z))) args s 0 0 (fun _ => False)) (F0 m 0 ls []) := by
  obtain ⟨⟨hx, hb, hml, hown, hts⟩, hr, hlocks⟩ := id F
  intro x1 x2 u ls hw hl h
  unfold f_X3_label at h
  refine lv_aload_n hx hb dX3_label_0 rfl (lv_at hl 0 rfl) ?_
  refine lv_iload_n hx hb dX3_label_1 rfl (lv_at hl 1 rfl) ?_
  refine lv_iload_n hx hb dX3_label_2 rfl (lv_at hl 2 rfl) ?_
  obtain ⟨z1, e2, h⟩ := bnd h
  refine k_X3_hasStand_h_ F hw e2 ⟨Nat.le_of_ble_eq_true rfl, Nat.le_of_ble_eq_true rfl⟩ ⟨Nat.zero_le _, Nat.zero_le _⟩ hl.1 (Nat.le_of_ble_eq_true rfl) dX3_label_3 ?_
  refine lv_if_eq (tgt := 25) hx hb dX3_label_6 rfl (fun c3 => ?_) (fun c3 => ?_)
  · replace h := itT h c3
    refine lv_ldc2 (own := RX3) (v := (-3)) hx hb hown (F.tb (tw 382 (by decide +kernel) rfl)) dX3_label_25 ?_
    cases h
    exact retO_l F dX3_label_28
  · replace h := itF h c3
    refine lv_aload_n hx hb dX3_label_9 rfl (lv_at hl 0 rfl) ?_
    refine h_g0_2 F hw dX3_label_10 ?_
    refine h_g3_5 F hw dX3_label_13 ?_
    refine lv_iload_n hx hb dX3_label_16 rfl (lv_at hl 1 rfl) ?_
    refine lv_iload_n hx hb dX3_label_17 rfl (lv_at hl 2 rfl) ?_
    obtain ⟨z4, e5, h⟩ := bnd h
    refine k_X3_standOf_h_ F hw e5 ⟨Nat.le_of_ble_eq_true rfl, Nat.le_of_ble_eq_true rfl⟩ ⟨Nat.zero_le _, Nat.zero_le _⟩ hl.1 (Nat.le_of_ble_eq_true rfl) dX3_label_18 ?_
    obtain ⟨g6, h⟩ := gd h
    refine h_l15 F hw g6 dX3_label_21 ?_
    refine lv_goto (tgt := 28) hx hb dX3_label_22 rfl ?_
    cases h
    exact retO_l F dX3_label_28
end
theorem c_X3_label {l : Launch} {G : GX} {ad : Nat → Nat} {x1 : Int32} {x2 : Int32} {u : HS} {z : Int64} (h : f_X3_label x1 x2 u = some z) : MO l yX3_label cX3_label 3 (some .long) rmX3_label G (hw_ G ad u) [.ref (ad 0), .int x1, .int x2] (some (.long z)) := MO.of (by decide) (Nat.le_of_ble_eq_true rfl) (fun p e s m below meth c ls F hw hl => w_X3_label_0 F _ _ _ _ hw hl h)
