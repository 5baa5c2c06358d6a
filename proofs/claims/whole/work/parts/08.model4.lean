/-! ===== X4_areApart ===== -/
theorem dX4_areApart_0 : decode cX4_areApart 0 = .ok (.aload_n 0, 1) := by decide +kernel
theorem dX4_areApart_1 : decode cX4_areApart 1 = .ok (.iconst 2, 1) := by decide +kernel
theorem dX4_areApart_2 : decode cX4_areApart 2 = .ok (.iload_n 1, 1) := by decide +kernel
theorem dX4_areApart_3 : decode cX4_areApart 3 = .ok (.imul, 1) := by decide +kernel
theorem dX4_areApart_4 : decode cX4_areApart 4 = .ok (.invokevirtual 100, 3) := by decide +kernel
theorem dX4_areApart_7 : decode cX4_areApart 7 = .ok (.aload_n 0, 1) := by decide +kernel
theorem dX4_areApart_8 : decode cX4_areApart 8 = .ok (.iconst 2, 1) := by decide +kernel
theorem dX4_areApart_9 : decode cX4_areApart 9 = .ok (.iload_n 2, 1) := by decide +kernel
theorem dX4_areApart_10 : decode cX4_areApart 10 = .ok (.imul, 1) := by decide +kernel
theorem dX4_areApart_11 : decode cX4_areApart 11 = .ok (.invokevirtual 100, 3) := by decide +kernel
theorem dX4_areApart_14 : decode cX4_areApart 14 = .ok (.if_icmp .eq 7, 3) := by decide +kernel
theorem dX4_areApart_17 : decode cX4_areApart 17 = .ok (.iconst 1, 1) := by decide +kernel
theorem dX4_areApart_18 : decode cX4_areApart 18 = .ok (.goto 4, 3) := by decide +kernel
theorem dX4_areApart_21 : decode cX4_areApart 21 = .ok (.iconst 0, 1) := by decide +kernel
theorem dX4_areApart_22 : decode cX4_areApart 22 = .ok (.ireturn, 1) := by decide +kernel
def rmX4_areApart : Room := { frames := 1, cells := 0, slots := 0, locals := 23 }
noncomputable def f_X4_areApart (x1 : Int32) (x2 : Int32) (u : MS) : Option (Int32) := (f_X4_rowWith (2 * x1) u).bind (fun z1 => (f_X4_rowWith (2 * x2) u).bind (fun z3 => (if z1 = z3 then some 0 else some 1)))
section
variable {p : Program} {l : Launch} {e : Env} {s : State} {m : MethodId} {args : Array Value} {below : List Frame} {meth : Method} {c : Code}
variable {G : GX} {A : Nat → Prop} {ad : Nat → Nat}
set_option maxHeartbeats 4000000 in
set_option maxRecDepth 100000 in
theorem w_X4_areApart_0 (F : FX p m c cX4_areApart 3 s args yX4_areApart (some .boolean) RX4 meth) {z : Int32} : ∀ (x1 : Int32) (x2 : Int32) (u : MS) (ls : Array Slot), WD G A s (mw G ad u) s.heap [] → lv_has ls 3 [(0, .ref (ad 0)), (1, .int x1), (2, .int x2)] → f_X4_areApart x1 x2 u = some z → W p l e rmX4_areApart s m args below meth c s.heap [] 0 0 (MQ below (QO (some (.int z))) args s 0 0 (fun _ => False)) (F0 m 0 ls []) := by
  obtain ⟨⟨hx, hb, hml, hown, hts⟩, hr, hlocks⟩ := id F
  intro x1 x2 u ls hw hl h
  unfold f_X4_areApart at h
  refine lv_aload_n hx hb dX4_areApart_0 rfl (lv_at hl 0 rfl) ?_
  refine lv_iconst (v := 2) hx hb dX4_areApart_1 rfl ?_
  refine lv_iload_n hx hb dX4_areApart_2 rfl (lv_at hl 1 rfl) ?_
  refine lv_imul hx hb dX4_areApart_3 ?_
  obtain ⟨z1, e2, h⟩ := bnd h
  refine k_X4_rowWith F hw e2 ⟨Nat.le_of_ble_eq_true rfl, Nat.le_of_ble_eq_true rfl⟩ ⟨Nat.zero_le _, Nat.zero_le _⟩ hl.1 (Nat.le_of_ble_eq_true rfl) dX4_areApart_4 ?_
  refine lv_aload_n hx hb dX4_areApart_7 rfl (lv_at hl 0 rfl) ?_
  refine lv_iconst (v := 2) hx hb dX4_areApart_8 rfl ?_
  refine lv_iload_n hx hb dX4_areApart_9 rfl (lv_at hl 2 rfl) ?_
  refine lv_imul hx hb dX4_areApart_10 ?_
  obtain ⟨z3, e4, h⟩ := bnd h
  refine k_X4_rowWith F hw e4 ⟨Nat.le_of_ble_eq_true rfl, Nat.le_of_ble_eq_true rfl⟩ ⟨Nat.zero_le _, Nat.zero_le _⟩ hl.1 (Nat.le_of_ble_eq_true rfl) dX4_areApart_11 ?_
  refine lv_icmp_eq (tgt := 21) hx hb dX4_areApart_14 rfl (fun c5 => ?_) (fun c5 => ?_)
  · replace h := itT h c5
    refine lv_iconst (v := 0) hx hb dX4_areApart_21 rfl ?_
    cases h
    exact retO_z F narrow_b0 dX4_areApart_22
  · replace h := itF h c5
    refine lv_iconst (v := 1) hx hb dX4_areApart_17 rfl ?_
    refine lv_goto (tgt := 22) hx hb dX4_areApart_18 rfl ?_
    cases h
    exact retO_z F narrow_b1 dX4_areApart_22
end
theorem c_X4_areApart {l : Launch} {G : GX} {ad : Nat → Nat} {x1 : Int32} {x2 : Int32} {u : MS} {z : Int32} (h : f_X4_areApart x1 x2 u = some z) : MO l yX4_areApart cX4_areApart 3 (some .boolean) rmX4_areApart G (mw G ad u) [.ref (ad 0), .int x1, .int x2] (some (.int z)) := MO.of (by decide) (Nat.le_of_ble_eq_true rfl) (fun p e s m below meth c ls F hw hl => w_X4_areApart_0 F _ _ _ _ hw hl h)
theorem yv_X4_areApart : YV RX4 209 yX4_areApart cX4_areApart 3 (some .boolean) 2 := ⟨(tw 768 (by decide +kernel) rfl), (tw 6 (by decide +kernel) rfl), (tw 765 (by decide +kernel) rfl), (tw 767 (by decide +kernel) rfl), (tp 45 (by decide +kernel) rfl), by decide +kernel⟩
theorem k_X4_areApart {p : Program} {l : Launch} {e : Env} {R : Room} {s : State} {m : MethodId} {args : Array Value} {below : List Frame} {meth : Method} {c : Code} {H : Heap} {locs : List Loc} {cells slots : Nat} {Q : State → Prop} {G : GX} {A : Nat → Prop} {ad : Nat → Nat} {cc : ByteArray} {nL pc : Nat} {y0 : MethodName} {ret0 : Option FieldType} {ls : Array Slot} {rest : List Value} {u : MS} {x1 : Int32} {x2 : Int32} {z : Int32} (F : FX p m c cc nL s args y0 ret0 RX4 meth) (hw : WD G A s (mw G ad u) H locs) (h : f_X4_areApart x1 x2 u = some z) (hR : rmX4_areApart.frames + 1 ≤ R.frames ∧ 8 + (3 + 11) + rmX4_areApart.locals ≤ R.locals) (hcs : cells ≤ R.cells ∧ slots ≤ R.slots) (hsz : ls.size = nL) (hW : (rest.map fun v => v.category).sum ≤ 8) (hdg : decode cc pc = .ok (.invokevirtual 209, 3)) (kk : W p l e R s m args below meth c H locs cells slots Q (F0 m (pc + 3) ls (.int z :: rest))) : W p l e R s m args below meth c H locs cells slots Q (F0 m pc ls (.int x2 :: .int x1 :: .ref (ad 0) :: rest)) := callO (runV F yv_X4_areApart (c_X4_areApart h) hw.1 hw.2.1 hw.2.2.1 rfl rfl rfl ⟨rfl, rfl⟩ hR hcs rfl hsz rfl hW hdg) kk
/-! ===== X4_less ===== -/
theorem dX4_less_0 : decode cX4_less 0 = .ok (.aload_n 0, 1) := by decide +kernel
theorem dX4_less_1 : decode cX4_less 1 = .ok (.iconst 0, 1) := by decide +kernel
theorem dX4_less_2 : decode cX4_less 2 = .ok (.putfield 64, 3) := by decide +kernel
theorem dX4_less_5 : decode cX4_less 5 = .ok (.aload_n 0, 1) := by decide +kernel
theorem dX4_less_6 : decode cX4_less 6 = .ok (.iload_n 1, 1) := by decide +kernel
theorem dX4_less_7 : decode cX4_less 7 = .ok (.invokevirtual 183, 3) := by decide +kernel
theorem dX4_less_10 : decode cX4_less 10 = .ok (.ifCond .eq 11, 3) := by decide +kernel
theorem dX4_less_13 : decode cX4_less 13 = .ok (.aload_n 0, 1) := by decide +kernel
theorem dX4_less_14 : decode cX4_less 14 = .ok (.iload_n 2, 1) := by decide +kernel
theorem dX4_less_15 : decode cX4_less 15 = .ok (.invokevirtual 183, 3) := by decide +kernel
theorem dX4_less_18 : decode cX4_less 18 = .ok (.ifCond .ne 6, 3) := by decide +kernel
theorem dX4_less_21 : decode cX4_less 21 = .ok (.bipush (-3), 2) := by decide +kernel
theorem dX4_less_23 : decode cX4_less 23 = .ok (.ireturn, 1) := by decide +kernel
theorem dX4_less_24 : decode cX4_less 24 = .ok (.aload_n 0, 1) := by decide +kernel
theorem dX4_less_25 : decode cX4_less 25 = .ok (.iload_n 1, 1) := by decide +kernel
theorem dX4_less_26 : decode cX4_less 26 = .ok (.iload_n 2, 1) := by decide +kernel
theorem dX4_less_27 : decode cX4_less 27 = .ok (.invokevirtual 209, 3) := by decide +kernel
theorem dX4_less_30 : decode cX4_less 30 = .ok (.ifCond .eq 6, 3) := by decide +kernel
theorem dX4_less_33 : decode cX4_less 33 = .ok (.bipush (-4), 2) := by decide +kernel
theorem dX4_less_35 : decode cX4_less 35 = .ok (.ireturn, 1) := by decide +kernel
theorem dX4_less_36 : decode cX4_less 36 = .ok (.aload_n 0, 1) := by decide +kernel
theorem dX4_less_37 : decode cX4_less 37 = .ok (.iconst 2, 1) := by decide +kernel
theorem dX4_less_38 : decode cX4_less 38 = .ok (.iload_n 1, 1) := by decide +kernel
theorem dX4_less_39 : decode cX4_less 39 = .ok (.imul, 1) := by decide +kernel
theorem dX4_less_40 : decode cX4_less 40 = .ok (.invokevirtual 100, 3) := by decide +kernel
theorem dX4_less_43 : decode cX4_less 43 = .ok (.istore_n 3, 1) := by decide +kernel
theorem dX4_less_44 : decode cX4_less 44 = .ok (.aload_n 0, 1) := by decide +kernel
theorem dX4_less_45 : decode cX4_less 45 = .ok (.iload_n 3, 1) := by decide +kernel
theorem dX4_less_46 : decode cX4_less 46 = .ok (.iconst 2, 1) := by decide +kernel
theorem dX4_less_47 : decode cX4_less 47 = .ok (.iload_n 1, 1) := by decide +kernel
theorem dX4_less_48 : decode cX4_less 48 = .ok (.imul, 1) := by decide +kernel
theorem dX4_less_49 : decode cX4_less 49 = .ok (.invokevirtual 171, 3) := by decide +kernel
theorem dX4_less_52 : decode cX4_less 52 = .ok (.istore 4, 2) := by decide +kernel
theorem dX4_less_54 : decode cX4_less 54 = .ok (.aload_n 0, 1) := by decide +kernel
theorem dX4_less_55 : decode cX4_less 55 = .ok (.iload_n 3, 1) := by decide +kernel
theorem dX4_less_56 : decode cX4_less 56 = .ok (.iconst 2, 1) := by decide +kernel
theorem dX4_less_57 : decode cX4_less 57 = .ok (.iload_n 2, 1) := by decide +kernel
theorem dX4_less_58 : decode cX4_less 58 = .ok (.imul, 1) := by decide +kernel
theorem dX4_less_59 : decode cX4_less 59 = .ok (.invokevirtual 171, 3) := by decide +kernel
theorem dX4_less_62 : decode cX4_less 62 = .ok (.istore 5, 2) := by decide +kernel
theorem dX4_less_64 : decode cX4_less 64 = .ok (.iload 4, 2) := by decide +kernel
theorem dX4_less_66 : decode cX4_less 66 = .ok (.iload 5, 2) := by decide +kernel
theorem dX4_less_68 : decode cX4_less 68 = .ok (.if_icmp .ge 7, 3) := by decide +kernel
theorem dX4_less_71 : decode cX4_less 71 = .ok (.iconst 1, 1) := by decide +kernel
theorem dX4_less_72 : decode cX4_less 72 = .ok (.goto 15, 3) := by decide +kernel
theorem dX4_less_75 : decode cX4_less 75 = .ok (.iload 4, 2) := by decide +kernel
theorem dX4_less_77 : decode cX4_less 77 = .ok (.iload 5, 2) := by decide +kernel
theorem dX4_less_79 : decode cX4_less 79 = .ok (.if_icmp .le 7, 3) := by decide +kernel
theorem dX4_less_82 : decode cX4_less 82 = .ok (.iconst 2, 1) := by decide +kernel
theorem dX4_less_83 : decode cX4_less 83 = .ok (.goto 4, 3) := by decide +kernel
theorem dX4_less_86 : decode cX4_less 86 = .ok (.iconst 0, 1) := by decide +kernel
theorem dX4_less_87 : decode cX4_less 87 = .ok (.ireturn, 1) := by decide +kernel
def rmX4_less : Room := { frames := 2, cells := 0, slots := 0, locals := 45 }
noncomputable def f_X4_less (x1 : Int32) (x2 : Int32) (u : MS) : Option (Int32 × MS) := (f_X4_isThing x1 (mF u 0 0)).bind (fun z1 => (if z1 = 0 then some ((-3), (mF u 0 0)) else (f_X4_isThing x2 (mF u 0 0)).bind (fun z4 => (if z4 = 0 then some ((-3), (mF u 0 0)) else (f_X4_areApart x1 x2 (mF u 0 0)).bind (fun z7 => (if z7 = 0 then (f_X4_rowWith (2 * x1) (mF u 0 0)).bind (fun z10 => (f_X4_placeOf z10 (2 * x1) (mF u 0 0)).bind (fun z12 => (f_X4_placeOf z10 (2 * x2) (mF u 0 0)).bind (fun z14 => (if z14 ≤ z12 then (if z12 ≤ z14 then some (0, (mF u 0 0)) else some (2, (mF u 0 0))) else some (1, (mF u 0 0)))))) else some ((-4), (mF u 0 0))))))))
section
variable {p : Program} {l : Launch} {e : Env} {s : State} {m : MethodId} {args : Array Value} {below : List Frame} {meth : Method} {c : Code}
variable {G : GX} {A : Nat → Prop} {ad : Nat → Nat}
set_option maxHeartbeats 4000000 in
set_option maxRecDepth 100000 in
theorem w_X4_less_0 (F : FX p m c cX4_less 6 s args yX4_less (some .int) RX4 meth) {z : Int32 × MS} : ∀ (x1 : Int32) (x2 : Int32) (u : MS) (H : Heap) (locs : List Loc) (ls : Array Slot), WD G A s (mw G ad u) H locs → lv_has ls 6 [(0, .ref (ad 0)), (1, .int x1), (2, .int x2)] → f_X4_less x1 x2 u = some z → W p l e rmX4_less s m args below meth c H locs 0 0 (MQ below (QW G (mw G ad z.2) A (some (.int z.1))) args s 0 0 A) (F0 m 0 ls []) := by
  obtain ⟨⟨hx, hb, hml, hown, hts⟩, hr, hlocks⟩ := id F
  intro x1 x2 u H locs ls hw hl h
  unfold f_X4_less at h
  refine lv_aload_n hx hb dX4_less_0 rfl (lv_at hl 0 rfl) ?_
  refine lv_iconst (v := 0) hx hb dX4_less_1 rfl ?_
  refine m_p0 F hw dX4_less_2 (fun H locs hw => ?_)
  refine lv_aload_n hx hb dX4_less_5 rfl (lv_at hl 0 rfl) ?_
  refine lv_iload_n hx hb dX4_less_6 rfl (lv_at hl 1 rfl) ?_
  obtain ⟨z1, e2, h⟩ := bnd h
  refine k_X4_isThing F hw e2 ⟨Nat.le_of_ble_eq_true rfl, Nat.le_of_ble_eq_true rfl⟩ ⟨Nat.zero_le _, Nat.zero_le _⟩ hl.1 (Nat.le_of_ble_eq_true rfl) dX4_less_7 ?_
  refine lv_if_eq (tgt := 21) hx hb dX4_less_10 rfl (fun c3 => ?_) (fun c3 => ?_)
  · replace h := itT h c3
    refine lv_bipush (v := (-3)) hx hb dX4_less_21 rfl ?_
    cases h
    exact retW_i F hw dX4_less_23
  · replace h := itF h c3
    refine lv_aload_n hx hb dX4_less_13 rfl (lv_at hl 0 rfl) ?_
    refine lv_iload_n hx hb dX4_less_14 rfl (lv_at hl 2 rfl) ?_
    obtain ⟨z4, e5, h⟩ := bnd h
    refine k_X4_isThing F hw e5 ⟨Nat.le_of_ble_eq_true rfl, Nat.le_of_ble_eq_true rfl⟩ ⟨Nat.zero_le _, Nat.zero_le _⟩ hl.1 (Nat.le_of_ble_eq_true rfl) dX4_less_15 ?_
    refine lv_if_ne (tgt := 24) hx hb dX4_less_18 rfl (fun c6 => ?_) (fun c6 => ?_)
    · replace h := itF h c6
      refine lv_aload_n hx hb dX4_less_24 rfl (lv_at hl 0 rfl) ?_
      refine lv_iload_n hx hb dX4_less_25 rfl (lv_at hl 1 rfl) ?_
      refine lv_iload_n hx hb dX4_less_26 rfl (lv_at hl 2 rfl) ?_
      obtain ⟨z7, e8, h⟩ := bnd h
      refine k_X4_areApart F hw e8 ⟨Nat.le_of_ble_eq_true rfl, Nat.le_of_ble_eq_true rfl⟩ ⟨Nat.zero_le _, Nat.zero_le _⟩ hl.1 (Nat.le_of_ble_eq_true rfl) dX4_less_27 ?_
      refine lv_if_eq (tgt := 36) hx hb dX4_less_30 rfl (fun c9 => ?_) (fun c9 => ?_)
      · replace h := itT h c9
        refine lv_aload_n hx hb dX4_less_36 rfl (lv_at hl 0 rfl) ?_
        refine lv_iconst (v := 2) hx hb dX4_less_37 rfl ?_
        refine lv_iload_n hx hb dX4_less_38 rfl (lv_at hl 1 rfl) ?_
        refine lv_imul hx hb dX4_less_39 ?_
        obtain ⟨z10, e11, h⟩ := bnd h
        refine k_X4_rowWith F hw e11 ⟨Nat.le_of_ble_eq_true rfl, Nat.le_of_ble_eq_true rfl⟩ ⟨Nat.zero_le _, Nat.zero_le _⟩ hl.1 (Nat.le_of_ble_eq_true rfl) dX4_less_40 ?_
        refine lv_istore_n (lv' := [(3, .int z10), (0, .ref (ad 0)), (1, .int x1), (2, .int x2)]) hx hb dX4_less_43 rfl hl (by decide) rfl (fun ls hl => ?_)
        refine lv_aload_n hx hb dX4_less_44 rfl (lv_at hl 1 rfl) ?_
        refine lv_iload_n hx hb dX4_less_45 rfl (lv_at hl 0 rfl) ?_
        refine lv_iconst (v := 2) hx hb dX4_less_46 rfl ?_
        refine lv_iload_n hx hb dX4_less_47 rfl (lv_at hl 2 rfl) ?_
        refine lv_imul hx hb dX4_less_48 ?_
        obtain ⟨z12, e13, h⟩ := bnd h
        refine k_X4_placeOf F hw e13 ⟨Nat.le_of_ble_eq_true rfl, Nat.le_of_ble_eq_true rfl⟩ ⟨Nat.zero_le _, Nat.zero_le _⟩ hl.1 (Nat.le_of_ble_eq_true rfl) dX4_less_49 ?_
        refine lv_istore (lv' := [(4, .int z12), (3, .int z10), (0, .ref (ad 0)), (1, .int x1), (2, .int x2)]) hx hb dX4_less_52 hl (by decide) rfl (fun ls hl => ?_)
        refine lv_aload_n hx hb dX4_less_54 rfl (lv_at hl 2 rfl) ?_
        refine lv_iload_n hx hb dX4_less_55 rfl (lv_at hl 1 rfl) ?_
        refine lv_iconst (v := 2) hx hb dX4_less_56 rfl ?_
        refine lv_iload_n hx hb dX4_less_57 rfl (lv_at hl 4 rfl) ?_
        refine lv_imul hx hb dX4_less_58 ?_
        obtain ⟨z14, e15, h⟩ := bnd h
        refine k_X4_placeOf F hw e15 ⟨Nat.le_of_ble_eq_true rfl, Nat.le_of_ble_eq_true rfl⟩ ⟨Nat.zero_le _, Nat.zero_le _⟩ hl.1 (Nat.le_of_ble_eq_true rfl) dX4_less_59 ?_
        refine lv_istore (lv' := [(5, .int z14), (4, .int z12), (3, .int z10), (0, .ref (ad 0)), (1, .int x1), (2, .int x2)]) hx hb dX4_less_62 hl (by decide) rfl (fun ls hl => ?_)
        refine lv_iload hx hb dX4_less_64 (lv_at hl 1 rfl) ?_
        refine lv_iload hx hb dX4_less_66 (lv_at hl 0 rfl) ?_
        refine lv_icmp_ge (tgt := 75) hx hb dX4_less_68 rfl (fun c16 => ?_) (fun c16 => ?_)
        · replace h := itT h c16
          refine lv_iload hx hb dX4_less_75 (lv_at hl 1 rfl) ?_
          refine lv_iload hx hb dX4_less_77 (lv_at hl 0 rfl) ?_
          refine lv_icmp_le (tgt := 86) hx hb dX4_less_79 rfl (fun c17 => ?_) (fun c17 => ?_)
          · replace h := itT h c17
            refine lv_iconst (v := 0) hx hb dX4_less_86 rfl ?_
            cases h
            exact retW_i F hw dX4_less_87
          · replace h := itF h c17
            refine lv_iconst (v := 2) hx hb dX4_less_82 rfl ?_
            refine lv_goto (tgt := 87) hx hb dX4_less_83 rfl ?_
            cases h
            exact retW_i F hw dX4_less_87
        · replace h := itF h c16
          refine lv_iconst (v := 1) hx hb dX4_less_71 rfl ?_
          refine lv_goto (tgt := 87) hx hb dX4_less_72 rfl ?_
          cases h
          exact retW_i F hw dX4_less_87
      · replace h := itF h c9
        refine lv_bipush (v := (-4)) hx hb dX4_less_33 rfl ?_
        cases h
        exact retW_i F hw dX4_less_35
    · replace h := itT h c6
      refine lv_bipush (v := (-3)) hx hb dX4_less_21 rfl ?_
      cases h
      exact retW_i F hw dX4_less_23
end
theorem c_X4_less {l : Launch} {G : GX} {ad : Nat → Nat} {x1 : Int32} {x2 : Int32} {u : MS} {z : Int32 × MS} (h : f_X4_less x1 x2 u = some z) : MW l yX4_less cX4_less 6 (some .int) rmX4_less G (mw G ad u) (mw G ad z.2) [.ref (ad 0), .int x1, .int x2] (some (.int z.1)) := MW.of (by decide) (Nat.le_of_ble_eq_true rfl) (fun p e s m below meth c ls F hw hl => w_X4_less_0 F _ _ _ _ _ _ hw hl h)
/-! ===== X4_label ===== -/
theorem dX4_label_0 : decode cX4_label 0 = .ok (.aload_n 0, 1) := by decide +kernel
theorem dX4_label_1 : decode cX4_label 1 = .ok (.iconst 0, 1) := by decide +kernel
theorem dX4_label_2 : decode cX4_label 2 = .ok (.putfield 64, 3) := by decide +kernel
theorem dX4_label_5 : decode cX4_label 5 = .ok (.aload_n 0, 1) := by decide +kernel
theorem dX4_label_6 : decode cX4_label 6 = .ok (.iload_n 1, 1) := by decide +kernel
theorem dX4_label_7 : decode cX4_label 7 = .ok (.invokevirtual 183, 3) := by decide +kernel
theorem dX4_label_10 : decode cX4_label 10 = .ok (.ifCond .ne 7, 3) := by decide +kernel
theorem dX4_label_13 : decode cX4_label 13 = .ok (.ldc2_w 212, 3) := by decide +kernel
theorem dX4_label_16 : decode cX4_label 16 = .ok (.lreturn, 1) := by decide +kernel
theorem dX4_label_17 : decode cX4_label 17 = .ok (.aload_n 0, 1) := by decide +kernel
theorem dX4_label_18 : decode cX4_label 18 = .ok (.iconst 2, 1) := by decide +kernel
theorem dX4_label_19 : decode cX4_label 19 = .ok (.iload_n 1, 1) := by decide +kernel
theorem dX4_label_20 : decode cX4_label 20 = .ok (.imul, 1) := by decide +kernel
theorem dX4_label_21 : decode cX4_label 21 = .ok (.invokevirtual 100, 3) := by decide +kernel
theorem dX4_label_24 : decode cX4_label 24 = .ok (.istore_n 3, 1) := by decide +kernel
theorem dX4_label_25 : decode cX4_label 25 = .ok (.iload_n 2, 1) := by decide +kernel
theorem dX4_label_26 : decode cX4_label 26 = .ok (.ifCond .eq 17, 3) := by decide +kernel
theorem dX4_label_29 : decode cX4_label 29 = .ok (.aload_n 0, 1) := by decide +kernel
theorem dX4_label_30 : decode cX4_label 30 = .ok (.getfield 7, 3) := by decide +kernel
theorem dX4_label_33 : decode cX4_label 33 = .ok (.iload_n 3, 1) := by decide +kernel
theorem dX4_label_34 : decode cX4_label 34 = .ok (.iaload, 1) := by decide +kernel
theorem dX4_label_35 : decode cX4_label 35 = .ok (.iconst 3, 1) := by decide +kernel
theorem dX4_label_36 : decode cX4_label 36 = .ok (.if_icmp .eq 7, 3) := by decide +kernel
theorem dX4_label_39 : decode cX4_label 39 = .ok (.ldc2_w 212, 3) := by decide +kernel
theorem dX4_label_42 : decode cX4_label 42 = .ok (.lreturn, 1) := by decide +kernel
theorem dX4_label_43 : decode cX4_label 43 = .ok (.iconst 2, 1) := by decide +kernel
theorem dX4_label_44 : decode cX4_label 44 = .ok (.iload_n 1, 1) := by decide +kernel
theorem dX4_label_45 : decode cX4_label 45 = .ok (.imul, 1) := by decide +kernel
theorem dX4_label_46 : decode cX4_label 46 = .ok (.iload_n 2, 1) := by decide +kernel
theorem dX4_label_47 : decode cX4_label 47 = .ok (.ifCond .eq 7, 3) := by decide +kernel
theorem dX4_label_50 : decode cX4_label 50 = .ok (.iconst 1, 1) := by decide +kernel
theorem dX4_label_51 : decode cX4_label 51 = .ok (.goto 4, 3) := by decide +kernel
theorem dX4_label_54 : decode cX4_label 54 = .ok (.iconst 0, 1) := by decide +kernel
theorem dX4_label_55 : decode cX4_label 55 = .ok (.iadd, 1) := by decide +kernel
theorem dX4_label_56 : decode cX4_label 56 = .ok (.istore 4, 2) := by decide +kernel
theorem dX4_label_58 : decode cX4_label 58 = .ok (.aload_n 0, 1) := by decide +kernel
theorem dX4_label_59 : decode cX4_label 59 = .ok (.iload_n 3, 1) := by decide +kernel
theorem dX4_label_60 : decode cX4_label 60 = .ok (.invokevirtual 161, 3) := by decide +kernel
theorem dX4_label_63 : decode cX4_label 63 = .ok (.ifCond .eq 29, 3) := by decide +kernel
theorem dX4_label_66 : decode cX4_label 66 = .ok (.aload_n 0, 1) := by decide +kernel
theorem dX4_label_67 : decode cX4_label 67 = .ok (.getfield 31, 3) := by decide +kernel
theorem dX4_label_70 : decode cX4_label 70 = .ok (.sipush 600, 3) := by decide +kernel
theorem dX4_label_73 : decode cX4_label 73 = .ok (.iload_n 3, 1) := by decide +kernel
theorem dX4_label_74 : decode cX4_label 74 = .ok (.imul, 1) := by decide +kernel
theorem dX4_label_75 : decode cX4_label 75 = .ok (.aload_n 0, 1) := by decide +kernel
theorem dX4_label_76 : decode cX4_label 76 = .ok (.iload_n 3, 1) := by decide +kernel
theorem dX4_label_77 : decode cX4_label 77 = .ok (.aload_n 0, 1) := by decide +kernel
theorem dX4_label_78 : decode cX4_label 78 = .ok (.iload_n 3, 1) := by decide +kernel
theorem dX4_label_79 : decode cX4_label 79 = .ok (.iload 4, 2) := by decide +kernel
theorem dX4_label_81 : decode cX4_label 81 = .ok (.invokevirtual 171, 3) := by decide +kernel
theorem dX4_label_84 : decode cX4_label 84 = .ok (.invokevirtual 146, 3) := by decide +kernel
theorem dX4_label_87 : decode cX4_label 87 = .ok (.iadd, 1) := by decide +kernel
theorem dX4_label_88 : decode cX4_label 88 = .ok (.laload, 1) := by decide +kernel
theorem dX4_label_89 : decode cX4_label 89 = .ok (.goto 10, 3) := by decide +kernel
theorem dX4_label_92 : decode cX4_label 92 = .ok (.aload_n 0, 1) := by decide +kernel
theorem dX4_label_93 : decode cX4_label 93 = .ok (.getfield 35, 3) := by decide +kernel
theorem dX4_label_96 : decode cX4_label 96 = .ok (.iload 4, 2) := by decide +kernel
theorem dX4_label_98 : decode cX4_label 98 = .ok (.laload, 1) := by decide +kernel
theorem dX4_label_99 : decode cX4_label 99 = .ok (.lreturn, 1) := by decide +kernel
def rmX4_label : Room := { frames := 2, cells := 0, slots := 0, locals := 44 }
noncomputable def f_X4_label_55 (x3 : Int32) (t0 : Int32) (t1 : Int32) (u : MS) : Option (Int64 × MS) := (f_X4_hasBlocks x3 u).bind (fun z11 => (if z11 = 0 then (if ix (t0 + t1) 600 = true then some ((u.2.2 10 (Int32.toNatClampNeg (t0 + t1))), u) else none) else (f_X4_placeOf x3 (t0 + t1) u).bind (fun z15 => (f_X4_blockAt x3 z15 u).bind (fun z17 => (if ix ((600 * x3) + z17) 4800 = true then some ((u.2.2 9 (Int32.toNatClampNeg ((600 * x3) + z17))), u) else none)))))
noncomputable def f_X4_label (x1 : Int32) (x2 : Int32) (u : MS) : Option (Int64 × MS) := (f_X4_isThing x1 (mF u 0 0)).bind (fun z1 => (if z1 = 0 then some ((-3), (mF u 0 0)) else (f_X4_rowWith (2 * x1) (mF u 0 0)).bind (fun z4 => (if x2 = 0 then (if x2 = 0 then f_X4_label_55 z4 (2 * x1) 0 (mF u 0 0) else f_X4_label_55 z4 (2 * x1) 1 (mF u 0 0)) else (if ix z4 8 = true then (if ((mF u 0 0).2.1 2 (Int32.toNatClampNeg z4)) = (3 : Int32) then (if x2 = 0 then f_X4_label_55 z4 (2 * x1) 0 (mF u 0 0) else f_X4_label_55 z4 (2 * x1) 1 (mF u 0 0)) else some ((-3), (mF u 0 0))) else none)))))
section
variable {p : Program} {l : Launch} {e : Env} {s : State} {m : MethodId} {args : Array Value} {below : List Frame} {meth : Method} {c : Code}
variable {G : GX} {A : Nat → Prop} {ad : Nat → Nat}
set_option maxHeartbeats 4000000 in
set_option maxRecDepth 100000 in
theorem w_X4_label_55 (F : FX p m c cX4_label 5 s args yX4_label (some .long) RX4 meth) {z : Int64 × MS} : ∀ (x3 : Int32) (t0 : Int32) (t1 : Int32) (u : MS) (H : Heap) (locs : List Loc) (ls : Array Slot), WD G A s (mw G ad u) H locs → lv_has ls 5 [(0, .ref (ad 0)), (3, .int x3)] → f_X4_label_55 x3 t0 t1 u = some z → W p l e rmX4_label s m args below meth c H locs 0 0 (MQ below (QW G (mw G ad z.2) A (some (.long z.1))) args s 0 0 A) (F0 m 55 ls [.int t1, .int t0]) := by
  obtain ⟨⟨hx, hb, hml, hown, hts⟩, hr, hlocks⟩ := id F
  intro x3 t0 t1 u H locs ls hw hl h
  unfold f_X4_label_55 at h
  refine lv_iadd hx hb dX4_label_55 ?_
  refine lv_istore (lv' := [(4, .int (t0 + t1)), (0, .ref (ad 0)), (3, .int x3)]) hx hb dX4_label_56 hl (by decide) rfl (fun ls hl => ?_)
  refine lv_aload_n hx hb dX4_label_58 rfl (lv_at hl 1 rfl) ?_
  refine lv_iload_n hx hb dX4_label_59 rfl (lv_at hl 2 rfl) ?_
  obtain ⟨z11, e12, h⟩ := bnd h
  refine k_X4_hasBlocks F hw e12 ⟨Nat.le_of_ble_eq_true rfl, Nat.le_of_ble_eq_true rfl⟩ ⟨Nat.zero_le _, Nat.zero_le _⟩ hl.1 (Nat.le_of_ble_eq_true rfl) dX4_label_60 ?_
  refine lv_if_eq (tgt := 92) hx hb dX4_label_63 rfl (fun c13 => ?_) (fun c13 => ?_)
  · replace h := itT h c13
    refine lv_aload_n hx hb dX4_label_92 rfl (lv_at hl 1 rfl) ?_
    refine m_g10 F hw dX4_label_93 ?_
    refine lv_iload hx hb dX4_label_96 (lv_at hl 0 rfl) ?_
    obtain ⟨g14, h⟩ := gd h
    refine m_l10 F hw g14 dX4_label_98 ?_
    cases h
    exact retW_l F hw dX4_label_99
  · replace h := itF h c13
    refine lv_aload_n hx hb dX4_label_66 rfl (lv_at hl 1 rfl) ?_
    refine m_g9 F hw dX4_label_67 ?_
    refine lv_sipush (v := 600) hx hb dX4_label_70 rfl ?_
    refine lv_iload_n hx hb dX4_label_73 rfl (lv_at hl 2 rfl) ?_
    refine lv_imul hx hb dX4_label_74 ?_
    refine lv_aload_n hx hb dX4_label_75 rfl (lv_at hl 1 rfl) ?_
    refine lv_iload_n hx hb dX4_label_76 rfl (lv_at hl 2 rfl) ?_
    refine lv_aload_n hx hb dX4_label_77 rfl (lv_at hl 1 rfl) ?_
    refine lv_iload_n hx hb dX4_label_78 rfl (lv_at hl 2 rfl) ?_
    refine lv_iload hx hb dX4_label_79 (lv_at hl 0 rfl) ?_
    obtain ⟨z15, e16, h⟩ := bnd h
    refine k_X4_placeOf F hw e16 ⟨Nat.le_of_ble_eq_true rfl, Nat.le_of_ble_eq_true rfl⟩ ⟨Nat.zero_le _, Nat.zero_le _⟩ hl.1 (Nat.le_of_ble_eq_true rfl) dX4_label_81 ?_
    obtain ⟨z17, e18, h⟩ := bnd h
    refine k_X4_blockAt F hw e18 ⟨Nat.le_of_ble_eq_true rfl, Nat.le_of_ble_eq_true rfl⟩ ⟨Nat.zero_le _, Nat.zero_le _⟩ hl.1 (Nat.le_of_ble_eq_true rfl) dX4_label_84 ?_
    refine lv_iadd hx hb dX4_label_87 ?_
    obtain ⟨g19, h⟩ := gd h
    refine m_l9 F hw g19 dX4_label_88 ?_
    refine lv_goto (tgt := 99) hx hb dX4_label_89 rfl ?_
    cases h
    exact retW_l F hw dX4_label_99
set_option maxHeartbeats 4000000 in
set_option maxRecDepth 100000 in
theorem w_X4_label_0 (F : FX p m c cX4_label 5 s args yX4_label (some .long) RX4 meth) {z : Int64 × MS} : ∀ (x1 : Int32) (x2 : Int32) (u : MS) (H : Heap) (locs : List Loc) (ls : Array Slot), WD G A s (mw G ad u) H locs → lv_has ls 5 [(0, .ref (ad 0)), (1, .int x1), (2, .int x2)] → f_X4_label x1 x2 u = some z → W p l e rmX4_label s m args below meth c H locs 0 0 (MQ below (QW G (mw G ad z.2) A (some (.long z.1))) args s 0 0 A) (F0 m 0 ls []) := by
  obtain ⟨⟨hx, hb, hml, hown, hts⟩, hr, hlocks⟩ := id F
  intro x1 x2 u H locs ls hw hl h
  unfold f_X4_label at h
  refine lv_aload_n hx hb dX4_label_0 rfl (lv_at hl 0 rfl) ?_
  refine lv_iconst (v := 0) hx hb dX4_label_1 rfl ?_
  refine m_p0 F hw dX4_label_2 (fun H locs hw => ?_)
  refine lv_aload_n hx hb dX4_label_5 rfl (lv_at hl 0 rfl) ?_
  refine lv_iload_n hx hb dX4_label_6 rfl (lv_at hl 1 rfl) ?_
  obtain ⟨z1, e2, h⟩ := bnd h
  refine k_X4_isThing F hw e2 ⟨Nat.le_of_ble_eq_true rfl, Nat.le_of_ble_eq_true rfl⟩ ⟨Nat.zero_le _, Nat.zero_le _⟩ hl.1 (Nat.le_of_ble_eq_true rfl) dX4_label_7 ?_
  refine lv_if_ne (tgt := 17) hx hb dX4_label_10 rfl (fun c3 => ?_) (fun c3 => ?_)
  · replace h := itF h c3
    refine lv_aload_n hx hb dX4_label_17 rfl (lv_at hl 0 rfl) ?_
    refine lv_iconst (v := 2) hx hb dX4_label_18 rfl ?_
    refine lv_iload_n hx hb dX4_label_19 rfl (lv_at hl 1 rfl) ?_
    refine lv_imul hx hb dX4_label_20 ?_
    obtain ⟨z4, e5, h⟩ := bnd h
    refine k_X4_rowWith F hw e5 ⟨Nat.le_of_ble_eq_true rfl, Nat.le_of_ble_eq_true rfl⟩ ⟨Nat.zero_le _, Nat.zero_le _⟩ hl.1 (Nat.le_of_ble_eq_true rfl) dX4_label_21 ?_
    refine lv_istore_n (lv' := [(3, .int z4), (0, .ref (ad 0)), (1, .int x1), (2, .int x2)]) hx hb dX4_label_24 rfl hl (by decide) rfl (fun ls hl => ?_)
    refine lv_iload_n hx hb dX4_label_25 rfl (lv_at hl 3 rfl) ?_
    refine lv_if_eq (tgt := 43) hx hb dX4_label_26 rfl (fun c6 => ?_) (fun c6 => ?_)
    · replace h := itT h c6
      refine lv_iconst (v := 2) hx hb dX4_label_43 rfl ?_
      refine lv_iload_n hx hb dX4_label_44 rfl (lv_at hl 2 rfl) ?_
      refine lv_imul hx hb dX4_label_45 ?_
      refine lv_iload_n hx hb dX4_label_46 rfl (lv_at hl 3 rfl) ?_
      refine lv_if_eq (tgt := 54) hx hb dX4_label_47 rfl (fun c7 => ?_) (fun c7 => ?_)
      · replace h := itT h c7
        refine lv_iconst (v := 0) hx hb dX4_label_54 rfl ?_
        exact w_X4_label_55 F _ _ _ _ _ _ _ hw (lv_sub hl [1, 0] rfl) h
      · replace h := itF h c7
        refine lv_iconst (v := 1) hx hb dX4_label_50 rfl ?_
        refine lv_goto (tgt := 55) hx hb dX4_label_51 rfl ?_
        exact w_X4_label_55 F _ _ _ _ _ _ _ hw (lv_sub hl [1, 0] rfl) h
    · replace h := itF h c6
      refine lv_aload_n hx hb dX4_label_29 rfl (lv_at hl 1 rfl) ?_
      refine m_g2 F hw dX4_label_30 ?_
      refine lv_iload_n hx hb dX4_label_33 rfl (lv_at hl 0 rfl) ?_
      obtain ⟨g8, h⟩ := gd h
      refine m_l2 F hw g8 dX4_label_34 ?_
      refine lv_iconst (v := 3) hx hb dX4_label_35 rfl ?_
      refine lv_icmp_eq (tgt := 43) hx hb dX4_label_36 rfl (fun c9 => ?_) (fun c9 => ?_)
      · replace h := itT h c9
        refine lv_iconst (v := 2) hx hb dX4_label_43 rfl ?_
        refine lv_iload_n hx hb dX4_label_44 rfl (lv_at hl 2 rfl) ?_
        refine lv_imul hx hb dX4_label_45 ?_
        refine lv_iload_n hx hb dX4_label_46 rfl (lv_at hl 3 rfl) ?_
        refine lv_if_eq (tgt := 54) hx hb dX4_label_47 rfl (fun c10 => ?_) (fun c10 => ?_)
        · replace h := itT h c10
          refine lv_iconst (v := 0) hx hb dX4_label_54 rfl ?_
          exact w_X4_label_55 F _ _ _ _ _ _ _ hw (lv_sub hl [1, 0] rfl) h
        · replace h := itF h c10
          refine lv_iconst (v := 1) hx hb dX4_label_50 rfl ?_
          refine lv_goto (tgt := 55) hx hb dX4_label_51 rfl ?_
          exact w_X4_label_55 F _ _ _ _ _ _ _ hw (lv_sub hl [1, 0] rfl) h
      · replace h := itF h c9
        refine lv_ldc2 (own := RX4) (v := (-3)) hx hb hown (F.tb (tw 773 (by decide +kernel) rfl)) dX4_label_39 ?_
        cases h
        exact retW_l F hw dX4_label_42
  · replace h := itT h c3
    refine lv_ldc2 (own := RX4) (v := (-3)) hx hb hown (F.tb (tw 773 (by decide +kernel) rfl)) dX4_label_13 ?_
    cases h
    exact retW_l F hw dX4_label_16
end
theorem c_X4_label {l : Launch} {G : GX} {ad : Nat → Nat} {x1 : Int32} {x2 : Int32} {u : MS} {z : Int64 × MS} (h : f_X4_label x1 x2 u = some z) : MW l yX4_label cX4_label 5 (some .long) rmX4_label G (mw G ad u) (mw G ad z.2) [.ref (ad 0), .int x1, .int x2] (some (.long z.1)) := MW.of (by decide) (Nat.le_of_ble_eq_true rfl) (fun p e s m below meth c ls F hw hl => w_X4_label_0 F _ _ _ _ _ _ hw hl h)
/-! ===== X4_inner ===== -/
theorem dX4_inner_0 : decode cX4_inner 0 = .ok (.aload_n 0, 1) := by decide +kernel
theorem dX4_inner_1 : decode cX4_inner 1 = .ok (.iconst 0, 1) := by decide +kernel
theorem dX4_inner_2 : decode cX4_inner 2 = .ok (.putfield 64, 3) := by decide +kernel
theorem dX4_inner_5 : decode cX4_inner 5 = .ok (.aload_n 0, 1) := by decide +kernel
theorem dX4_inner_6 : decode cX4_inner 6 = .ok (.iload_n 1, 1) := by decide +kernel
theorem dX4_inner_7 : decode cX4_inner 7 = .ok (.invokevirtual 183, 3) := by decide +kernel
theorem dX4_inner_10 : decode cX4_inner 10 = .ok (.ifCond .ne 6, 3) := by decide +kernel
theorem dX4_inner_13 : decode cX4_inner 13 = .ok (.bipush (-3), 2) := by decide +kernel
theorem dX4_inner_15 : decode cX4_inner 15 = .ok (.ireturn, 1) := by decide +kernel
theorem dX4_inner_16 : decode cX4_inner 16 = .ok (.aload_n 0, 1) := by decide +kernel
theorem dX4_inner_17 : decode cX4_inner 17 = .ok (.iconst 2, 1) := by decide +kernel
theorem dX4_inner_18 : decode cX4_inner 18 = .ok (.iload_n 1, 1) := by decide +kernel
theorem dX4_inner_19 : decode cX4_inner 19 = .ok (.imul, 1) := by decide +kernel
theorem dX4_inner_20 : decode cX4_inner 20 = .ok (.invokevirtual 100, 3) := by decide +kernel
theorem dX4_inner_23 : decode cX4_inner 23 = .ok (.istore_n 3, 1) := by decide +kernel
theorem dX4_inner_24 : decode cX4_inner 24 = .ok (.iload_n 2, 1) := by decide +kernel
theorem dX4_inner_25 : decode cX4_inner 25 = .ok (.ifCond .eq 16, 3) := by decide +kernel
theorem dX4_inner_28 : decode cX4_inner 28 = .ok (.aload_n 0, 1) := by decide +kernel
theorem dX4_inner_29 : decode cX4_inner 29 = .ok (.getfield 7, 3) := by decide +kernel
theorem dX4_inner_32 : decode cX4_inner 32 = .ok (.iload_n 3, 1) := by decide +kernel
theorem dX4_inner_33 : decode cX4_inner 33 = .ok (.iaload, 1) := by decide +kernel
theorem dX4_inner_34 : decode cX4_inner 34 = .ok (.iconst 3, 1) := by decide +kernel
theorem dX4_inner_35 : decode cX4_inner 35 = .ok (.if_icmp .eq 6, 3) := by decide +kernel
theorem dX4_inner_38 : decode cX4_inner 38 = .ok (.bipush (-3), 2) := by decide +kernel
theorem dX4_inner_40 : decode cX4_inner 40 = .ok (.ireturn, 1) := by decide +kernel
theorem dX4_inner_41 : decode cX4_inner 41 = .ok (.aload_n 0, 1) := by decide +kernel
theorem dX4_inner_42 : decode cX4_inner 42 = .ok (.iload_n 3, 1) := by decide +kernel
theorem dX4_inner_43 : decode cX4_inner 43 = .ok (.invokevirtual 161, 3) := by decide +kernel
theorem dX4_inner_46 : decode cX4_inner 46 = .ok (.ifCond .eq 24, 3) := by decide +kernel
theorem dX4_inner_49 : decode cX4_inner 49 = .ok (.aload_n 0, 1) := by decide +kernel
theorem dX4_inner_50 : decode cX4_inner 50 = .ok (.getfield 38, 3) := by decide +kernel
theorem dX4_inner_53 : decode cX4_inner 53 = .ok (.iconst 2, 1) := by decide +kernel
theorem dX4_inner_54 : decode cX4_inner 54 = .ok (.iload_n 1, 1) := by decide +kernel
theorem dX4_inner_55 : decode cX4_inner 55 = .ok (.imul, 1) := by decide +kernel
theorem dX4_inner_56 : decode cX4_inner 56 = .ok (.iload_n 2, 1) := by decide +kernel
theorem dX4_inner_57 : decode cX4_inner 57 = .ok (.ifCond .eq 7, 3) := by decide +kernel
theorem dX4_inner_60 : decode cX4_inner 60 = .ok (.iconst 1, 1) := by decide +kernel
theorem dX4_inner_61 : decode cX4_inner 61 = .ok (.goto 4, 3) := by decide +kernel
theorem dX4_inner_64 : decode cX4_inner 64 = .ok (.iconst 0, 1) := by decide +kernel
theorem dX4_inner_65 : decode cX4_inner 65 = .ok (.iadd, 1) := by decide +kernel
theorem dX4_inner_66 : decode cX4_inner 66 = .ok (.iaload, 1) := by decide +kernel
theorem dX4_inner_67 : decode cX4_inner 67 = .ok (.goto 4, 3) := by decide +kernel
theorem dX4_inner_70 : decode cX4_inner 70 = .ok (.iconst (-1), 1) := by decide +kernel
theorem dX4_inner_71 : decode cX4_inner 71 = .ok (.ireturn, 1) := by decide +kernel
def rmX4_inner : Room := { frames := 2, cells := 0, slots := 0, locals := 44 }
noncomputable def f_X4_inner (x1 : Int32) (x2 : Int32) (u : MS) : Option (Int32 × MS) := (f_X4_isThing x1 (mF u 0 0)).bind (fun z1 => (if z1 = 0 then some ((-3), (mF u 0 0)) else (f_X4_rowWith (2 * x1) (mF u 0 0)).bind (fun z4 => (if x2 = 0 then (f_X4_hasBlocks z4 (mF u 0 0)).bind (fun z7 => (if z7 = 0 then some ((-1), (mF u 0 0)) else (if x2 = 0 then (if ix ((2 * x1) + 0) 600 = true then some (((mF u 0 0).2.1 11 (Int32.toNatClampNeg ((2 * x1) + 0))), (mF u 0 0)) else none) else (if ix ((2 * x1) + 1) 600 = true then some (((mF u 0 0).2.1 11 (Int32.toNatClampNeg ((2 * x1) + 1))), (mF u 0 0)) else none)))) else (if ix z4 8 = true then (if ((mF u 0 0).2.1 2 (Int32.toNatClampNeg z4)) = (3 : Int32) then (f_X4_hasBlocks z4 (mF u 0 0)).bind (fun z15 => (if z15 = 0 then some ((-1), (mF u 0 0)) else (if x2 = 0 then (if ix ((2 * x1) + 0) 600 = true then some (((mF u 0 0).2.1 11 (Int32.toNatClampNeg ((2 * x1) + 0))), (mF u 0 0)) else none) else (if ix ((2 * x1) + 1) 600 = true then some (((mF u 0 0).2.1 11 (Int32.toNatClampNeg ((2 * x1) + 1))), (mF u 0 0)) else none)))) else some ((-3), (mF u 0 0))) else none)))))
section
variable {p : Program} {l : Launch} {e : Env} {s : State} {m : MethodId} {args : Array Value} {below : List Frame} {meth : Method} {c : Code}
variable {G : GX} {A : Nat → Prop} {ad : Nat → Nat}
set_option maxHeartbeats 4000000 in
set_option maxRecDepth 100000 in
theorem w_X4_inner_0 (F : FX p m c cX4_inner 4 s args yX4_inner (some .int) RX4 meth) {z : Int32 × MS} : ∀ (x1 : Int32) (x2 : Int32) (u : MS) (H : Heap) (locs : List Loc) (ls : Array Slot), WD G A s (mw G ad u) H locs → lv_has ls 4 [(0, .ref (ad 0)), (1, .int x1), (2, .int x2)] → f_X4_inner x1 x2 u = some z → W p l e rmX4_inner s m args below meth c H locs 0 0 (MQ below (QW G (mw G ad z.2) A (some (.int z.1))) args s 0 0 A) (F0 m 0 ls []) := by
  obtain ⟨⟨hx, hb, hml, hown, hts⟩, hr, hlocks⟩ := id F
  intro x1 x2 u H locs ls hw hl h
  unfold f_X4_inner at h
  refine lv_aload_n hx hb dX4_inner_0 rfl (lv_at hl 0 rfl) ?_
  refine lv_iconst (v := 0) hx hb dX4_inner_1 rfl ?_
  refine m_p0 F hw dX4_inner_2 (fun H locs hw => ?_)
  refine lv_aload_n hx hb dX4_inner_5 rfl (lv_at hl 0 rfl) ?_
  refine lv_iload_n hx hb dX4_inner_6 rfl (lv_at hl 1 rfl) ?_
  obtain ⟨z1, e2, h⟩ := bnd h
  refine k_X4_isThing F hw e2 ⟨Nat.le_of_ble_eq_true rfl, Nat.le_of_ble_eq_true rfl⟩ ⟨Nat.zero_le _, Nat.zero_le _⟩ hl.1 (Nat.le_of_ble_eq_true rfl) dX4_inner_7 ?_
  refine lv_if_ne (tgt := 16) hx hb dX4_inner_10 rfl (fun c3 => ?_) (fun c3 => ?_)
  · replace h := itF h c3
    refine lv_aload_n hx hb dX4_inner_16 rfl (lv_at hl 0 rfl) ?_
    refine lv_iconst (v := 2) hx hb dX4_inner_17 rfl ?_
    refine lv_iload_n hx hb dX4_inner_18 rfl (lv_at hl 1 rfl) ?_
    refine lv_imul hx hb dX4_inner_19 ?_
    obtain ⟨z4, e5, h⟩ := bnd h
    refine k_X4_rowWith F hw e5 ⟨Nat.le_of_ble_eq_true rfl, Nat.le_of_ble_eq_true rfl⟩ ⟨Nat.zero_le _, Nat.zero_le _⟩ hl.1 (Nat.le_of_ble_eq_true rfl) dX4_inner_20 ?_
    refine lv_istore_n (lv' := [(3, .int z4), (0, .ref (ad 0)), (1, .int x1), (2, .int x2)]) hx hb dX4_inner_23 rfl hl (by decide) rfl (fun ls hl => ?_)
    refine lv_iload_n hx hb dX4_inner_24 rfl (lv_at hl 3 rfl) ?_
    refine lv_if_eq (tgt := 41) hx hb dX4_inner_25 rfl (fun c6 => ?_) (fun c6 => ?_)
    · replace h := itT h c6
      refine lv_aload_n hx hb dX4_inner_41 rfl (lv_at hl 1 rfl) ?_
      refine lv_iload_n hx hb dX4_inner_42 rfl (lv_at hl 0 rfl) ?_
      obtain ⟨z7, e8, h⟩ := bnd h
      refine k_X4_hasBlocks F hw e8 ⟨Nat.le_of_ble_eq_true rfl, Nat.le_of_ble_eq_true rfl⟩ ⟨Nat.zero_le _, Nat.zero_le _⟩ hl.1 (Nat.le_of_ble_eq_true rfl) dX4_inner_43 ?_
      refine lv_if_eq (tgt := 70) hx hb dX4_inner_46 rfl (fun c9 => ?_) (fun c9 => ?_)
      · replace h := itT h c9
        refine lv_iconst (v := (-1)) hx hb dX4_inner_70 rfl ?_
        cases h
        exact retW_i F hw dX4_inner_71
      · replace h := itF h c9
        refine lv_aload_n hx hb dX4_inner_49 rfl (lv_at hl 1 rfl) ?_
        refine m_g11 F hw dX4_inner_50 ?_
        refine lv_iconst (v := 2) hx hb dX4_inner_53 rfl ?_
        refine lv_iload_n hx hb dX4_inner_54 rfl (lv_at hl 2 rfl) ?_
        refine lv_imul hx hb dX4_inner_55 ?_
        refine lv_iload_n hx hb dX4_inner_56 rfl (lv_at hl 3 rfl) ?_
        refine lv_if_eq (tgt := 64) hx hb dX4_inner_57 rfl (fun c10 => ?_) (fun c10 => ?_)
        · replace h := itT h c10
          refine lv_iconst (v := 0) hx hb dX4_inner_64 rfl ?_
          refine lv_iadd hx hb dX4_inner_65 ?_
          obtain ⟨g11, h⟩ := gd h
          refine m_l11 F hw g11 dX4_inner_66 ?_
          refine lv_goto (tgt := 71) hx hb dX4_inner_67 rfl ?_
          cases h
          exact retW_i F hw dX4_inner_71
        · replace h := itF h c10
          refine lv_iconst (v := 1) hx hb dX4_inner_60 rfl ?_
          refine lv_goto (tgt := 65) hx hb dX4_inner_61 rfl ?_
          refine lv_iadd hx hb dX4_inner_65 ?_
          obtain ⟨g12, h⟩ := gd h
          refine m_l11 F hw g12 dX4_inner_66 ?_
          refine lv_goto (tgt := 71) hx hb dX4_inner_67 rfl ?_
          cases h
          exact retW_i F hw dX4_inner_71
    · replace h := itF h c6
      refine lv_aload_n hx hb dX4_inner_28 rfl (lv_at hl 1 rfl) ?_
      refine m_g2 F hw dX4_inner_29 ?_
      refine lv_iload_n hx hb dX4_inner_32 rfl (lv_at hl 0 rfl) ?_
      obtain ⟨g13, h⟩ := gd h
      refine m_l2 F hw g13 dX4_inner_33 ?_
      refine lv_iconst (v := 3) hx hb dX4_inner_34 rfl ?_
      refine lv_icmp_eq (tgt := 41) hx hb dX4_inner_35 rfl (fun c14 => ?_) (fun c14 => ?_)
      · replace h := itT h c14
        refine lv_aload_n hx hb dX4_inner_41 rfl (lv_at hl 1 rfl) ?_
        refine lv_iload_n hx hb dX4_inner_42 rfl (lv_at hl 0 rfl) ?_
        obtain ⟨z15, e16, h⟩ := bnd h
        refine k_X4_hasBlocks F hw e16 ⟨Nat.le_of_ble_eq_true rfl, Nat.le_of_ble_eq_true rfl⟩ ⟨Nat.zero_le _, Nat.zero_le _⟩ hl.1 (Nat.le_of_ble_eq_true rfl) dX4_inner_43 ?_
        refine lv_if_eq (tgt := 70) hx hb dX4_inner_46 rfl (fun c17 => ?_) (fun c17 => ?_)
        · replace h := itT h c17
          refine lv_iconst (v := (-1)) hx hb dX4_inner_70 rfl ?_
          cases h
          exact retW_i F hw dX4_inner_71
        · replace h := itF h c17
          refine lv_aload_n hx hb dX4_inner_49 rfl (lv_at hl 1 rfl) ?_
          refine m_g11 F hw dX4_inner_50 ?_
          refine lv_iconst (v := 2) hx hb dX4_inner_53 rfl ?_
          refine lv_iload_n hx hb dX4_inner_54 rfl (lv_at hl 2 rfl) ?_
          refine lv_imul hx hb dX4_inner_55 ?_
          refine lv_iload_n hx hb dX4_inner_56 rfl (lv_at hl 3 rfl) ?_
          refine lv_if_eq (tgt := 64) hx hb dX4_inner_57 rfl (fun c18 => ?_) (fun c18 => ?_)
          · replace h := itT h c18
            refine lv_iconst (v := 0) hx hb dX4_inner_64 rfl ?_
            refine lv_iadd hx hb dX4_inner_65 ?_
            obtain ⟨g19, h⟩ := gd h
            refine m_l11 F hw g19 dX4_inner_66 ?_
            refine lv_goto (tgt := 71) hx hb dX4_inner_67 rfl ?_
            cases h
            exact retW_i F hw dX4_inner_71
          · replace h := itF h c18
            refine lv_iconst (v := 1) hx hb dX4_inner_60 rfl ?_
            refine lv_goto (tgt := 65) hx hb dX4_inner_61 rfl ?_
            refine lv_iadd hx hb dX4_inner_65 ?_
            obtain ⟨g20, h⟩ := gd h
            refine m_l11 F hw g20 dX4_inner_66 ?_
            refine lv_goto (tgt := 71) hx hb dX4_inner_67 rfl ?_
            cases h
            exact retW_i F hw dX4_inner_71
      · replace h := itF h c14
        refine lv_bipush (v := (-3)) hx hb dX4_inner_38 rfl ?_
        cases h
        exact retW_i F hw dX4_inner_40
  · replace h := itT h c3
    refine lv_bipush (v := (-3)) hx hb dX4_inner_13 rfl ?_
    cases h
    exact retW_i F hw dX4_inner_15
end
theorem c_X4_inner {l : Launch} {G : GX} {ad : Nat → Nat} {x1 : Int32} {x2 : Int32} {u : MS} {z : Int32 × MS} (h : f_X4_inner x1 x2 u = some z) : MW l yX4_inner cX4_inner 4 (some .int) rmX4_inner G (mw G ad u) (mw G ad z.2) [.ref (ad 0), .int x1, .int x2] (some (.int z.1)) := MW.of (by decide) (Nat.le_of_ble_eq_true rfl) (fun p e s m below meth c ls F hw hl => w_X4_inner_0 F _ _ _ _ _ _ hw hl h)
/-! ===== X4_thingFrom ===== -/
theorem dX4_thingFrom_0 : decode cX4_thingFrom 0 = .ok (.iload_n 2, 1) := by decide +kernel
theorem dX4_thingFrom_1 : decode cX4_thingFrom 1 = .ok (.istore 4, 2) := by decide +kernel
theorem dX4_thingFrom_3 : decode cX4_thingFrom 3 = .ok (.iload 4, 2) := by decide +kernel
theorem dX4_thingFrom_5 : decode cX4_thingFrom 5 = .ok (.ifCond .lt 57, 3) := by decide +kernel
theorem dX4_thingFrom_8 : decode cX4_thingFrom 8 = .ok (.iload 4, 2) := by decide +kernel
theorem dX4_thingFrom_10 : decode cX4_thingFrom 10 = .ok (.aload_n 0, 1) := by decide +kernel
theorem dX4_thingFrom_11 : decode cX4_thingFrom 11 = .ok (.getfield 16, 3) := by decide +kernel
theorem dX4_thingFrom_14 : decode cX4_thingFrom 14 = .ok (.iload_n 1, 1) := by decide +kernel
theorem dX4_thingFrom_15 : decode cX4_thingFrom 15 = .ok (.iaload, 1) := by decide +kernel
theorem dX4_thingFrom_16 : decode cX4_thingFrom 16 = .ok (.if_icmp .ge 46, 3) := by decide +kernel
theorem dX4_thingFrom_19 : decode cX4_thingFrom 19 = .ok (.aload_n 0, 1) := by decide +kernel
theorem dX4_thingFrom_20 : decode cX4_thingFrom 20 = .ok (.getfield 25, 3) := by decide +kernel
theorem dX4_thingFrom_23 : decode cX4_thingFrom 23 = .ok (.sipush 600, 3) := by decide +kernel
theorem dX4_thingFrom_26 : decode cX4_thingFrom 26 = .ok (.iload_n 1, 1) := by decide +kernel
theorem dX4_thingFrom_27 : decode cX4_thingFrom 27 = .ok (.imul, 1) := by decide +kernel
theorem dX4_thingFrom_28 : decode cX4_thingFrom 28 = .ok (.iload 4, 2) := by decide +kernel
theorem dX4_thingFrom_30 : decode cX4_thingFrom 30 = .ok (.iadd, 1) := by decide +kernel
theorem dX4_thingFrom_31 : decode cX4_thingFrom 31 = .ok (.iaload, 1) := by decide +kernel
theorem dX4_thingFrom_32 : decode cX4_thingFrom 32 = .ok (.iconst 2, 1) := by decide +kernel
theorem dX4_thingFrom_33 : decode cX4_thingFrom 33 = .ok (.irem, 1) := by decide +kernel
theorem dX4_thingFrom_34 : decode cX4_thingFrom 34 = .ok (.ifCond .ne 19, 3) := by decide +kernel
theorem dX4_thingFrom_37 : decode cX4_thingFrom 37 = .ok (.aload_n 0, 1) := by decide +kernel
theorem dX4_thingFrom_38 : decode cX4_thingFrom 38 = .ok (.getfield 25, 3) := by decide +kernel
theorem dX4_thingFrom_41 : decode cX4_thingFrom 41 = .ok (.sipush 600, 3) := by decide +kernel
theorem dX4_thingFrom_44 : decode cX4_thingFrom 44 = .ok (.iload_n 1, 1) := by decide +kernel
theorem dX4_thingFrom_45 : decode cX4_thingFrom 45 = .ok (.imul, 1) := by decide +kernel
theorem dX4_thingFrom_46 : decode cX4_thingFrom 46 = .ok (.iload 4, 2) := by decide +kernel
theorem dX4_thingFrom_48 : decode cX4_thingFrom 48 = .ok (.iadd, 1) := by decide +kernel
theorem dX4_thingFrom_49 : decode cX4_thingFrom 49 = .ok (.iaload, 1) := by decide +kernel
theorem dX4_thingFrom_50 : decode cX4_thingFrom 50 = .ok (.iconst 2, 1) := by decide +kernel
theorem dX4_thingFrom_51 : decode cX4_thingFrom 51 = .ok (.idiv, 1) := by decide +kernel
theorem dX4_thingFrom_52 : decode cX4_thingFrom 52 = .ok (.ireturn, 1) := by decide +kernel
theorem dX4_thingFrom_53 : decode cX4_thingFrom 53 = .ok (.iload 4, 2) := by decide +kernel
theorem dX4_thingFrom_55 : decode cX4_thingFrom 55 = .ok (.iload_n 3, 1) := by decide +kernel
theorem dX4_thingFrom_56 : decode cX4_thingFrom 56 = .ok (.iadd, 1) := by decide +kernel
theorem dX4_thingFrom_57 : decode cX4_thingFrom 57 = .ok (.istore 4, 2) := by decide +kernel
theorem dX4_thingFrom_59 : decode cX4_thingFrom 59 = .ok (.goto (-56), 3) := by decide +kernel
theorem dX4_thingFrom_62 : decode cX4_thingFrom 62 = .ok (.iconst (-1), 1) := by decide +kernel
theorem dX4_thingFrom_63 : decode cX4_thingFrom 63 = .ok (.ireturn, 1) := by decide +kernel
def rmX4_thingFrom : Room := { frames := 0, cells := 0, slots := 0, locals := 0 }
noncomputable def f_X4_thingFrom_3 : Nat → Int32 → Int32 → Int32 → MS → Option (Int32)
  | 0, _, _, _, _ => none
  | n + 1, x1, x3, x4, u => (if x4 < 0 then some (-1) else (if ix x1 8 = true then (if (u.2.1 4 (Int32.toNatClampNeg x1)) ≤ x4 then some (-1) else (if ix ((600 * x1) + x4) 4800 = true then (if ((u.2.1 7 (Int32.toNatClampNeg ((600 * x1) + x4))) - (u.2.1 7 (Int32.toNatClampNeg ((600 * x1) + x4))) / 2 * 2) = 0 then (if ix ((600 * x1) + x4) 4800 = true then some ((u.2.1 7 (Int32.toNatClampNeg ((600 * x1) + x4))) / 2) else none) else f_X4_thingFrom_3 n x1 x3 (x4 + x3) u) else none)) else none))
noncomputable def f_X4_thingFrom (x1 : Int32) (x2 : Int32) (x3 : Int32) (u : MS) : Option (Int32) := f_X4_thingFrom_3 NF x1 x3 x2 u
section
variable {p : Program} {l : Launch} {e : Env} {s : State} {m : MethodId} {args : Array Value} {below : List Frame} {meth : Method} {c : Code}
variable {G : GX} {A : Nat → Prop} {ad : Nat → Nat}
set_option maxHeartbeats 4000000 in
set_option maxRecDepth 100000 in
theorem w_X4_thingFrom_3 (F : FX p m c cX4_thingFrom 5 s args yX4_thingFrom (some .int) RX4 meth) {z : Int32} : ∀ (n : Nat) (x1 : Int32) (x3 : Int32) (x4 : Int32) (u : MS) (ls : Array Slot), WD G A s (mw G ad u) s.heap [] → lv_has ls 5 [(0, .ref (ad 0)), (1, .int x1), (3, .int x3), (4, .int x4)] → f_X4_thingFrom_3 n x1 x3 x4 u = some z → W p l e rmX4_thingFrom s m args below meth c s.heap [] 0 0 (MQ below (QO (some (.int z))) args s 0 0 (fun _ => False)) (F0 m 3 ls []) := by
  obtain ⟨⟨hx, hb, hml, hown, hts⟩, hr, hlocks⟩ := id F
  intro n
  induction n with
  | zero =>
    intro x1 x3 x4 u ls hw hl h
    rw [f_X4_thingFrom_3] at h
    cases h
  | succ n ih =>
    intro x1 x3 x4 u ls hw hl h
    rw [f_X4_thingFrom_3] at h
    refine lv_iload hx hb dX4_thingFrom_3 (lv_at hl 3 rfl) ?_
    refine lv_if_lt (tgt := 62) hx hb dX4_thingFrom_5 rfl (fun c1 => ?_) (fun c1 => ?_)
    · replace h := itT h c1
      refine lv_iconst (v := (-1)) hx hb dX4_thingFrom_62 rfl ?_
      cases h
      exact retO_i F dX4_thingFrom_63
    · replace h := itF h c1
      refine lv_iload hx hb dX4_thingFrom_8 (lv_at hl 3 rfl) ?_
      refine lv_aload_n hx hb dX4_thingFrom_10 rfl (lv_at hl 0 rfl) ?_
      refine m_g4 F hw dX4_thingFrom_11 ?_
      refine lv_iload_n hx hb dX4_thingFrom_14 rfl (lv_at hl 1 rfl) ?_
      obtain ⟨g2, h⟩ := gd h
      refine m_l4 F hw g2 dX4_thingFrom_15 ?_
      refine lv_icmp_ge (tgt := 62) hx hb dX4_thingFrom_16 rfl (fun c3 => ?_) (fun c3 => ?_)
      · replace h := itT h c3
        refine lv_iconst (v := (-1)) hx hb dX4_thingFrom_62 rfl ?_
        cases h
        exact retO_i F dX4_thingFrom_63
      · replace h := itF h c3
        refine lv_aload_n hx hb dX4_thingFrom_19 rfl (lv_at hl 0 rfl) ?_
        refine m_g7 F hw dX4_thingFrom_20 ?_
        refine lv_sipush (v := 600) hx hb dX4_thingFrom_23 rfl ?_
        refine lv_iload_n hx hb dX4_thingFrom_26 rfl (lv_at hl 1 rfl) ?_
        refine lv_imul hx hb dX4_thingFrom_27 ?_
        refine lv_iload hx hb dX4_thingFrom_28 (lv_at hl 3 rfl) ?_
        refine lv_iadd hx hb dX4_thingFrom_30 ?_
        obtain ⟨g4, h⟩ := gd h
        refine m_l7 F hw g4 dX4_thingFrom_31 ?_
        refine lv_iconst (v := 2) hx hb dX4_thingFrom_32 rfl ?_
        refine lv_irem hx hb dX4_thingFrom_33 (by decide) ?_
        refine lv_if_ne (tgt := 53) hx hb dX4_thingFrom_34 rfl (fun c5 => ?_) (fun c5 => ?_)
        · replace h := itF h c5
          refine lv_iload hx hb dX4_thingFrom_53 (lv_at hl 3 rfl) ?_
          refine lv_iload_n hx hb dX4_thingFrom_55 rfl (lv_at hl 2 rfl) ?_
          refine lv_iadd hx hb dX4_thingFrom_56 ?_
          refine lv_istore (lv' := [(4, .int (x4 + x3)), (0, .ref (ad 0)), (1, .int x1), (3, .int x3)]) hx hb dX4_thingFrom_57 hl (by decide) rfl (fun ls hl => ?_)
          refine lv_goto (tgt := 3) hx hb dX4_thingFrom_59 rfl ?_
          exact ih _ _ _ _ _ hw (lv_sub hl [1, 2, 3, 0] rfl) h
        · replace h := itT h c5
          refine lv_aload_n hx hb dX4_thingFrom_37 rfl (lv_at hl 0 rfl) ?_
          refine m_g7 F hw dX4_thingFrom_38 ?_
          refine lv_sipush (v := 600) hx hb dX4_thingFrom_41 rfl ?_
          refine lv_iload_n hx hb dX4_thingFrom_44 rfl (lv_at hl 1 rfl) ?_
          refine lv_imul hx hb dX4_thingFrom_45 ?_
          refine lv_iload hx hb dX4_thingFrom_46 (lv_at hl 3 rfl) ?_
          refine lv_iadd hx hb dX4_thingFrom_48 ?_
          obtain ⟨g6, h⟩ := gd h
          refine m_l7 F hw g6 dX4_thingFrom_49 ?_
          refine lv_iconst (v := 2) hx hb dX4_thingFrom_50 rfl ?_
          refine lv_idiv hx hb dX4_thingFrom_51 (by decide) ?_
          cases h
          exact retO_i F dX4_thingFrom_52
set_option maxHeartbeats 4000000 in
set_option maxRecDepth 100000 in
theorem w_X4_thingFrom_0 (F : FX p m c cX4_thingFrom 5 s args yX4_thingFrom (some .int) RX4 meth) {z : Int32} : ∀ (x1 : Int32) (x2 : Int32) (x3 : Int32) (u : MS) (ls : Array Slot), WD G A s (mw G ad u) s.heap [] → lv_has ls 5 [(0, .ref (ad 0)), (1, .int x1), (2, .int x2), (3, .int x3)] → f_X4_thingFrom x1 x2 x3 u = some z → W p l e rmX4_thingFrom s m args below meth c s.heap [] 0 0 (MQ below (QO (some (.int z))) args s 0 0 (fun _ => False)) (F0 m 0 ls []) := by
  obtain ⟨⟨hx, hb, hml, hown, hts⟩, hr, hlocks⟩ := id F
  intro x1 x2 x3 u ls hw hl h
  unfold f_X4_thingFrom at h
  refine lv_iload_n hx hb dX4_thingFrom_0 rfl (lv_at hl 2 rfl) ?_
  refine lv_istore (lv' := [(4, .int x2), (0, .ref (ad 0)), (1, .int x1), (2, .int x2), (3, .int x3)]) hx hb dX4_thingFrom_1 hl (by decide) rfl (fun ls hl => ?_)
  exact w_X4_thingFrom_3 F NF _ _ _ _ _ hw (lv_sub hl [1, 2, 4, 0] rfl) h
end
theorem c_X4_thingFrom {l : Launch} {G : GX} {ad : Nat → Nat} {x1 : Int32} {x2 : Int32} {x3 : Int32} {u : MS} {z : Int32} (h : f_X4_thingFrom x1 x2 x3 u = some z) : MO l yX4_thingFrom cX4_thingFrom 5 (some .int) rmX4_thingFrom G (mw G ad u) [.ref (ad 0), .int x1, .int x2, .int x3] (some (.int z)) := MO.of (by decide) (Nat.le_of_ble_eq_true rfl) (fun p e s m below meth c ls F hw hl => w_X4_thingFrom_0 F _ _ _ _ _ hw hl h)
theorem yv_X4_thingFrom : YV RX4 220 yX4_thingFrom cX4_thingFrom 5 (some .int) 3 := ⟨(tw 785 (by decide +kernel) rfl), (tw 6 (by decide +kernel) rfl), (tw 782 (by decide +kernel) rfl), (tw 784 (by decide +kernel) rfl), (tp 46 (by decide +kernel) rfl), by decide +kernel⟩
theorem k_X4_thingFrom {p : Program} {l : Launch} {e : Env} {R : Room} {s : State} {m : MethodId} {args : Array Value} {below : List Frame} {meth : Method} {c : Code} {H : Heap} {locs : List Loc} {cells slots : Nat} {Q : State → Prop} {G : GX} {A : Nat → Prop} {ad : Nat → Nat} {cc : ByteArray} {nL pc : Nat} {y0 : MethodName} {ret0 : Option FieldType} {ls : Array Slot} {rest : List Value} {u : MS} {x1 : Int32} {x2 : Int32} {x3 : Int32} {z : Int32} (F : FX p m c cc nL s args y0 ret0 RX4 meth) (hw : WD G A s (mw G ad u) H locs) (h : f_X4_thingFrom x1 x2 x3 u = some z) (hR : rmX4_thingFrom.frames + 1 ≤ R.frames ∧ 8 + (5 + 11) + rmX4_thingFrom.locals ≤ R.locals) (hcs : cells ≤ R.cells ∧ slots ≤ R.slots) (hsz : ls.size = nL) (hW : (rest.map fun v => v.category).sum ≤ 8) (hdg : decode cc pc = .ok (.invokevirtual 220, 3)) (kk : W p l e R s m args below meth c H locs cells slots Q (F0 m (pc + 3) ls (.int z :: rest))) : W p l e R s m args below meth c H locs cells slots Q (F0 m pc ls (.int x3 :: .int x2 :: .int x1 :: .ref (ad 0) :: rest)) := callO (runV F yv_X4_thingFrom (c_X4_thingFrom h) hw.1 hw.2.1 hw.2.2.1 rfl rfl rfl ⟨rfl, rfl⟩ hR hcs rfl hsz rfl hW hdg) kk
/-! ===== X4_near ===== -/
theorem dX4_near_0 : decode cX4_near 0 = .ok (.aload_n 0, 1) := by decide +kernel
theorem dX4_near_1 : decode cX4_near 1 = .ok (.iconst 0, 1) := by decide +kernel
theorem dX4_near_2 : decode cX4_near 2 = .ok (.putfield 64, 3) := by decide +kernel
theorem dX4_near_5 : decode cX4_near 5 = .ok (.aload_n 0, 1) := by decide +kernel
theorem dX4_near_6 : decode cX4_near 6 = .ok (.iload_n 1, 1) := by decide +kernel
theorem dX4_near_7 : decode cX4_near 7 = .ok (.invokevirtual 183, 3) := by decide +kernel
theorem dX4_near_10 : decode cX4_near 10 = .ok (.ifCond .eq 12, 3) := by decide +kernel
theorem dX4_near_13 : decode cX4_near 13 = .ok (.iload_n 2, 1) := by decide +kernel
theorem dX4_near_14 : decode cX4_near 14 = .ok (.iconst 0, 1) := by decide +kernel
theorem dX4_near_15 : decode cX4_near 15 = .ok (.iconst 3, 1) := by decide +kernel
theorem dX4_near_16 : decode cX4_near 16 = .ok (.invokestatic 93, 3) := by decide +kernel
theorem dX4_near_19 : decode cX4_near 19 = .ok (.ifCond .ne 6, 3) := by decide +kernel
theorem dX4_near_22 : decode cX4_near 22 = .ok (.bipush (-3), 2) := by decide +kernel
theorem dX4_near_24 : decode cX4_near 24 = .ok (.ireturn, 1) := by decide +kernel
theorem dX4_near_25 : decode cX4_near 25 = .ok (.aload_n 0, 1) := by decide +kernel
theorem dX4_near_26 : decode cX4_near 26 = .ok (.iconst 2, 1) := by decide +kernel
theorem dX4_near_27 : decode cX4_near 27 = .ok (.iload_n 1, 1) := by decide +kernel
theorem dX4_near_28 : decode cX4_near 28 = .ok (.imul, 1) := by decide +kernel
theorem dX4_near_29 : decode cX4_near 29 = .ok (.invokevirtual 100, 3) := by decide +kernel
theorem dX4_near_32 : decode cX4_near 32 = .ok (.istore_n 3, 1) := by decide +kernel
theorem dX4_near_33 : decode cX4_near 33 = .ok (.aload_n 0, 1) := by decide +kernel
theorem dX4_near_34 : decode cX4_near 34 = .ok (.iload_n 3, 1) := by decide +kernel
theorem dX4_near_35 : decode cX4_near 35 = .ok (.iconst 2, 1) := by decide +kernel
theorem dX4_near_36 : decode cX4_near 36 = .ok (.iload_n 1, 1) := by decide +kernel
theorem dX4_near_37 : decode cX4_near 37 = .ok (.imul, 1) := by decide +kernel
theorem dX4_near_38 : decode cX4_near 38 = .ok (.invokevirtual 171, 3) := by decide +kernel
theorem dX4_near_41 : decode cX4_near 41 = .ok (.istore 4, 2) := by decide +kernel
theorem dX4_near_43 : decode cX4_near 43 = .ok (.iload_n 2, 1) := by decide +kernel
theorem dX4_near_44 : decode cX4_near 44 = .ok (.ifCond .ne 14, 3) := by decide +kernel
theorem dX4_near_47 : decode cX4_near 47 = .ok (.aload_n 0, 1) := by decide +kernel
theorem dX4_near_48 : decode cX4_near 48 = .ok (.iload_n 3, 1) := by decide +kernel
theorem dX4_near_49 : decode cX4_near 49 = .ok (.iload 4, 2) := by decide +kernel
theorem dX4_near_51 : decode cX4_near 51 = .ok (.iconst 1, 1) := by decide +kernel
theorem dX4_near_52 : decode cX4_near 52 = .ok (.isub, 1) := by decide +kernel
theorem dX4_near_53 : decode cX4_near 53 = .ok (.iconst (-1), 1) := by decide +kernel
theorem dX4_near_54 : decode cX4_near 54 = .ok (.invokevirtual 220, 3) := by decide +kernel
theorem dX4_near_57 : decode cX4_near 57 = .ok (.ireturn, 1) := by decide +kernel
theorem dX4_near_58 : decode cX4_near 58 = .ok (.iload_n 2, 1) := by decide +kernel
theorem dX4_near_59 : decode cX4_near 59 = .ok (.iconst 1, 1) := by decide +kernel
theorem dX4_near_60 : decode cX4_near 60 = .ok (.if_icmp .ne 14, 3) := by decide +kernel
theorem dX4_near_63 : decode cX4_near 63 = .ok (.aload_n 0, 1) := by decide +kernel
theorem dX4_near_64 : decode cX4_near 64 = .ok (.iload_n 3, 1) := by decide +kernel
theorem dX4_near_65 : decode cX4_near 65 = .ok (.iload 4, 2) := by decide +kernel
theorem dX4_near_67 : decode cX4_near 67 = .ok (.iconst 1, 1) := by decide +kernel
theorem dX4_near_68 : decode cX4_near 68 = .ok (.iadd, 1) := by decide +kernel
theorem dX4_near_69 : decode cX4_near 69 = .ok (.iconst 1, 1) := by decide +kernel
theorem dX4_near_70 : decode cX4_near 70 = .ok (.invokevirtual 220, 3) := by decide +kernel
theorem dX4_near_73 : decode cX4_near 73 = .ok (.ireturn, 1) := by decide +kernel
theorem dX4_near_74 : decode cX4_near 74 = .ok (.iload_n 2, 1) := by decide +kernel
theorem dX4_near_75 : decode cX4_near 75 = .ok (.iconst 2, 1) := by decide +kernel
theorem dX4_near_76 : decode cX4_near 76 = .ok (.if_icmp .ne 10, 3) := by decide +kernel
theorem dX4_near_79 : decode cX4_near 79 = .ok (.aload_n 0, 1) := by decide +kernel
theorem dX4_near_80 : decode cX4_near 80 = .ok (.iload_n 3, 1) := by decide +kernel
theorem dX4_near_81 : decode cX4_near 81 = .ok (.iload_n 1, 1) := by decide +kernel
theorem dX4_near_82 : decode cX4_near 82 = .ok (.invokevirtual 217, 3) := by decide +kernel
theorem dX4_near_85 : decode cX4_near 85 = .ok (.ireturn, 1) := by decide +kernel
theorem dX4_near_86 : decode cX4_near 86 = .ok (.aload_n 0, 1) := by decide +kernel
theorem dX4_near_87 : decode cX4_near 87 = .ok (.iload_n 3, 1) := by decide +kernel
theorem dX4_near_88 : decode cX4_near 88 = .ok (.iload_n 1, 1) := by decide +kernel
theorem dX4_near_89 : decode cX4_near 89 = .ok (.invokevirtual 196, 3) := by decide +kernel
theorem dX4_near_92 : decode cX4_near 92 = .ok (.iconst 2, 1) := by decide +kernel
theorem dX4_near_93 : decode cX4_near 93 = .ok (.if_icmp .le 23, 3) := by decide +kernel
theorem dX4_near_96 : decode cX4_near 96 = .ok (.aload_n 0, 1) := by decide +kernel
theorem dX4_near_97 : decode cX4_near 97 = .ok (.getfield 25, 3) := by decide +kernel
theorem dX4_near_100 : decode cX4_near 100 = .ok (.sipush 600, 3) := by decide +kernel
theorem dX4_near_103 : decode cX4_near 103 = .ok (.iload_n 3, 1) := by decide +kernel
theorem dX4_near_104 : decode cX4_near 104 = .ok (.imul, 1) := by decide +kernel
theorem dX4_near_105 : decode cX4_near 105 = .ok (.iload 4, 2) := by decide +kernel
theorem dX4_near_107 : decode cX4_near 107 = .ok (.iadd, 1) := by decide +kernel
theorem dX4_near_108 : decode cX4_near 108 = .ok (.iconst 1, 1) := by decide +kernel
theorem dX4_near_109 : decode cX4_near 109 = .ok (.iadd, 1) := by decide +kernel
theorem dX4_near_110 : decode cX4_near 110 = .ok (.iaload, 1) := by decide +kernel
theorem dX4_near_111 : decode cX4_near 111 = .ok (.iconst 2, 1) := by decide +kernel
theorem dX4_near_112 : decode cX4_near 112 = .ok (.idiv, 1) := by decide +kernel
theorem dX4_near_113 : decode cX4_near 113 = .ok (.goto 4, 3) := by decide +kernel
theorem dX4_near_116 : decode cX4_near 116 = .ok (.iconst (-1), 1) := by decide +kernel
theorem dX4_near_117 : decode cX4_near 117 = .ok (.ireturn, 1) := by decide +kernel
def rmX4_near : Room := { frames := 4, cells := 0, slots := 0, locals := 95 }
noncomputable def f_X4_near (x1 : Int32) (x2 : Int32) (u : MS) : Option (Int32 × MS) := (f_X4_isThing x1 (mF u 0 0)).bind (fun z1 => (if z1 = 0 then some ((-3), (mF u 0 0)) else (f_X4_in x2 0 3).bind (fun z4 => (if z4 = 0 then some ((-3), (mF u 0 0)) else (f_X4_rowWith (2 * x1) (mF u 0 0)).bind (fun z7 => (f_X4_placeOf z7 (2 * x1) (mF u 0 0)).bind (fun z9 => (if x2 = 0 then (f_X4_thingFrom z7 (z9 - 1) (-1) (mF u 0 0)).bind (fun z22 => some (z22, (mF u 0 0))) else (if x2 = (1 : Int32) then (f_X4_thingFrom z7 (z9 + 1) 1 (mF u 0 0)).bind (fun z20 => some (z20, (mF u 0 0))) else (if x2 = (2 : Int32) then (f_X4_outerOf z7 x1 (mF u 0 0)).bind (fun z18 => some (z18, (mF u 0 0))) else (f_X4_span z7 x1 (mF u 0 0)).bind (fun z14 => (if z14 ≤ (2 : Int32) then some ((-1), (mF u 0 0)) else (if ix (((600 * z7) + z9) + 1) 4800 = true then some ((((mF u 0 0).2.1 7 (Int32.toNatClampNeg (((600 * z7) + z9) + 1))) / 2), (mF u 0 0)) else none))))))))))))
section
variable {p : Program} {l : Launch} {e : Env} {s : State} {m : MethodId} {args : Array Value} {below : List Frame} {meth : Method} {c : Code}
variable {G : GX} {A : Nat → Prop} {ad : Nat → Nat}
set_option maxHeartbeats 4000000 in
set_option maxRecDepth 100000 in
theorem w_X4_near_0 (F : FX p m c cX4_near 5 s args yX4_near (some .int) RX4 meth) {z : Int32 × MS} : ∀ (x1 : Int32) (x2 : Int32) (u : MS) (H : Heap) (locs : List Loc) (ls : Array Slot), WD G A s (mw G ad u) H locs → lv_has ls 5 [(0, .ref (ad 0)), (1, .int x1), (2, .int x2)] → f_X4_near x1 x2 u = some z → W p l e rmX4_near s m args below meth c H locs 0 0 (MQ below (QW G (mw G ad z.2) A (some (.int z.1))) args s 0 0 A) (F0 m 0 ls []) := by
  obtain ⟨⟨hx, hb, hml, hown, hts⟩, hr, hlocks⟩ := id F
  intro x1 x2 u H locs ls hw hl h
  unfold f_X4_near at h
  refine lv_aload_n hx hb dX4_near_0 rfl (lv_at hl 0 rfl) ?_
  refine lv_iconst (v := 0) hx hb dX4_near_1 rfl ?_
  refine m_p0 F hw dX4_near_2 (fun H locs hw => ?_)
  refine lv_aload_n hx hb dX4_near_5 rfl (lv_at hl 0 rfl) ?_
  refine lv_iload_n hx hb dX4_near_6 rfl (lv_at hl 1 rfl) ?_
  obtain ⟨z1, e2, h⟩ := bnd h
  refine k_X4_isThing F hw e2 ⟨Nat.le_of_ble_eq_true rfl, Nat.le_of_ble_eq_true rfl⟩ ⟨Nat.zero_le _, Nat.zero_le _⟩ hl.1 (Nat.le_of_ble_eq_true rfl) dX4_near_7 ?_
  refine lv_if_eq (tgt := 22) hx hb dX4_near_10 rfl (fun c3 => ?_) (fun c3 => ?_)
  · replace h := itT h c3
    refine lv_bipush (v := (-3)) hx hb dX4_near_22 rfl ?_
    cases h
    exact retW_i F hw dX4_near_24
  · replace h := itF h c3
    refine lv_iload_n hx hb dX4_near_13 rfl (lv_at hl 2 rfl) ?_
    refine lv_iconst (v := 0) hx hb dX4_near_14 rfl ?_
    refine lv_iconst (v := 3) hx hb dX4_near_15 rfl ?_
    obtain ⟨z4, e5, h⟩ := bnd h
    refine k_X4_in F hw e5 ⟨Nat.le_of_ble_eq_true rfl, Nat.le_of_ble_eq_true rfl⟩ ⟨Nat.zero_le _, Nat.zero_le _⟩ hl.1 (Nat.le_of_ble_eq_true rfl) dX4_near_16 ?_
    refine lv_if_ne (tgt := 25) hx hb dX4_near_19 rfl (fun c6 => ?_) (fun c6 => ?_)
    · replace h := itF h c6
      refine lv_aload_n hx hb dX4_near_25 rfl (lv_at hl 0 rfl) ?_
      refine lv_iconst (v := 2) hx hb dX4_near_26 rfl ?_
      refine lv_iload_n hx hb dX4_near_27 rfl (lv_at hl 1 rfl) ?_
      refine lv_imul hx hb dX4_near_28 ?_
      obtain ⟨z7, e8, h⟩ := bnd h
      refine k_X4_rowWith F hw e8 ⟨Nat.le_of_ble_eq_true rfl, Nat.le_of_ble_eq_true rfl⟩ ⟨Nat.zero_le _, Nat.zero_le _⟩ hl.1 (Nat.le_of_ble_eq_true rfl) dX4_near_29 ?_
      refine lv_istore_n (lv' := [(3, .int z7), (0, .ref (ad 0)), (1, .int x1), (2, .int x2)]) hx hb dX4_near_32 rfl hl (by decide) rfl (fun ls hl => ?_)
      refine lv_aload_n hx hb dX4_near_33 rfl (lv_at hl 1 rfl) ?_
      refine lv_iload_n hx hb dX4_near_34 rfl (lv_at hl 0 rfl) ?_
      refine lv_iconst (v := 2) hx hb dX4_near_35 rfl ?_
      refine lv_iload_n hx hb dX4_near_36 rfl (lv_at hl 2 rfl) ?_
      refine lv_imul hx hb dX4_near_37 ?_
      obtain ⟨z9, e10, h⟩ := bnd h
      refine k_X4_placeOf F hw e10 ⟨Nat.le_of_ble_eq_true rfl, Nat.le_of_ble_eq_true rfl⟩ ⟨Nat.zero_le _, Nat.zero_le _⟩ hl.1 (Nat.le_of_ble_eq_true rfl) dX4_near_38 ?_
      refine lv_istore (lv' := [(4, .int z9), (3, .int z7), (0, .ref (ad 0)), (1, .int x1), (2, .int x2)]) hx hb dX4_near_41 hl (by decide) rfl (fun ls hl => ?_)
      refine lv_iload_n hx hb dX4_near_43 rfl (lv_at hl 4 rfl) ?_
      refine lv_if_ne (tgt := 58) hx hb dX4_near_44 rfl (fun c11 => ?_) (fun c11 => ?_)
      · replace h := itF h c11
        refine lv_iload_n hx hb dX4_near_58 rfl (lv_at hl 4 rfl) ?_
        refine lv_iconst (v := 1) hx hb dX4_near_59 rfl ?_
        refine lv_icmp_ne (tgt := 74) hx hb dX4_near_60 rfl (fun c12 => ?_) (fun c12 => ?_)
        · replace h := itF h c12
          refine lv_iload_n hx hb dX4_near_74 rfl (lv_at hl 4 rfl) ?_
          refine lv_iconst (v := 2) hx hb dX4_near_75 rfl ?_
          refine lv_icmp_ne (tgt := 86) hx hb dX4_near_76 rfl (fun c13 => ?_) (fun c13 => ?_)
          · replace h := itF h c13
            refine lv_aload_n hx hb dX4_near_86 rfl (lv_at hl 2 rfl) ?_
            refine lv_iload_n hx hb dX4_near_87 rfl (lv_at hl 1 rfl) ?_
            refine lv_iload_n hx hb dX4_near_88 rfl (lv_at hl 3 rfl) ?_
            obtain ⟨z14, e15, h⟩ := bnd h
            refine k_X4_span F hw e15 ⟨Nat.le_of_ble_eq_true rfl, Nat.le_of_ble_eq_true rfl⟩ ⟨Nat.zero_le _, Nat.zero_le _⟩ hl.1 (Nat.le_of_ble_eq_true rfl) dX4_near_89 ?_
            refine lv_iconst (v := 2) hx hb dX4_near_92 rfl ?_
            refine lv_icmp_le (tgt := 116) hx hb dX4_near_93 rfl (fun c16 => ?_) (fun c16 => ?_)
            · replace h := itT h c16
              refine lv_iconst (v := (-1)) hx hb dX4_near_116 rfl ?_
              cases h
              exact retW_i F hw dX4_near_117
            · replace h := itF h c16
              refine lv_aload_n hx hb dX4_near_96 rfl (lv_at hl 2 rfl) ?_
              refine m_g7 F hw dX4_near_97 ?_
              refine lv_sipush (v := 600) hx hb dX4_near_100 rfl ?_
              refine lv_iload_n hx hb dX4_near_103 rfl (lv_at hl 1 rfl) ?_
              refine lv_imul hx hb dX4_near_104 ?_
              refine lv_iload hx hb dX4_near_105 (lv_at hl 0 rfl) ?_
              refine lv_iadd hx hb dX4_near_107 ?_
              refine lv_iconst (v := 1) hx hb dX4_near_108 rfl ?_
              refine lv_iadd hx hb dX4_near_109 ?_
              obtain ⟨g17, h⟩ := gd h
              refine m_l7 F hw g17 dX4_near_110 ?_
              refine lv_iconst (v := 2) hx hb dX4_near_111 rfl ?_
              refine lv_idiv hx hb dX4_near_112 (by decide) ?_
              refine lv_goto (tgt := 117) hx hb dX4_near_113 rfl ?_
              cases h
              exact retW_i F hw dX4_near_117
          · replace h := itT h c13
            refine lv_aload_n hx hb dX4_near_79 rfl (lv_at hl 2 rfl) ?_
            refine lv_iload_n hx hb dX4_near_80 rfl (lv_at hl 1 rfl) ?_
            refine lv_iload_n hx hb dX4_near_81 rfl (lv_at hl 3 rfl) ?_
            obtain ⟨z18, e19, h⟩ := bnd h
            refine k_X4_outerOf F hw e19 ⟨Nat.le_of_ble_eq_true rfl, Nat.le_of_ble_eq_true rfl⟩ ⟨Nat.zero_le _, Nat.zero_le _⟩ hl.1 (Nat.le_of_ble_eq_true rfl) dX4_near_82 ?_
            cases h
            exact retW_i F hw dX4_near_85
        · replace h := itT h c12
          refine lv_aload_n hx hb dX4_near_63 rfl (lv_at hl 2 rfl) ?_
          refine lv_iload_n hx hb dX4_near_64 rfl (lv_at hl 1 rfl) ?_
          refine lv_iload hx hb dX4_near_65 (lv_at hl 0 rfl) ?_
          refine lv_iconst (v := 1) hx hb dX4_near_67 rfl ?_
          refine lv_iadd hx hb dX4_near_68 ?_
          refine lv_iconst (v := 1) hx hb dX4_near_69 rfl ?_
          obtain ⟨z20, e21, h⟩ := bnd h
          refine k_X4_thingFrom F hw e21 ⟨Nat.le_of_ble_eq_true rfl, Nat.le_of_ble_eq_true rfl⟩ ⟨Nat.zero_le _, Nat.zero_le _⟩ hl.1 (Nat.le_of_ble_eq_true rfl) dX4_near_70 ?_
          cases h
          exact retW_i F hw dX4_near_73
      · replace h := itT h c11
        refine lv_aload_n hx hb dX4_near_47 rfl (lv_at hl 2 rfl) ?_
        refine lv_iload_n hx hb dX4_near_48 rfl (lv_at hl 1 rfl) ?_
        refine lv_iload hx hb dX4_near_49 (lv_at hl 0 rfl) ?_
        refine lv_iconst (v := 1) hx hb dX4_near_51 rfl ?_
        refine lv_isub hx hb dX4_near_52 ?_
        refine lv_iconst (v := (-1)) hx hb dX4_near_53 rfl ?_
        obtain ⟨z22, e23, h⟩ := bnd h
        refine k_X4_thingFrom F hw e23 ⟨Nat.le_of_ble_eq_true rfl, Nat.le_of_ble_eq_true rfl⟩ ⟨Nat.zero_le _, Nat.zero_le _⟩ hl.1 (Nat.le_of_ble_eq_true rfl) dX4_near_54 ?_
        cases h
        exact retW_i F hw dX4_near_57
    · replace h := itT h c6
      refine lv_bipush (v := (-3)) hx hb dX4_near_22 rfl ?_
      cases h
      exact retW_i F hw dX4_near_24
end
theorem c_X4_near {l : Launch} {G : GX} {ad : Nat → Nat} {x1 : Int32} {x2 : Int32} {u : MS} {z : Int32 × MS} (h : f_X4_near x1 x2 u = some z) : MW l yX4_near cX4_near 5 (some .int) rmX4_near G (mw G ad u) (mw G ad z.2) [.ref (ad 0), .int x1, .int x2] (some (.int z.1)) := MW.of (by decide) (Nat.le_of_ble_eq_true rfl) (fun p e s m below meth c ls F hw hl => w_X4_near_0 F _ _ _ _ _ _ hw hl h)
/-! ===== X4_indexOf ===== -/
theorem dX4_indexOf_0 : decode cX4_indexOf 0 = .ok (.iconst 0, 1) := by decide +kernel
theorem dX4_indexOf_1 : decode cX4_indexOf 1 = .ok (.istore_n 3, 1) := by decide +kernel
theorem dX4_indexOf_2 : decode cX4_indexOf 2 = .ok (.aload_n 0, 1) := by decide +kernel
theorem dX4_indexOf_3 : decode cX4_indexOf 3 = .ok (.iload_n 1, 1) := by decide +kernel
theorem dX4_indexOf_4 : decode cX4_indexOf 4 = .ok (.iconst 2, 1) := by decide +kernel
theorem dX4_indexOf_5 : decode cX4_indexOf 5 = .ok (.iload_n 2, 1) := by decide +kernel
theorem dX4_indexOf_6 : decode cX4_indexOf 6 = .ok (.imul, 1) := by decide +kernel
theorem dX4_indexOf_7 : decode cX4_indexOf 7 = .ok (.invokevirtual 171, 3) := by decide +kernel
theorem dX4_indexOf_10 : decode cX4_indexOf 10 = .ok (.istore 4, 2) := by decide +kernel
theorem dX4_indexOf_12 : decode cX4_indexOf 12 = .ok (.iconst 0, 1) := by decide +kernel
theorem dX4_indexOf_13 : decode cX4_indexOf 13 = .ok (.istore 5, 2) := by decide +kernel
theorem dX4_indexOf_15 : decode cX4_indexOf 15 = .ok (.iload 5, 2) := by decide +kernel
theorem dX4_indexOf_17 : decode cX4_indexOf 17 = .ok (.iload 4, 2) := by decide +kernel
theorem dX4_indexOf_19 : decode cX4_indexOf 19 = .ok (.if_icmp .ge 35, 3) := by decide +kernel
theorem dX4_indexOf_22 : decode cX4_indexOf 22 = .ok (.iload_n 3, 1) := by decide +kernel
theorem dX4_indexOf_23 : decode cX4_indexOf 23 = .ok (.aload_n 0, 1) := by decide +kernel
theorem dX4_indexOf_24 : decode cX4_indexOf 24 = .ok (.getfield 25, 3) := by decide +kernel
theorem dX4_indexOf_27 : decode cX4_indexOf 27 = .ok (.sipush 600, 3) := by decide +kernel
theorem dX4_indexOf_30 : decode cX4_indexOf 30 = .ok (.iload_n 1, 1) := by decide +kernel
theorem dX4_indexOf_31 : decode cX4_indexOf 31 = .ok (.imul, 1) := by decide +kernel
theorem dX4_indexOf_32 : decode cX4_indexOf 32 = .ok (.iload 5, 2) := by decide +kernel
theorem dX4_indexOf_34 : decode cX4_indexOf 34 = .ok (.iadd, 1) := by decide +kernel
theorem dX4_indexOf_35 : decode cX4_indexOf 35 = .ok (.iaload, 1) := by decide +kernel
theorem dX4_indexOf_36 : decode cX4_indexOf 36 = .ok (.iconst 2, 1) := by decide +kernel
theorem dX4_indexOf_37 : decode cX4_indexOf 37 = .ok (.irem, 1) := by decide +kernel
theorem dX4_indexOf_38 : decode cX4_indexOf 38 = .ok (.ifCond .ne 7, 3) := by decide +kernel
theorem dX4_indexOf_41 : decode cX4_indexOf 41 = .ok (.iconst 1, 1) := by decide +kernel
theorem dX4_indexOf_42 : decode cX4_indexOf 42 = .ok (.goto 4, 3) := by decide +kernel
theorem dX4_indexOf_45 : decode cX4_indexOf 45 = .ok (.iconst 0, 1) := by decide +kernel
theorem dX4_indexOf_46 : decode cX4_indexOf 46 = .ok (.iadd, 1) := by decide +kernel
theorem dX4_indexOf_47 : decode cX4_indexOf 47 = .ok (.istore_n 3, 1) := by decide +kernel
theorem dX4_indexOf_48 : decode cX4_indexOf 48 = .ok (.iinc 5 1, 3) := by decide +kernel
theorem dX4_indexOf_51 : decode cX4_indexOf 51 = .ok (.goto (-36), 3) := by decide +kernel
theorem dX4_indexOf_54 : decode cX4_indexOf 54 = .ok (.iload_n 3, 1) := by decide +kernel
theorem dX4_indexOf_55 : decode cX4_indexOf 55 = .ok (.ireturn, 1) := by decide +kernel
def rmX4_indexOf : Room := { frames := 1, cells := 0, slots := 0, locals := 23 }
noncomputable def f_X4_indexOf_15 : Nat → Int32 → Int32 → Int32 → Int32 → MS → Option (Int32)
  | 0, _, _, _, _, _ => none
  | n + 1, x1, x3, x4, x5, u => (if x4 ≤ x5 then some x3 else (if ix ((600 * x1) + x5) 4800 = true then (if ((u.2.1 7 (Int32.toNatClampNeg ((600 * x1) + x5))) - (u.2.1 7 (Int32.toNatClampNeg ((600 * x1) + x5))) / 2 * 2) = 0 then f_X4_indexOf_15 n x1 (x3 + 1) x4 (x5 + 1) u else f_X4_indexOf_15 n x1 (x3 + 0) x4 (x5 + 1) u) else none))
noncomputable def f_X4_indexOf (x1 : Int32) (x2 : Int32) (u : MS) : Option (Int32) := (f_X4_placeOf x1 (2 * x2) u).bind (fun z1 => f_X4_indexOf_15 NF x1 0 z1 0 u)
section
variable {p : Program} {l : Launch} {e : Env} {s : State} {m : MethodId} {args : Array Value} {below : List Frame} {meth : Method} {c : Code}
variable {G : GX} {A : Nat → Prop} {ad : Nat → Nat}
set_option maxHeartbeats 4000000 in
set_option maxRecDepth 100000 in
theorem w_X4_indexOf_15 (F : FX p m c cX4_indexOf 6 s args yX4_indexOf (some .int) RX4 meth) {z : Int32} : ∀ (n : Nat) (x1 : Int32) (x3 : Int32) (x4 : Int32) (x5 : Int32) (u : MS) (ls : Array Slot), WD G A s (mw G ad u) s.heap [] → lv_has ls 6 [(0, .ref (ad 0)), (1, .int x1), (3, .int x3), (4, .int x4), (5, .int x5)] → f_X4_indexOf_15 n x1 x3 x4 x5 u = some z → W p l e rmX4_indexOf s m args below meth c s.heap [] 0 0 (MQ below (QO (some (.int z))) args s 0 0 (fun _ => False)) (F0 m 15 ls []) := by
  obtain ⟨⟨hx, hb, hml, hown, hts⟩, hr, hlocks⟩ := id F
  intro n
  induction n with
  | zero =>
    intro x1 x3 x4 x5 u ls hw hl h
    rw [f_X4_indexOf_15] at h
    cases h
  | succ n ih =>
    intro x1 x3 x4 x5 u ls hw hl h
    rw [f_X4_indexOf_15] at h
    refine lv_iload hx hb dX4_indexOf_15 (lv_at hl 4 rfl) ?_
    refine lv_iload hx hb dX4_indexOf_17 (lv_at hl 3 rfl) ?_
    refine lv_icmp_ge (tgt := 54) hx hb dX4_indexOf_19 rfl (fun c3 => ?_) (fun c3 => ?_)
    · replace h := itT h c3
      refine lv_iload_n hx hb dX4_indexOf_54 rfl (lv_at hl 2 rfl) ?_
      cases h
      exact retO_i F dX4_indexOf_55
    · replace h := itF h c3
      refine lv_iload_n hx hb dX4_indexOf_22 rfl (lv_at hl 2 rfl) ?_
      refine lv_aload_n hx hb dX4_indexOf_23 rfl (lv_at hl 0 rfl) ?_
      refine m_g7 F hw dX4_indexOf_24 ?_
      refine lv_sipush (v := 600) hx hb dX4_indexOf_27 rfl ?_
      refine lv_iload_n hx hb dX4_indexOf_30 rfl (lv_at hl 1 rfl) ?_
      refine lv_imul hx hb dX4_indexOf_31 ?_
      refine lv_iload hx hb dX4_indexOf_32 (lv_at hl 4 rfl) ?_
      refine lv_iadd hx hb dX4_indexOf_34 ?_
      obtain ⟨g4, h⟩ := gd h
      refine m_l7 F hw g4 dX4_indexOf_35 ?_
      refine lv_iconst (v := 2) hx hb dX4_indexOf_36 rfl ?_
      refine lv_irem hx hb dX4_indexOf_37 (by decide) ?_
      refine lv_if_ne (tgt := 45) hx hb dX4_indexOf_38 rfl (fun c5 => ?_) (fun c5 => ?_)
      · replace h := itF h c5
        refine lv_iconst (v := 0) hx hb dX4_indexOf_45 rfl ?_
        refine lv_iadd hx hb dX4_indexOf_46 ?_
        refine lv_istore_n (lv' := [(3, .int (x3 + 0)), (0, .ref (ad 0)), (1, .int x1), (4, .int x4), (5, .int x5)]) hx hb dX4_indexOf_47 rfl hl (by decide) rfl (fun ls hl => ?_)
        refine lv_iinc (v := (x5 + 1)) (lv' := [(5, .int (x5 + 1)), (3, .int (x3 + 0)), (0, .ref (ad 0)), (1, .int x1), (4, .int x4)]) hx hb dX4_indexOf_48 hl (k := 4) rfl rfl (by decide) rfl (fun ls hl => ?_)
        refine lv_goto (tgt := 15) hx hb dX4_indexOf_51 rfl ?_
        exact ih _ _ _ _ _ _ hw (lv_sub hl [2, 3, 1, 4, 0] rfl) h
      · replace h := itT h c5
        refine lv_iconst (v := 1) hx hb dX4_indexOf_41 rfl ?_
        refine lv_goto (tgt := 46) hx hb dX4_indexOf_42 rfl ?_
        refine lv_iadd hx hb dX4_indexOf_46 ?_
        refine lv_istore_n (lv' := [(3, .int (x3 + 1)), (0, .ref (ad 0)), (1, .int x1), (4, .int x4), (5, .int x5)]) hx hb dX4_indexOf_47 rfl hl (by decide) rfl (fun ls hl => ?_)
        refine lv_iinc (v := (x5 + 1)) (lv' := [(5, .int (x5 + 1)), (3, .int (x3 + 1)), (0, .ref (ad 0)), (1, .int x1), (4, .int x4)]) hx hb dX4_indexOf_48 hl (k := 4) rfl rfl (by decide) rfl (fun ls hl => ?_)
        refine lv_goto (tgt := 15) hx hb dX4_indexOf_51 rfl ?_
        exact ih _ _ _ _ _ _ hw (lv_sub hl [2, 3, 1, 4, 0] rfl) h
set_option maxHeartbeats 4000000 in
set_option maxRecDepth 100000 in
theorem w_X4_indexOf_0 (F : FX p m c cX4_indexOf 6 s args yX4_indexOf (some .int) RX4 meth) {z : Int32} : ∀ (x1 : Int32) (x2 : Int32) (u : MS) (ls : Array Slot), WD G A s (mw G ad u) s.heap [] → lv_has ls 6 [(0, .ref (ad 0)), (1, .int x1), (2, .int x2)] → f_X4_indexOf x1 x2 u = some z → W p l e rmX4_indexOf s m args below meth c s.heap [] 0 0 (MQ below (QO (some (.int z))) args s 0 0 (fun _ => False)) (F0 m 0 ls []) := by
  obtain ⟨⟨hx, hb, hml, hown, hts⟩, hr, hlocks⟩ := id F
  intro x1 x2 u ls hw hl h
  unfold f_X4_indexOf at h
  refine lv_iconst (v := 0) hx hb dX4_indexOf_0 rfl ?_
  refine lv_istore_n (lv' := [(3, .int 0), (0, .ref (ad 0)), (1, .int x1), (2, .int x2)]) hx hb dX4_indexOf_1 rfl hl (by decide) rfl (fun ls hl => ?_)
  refine lv_aload_n hx hb dX4_indexOf_2 rfl (lv_at hl 1 rfl) ?_
  refine lv_iload_n hx hb dX4_indexOf_3 rfl (lv_at hl 2 rfl) ?_
  refine lv_iconst (v := 2) hx hb dX4_indexOf_4 rfl ?_
  refine lv_iload_n hx hb dX4_indexOf_5 rfl (lv_at hl 3 rfl) ?_
  refine lv_imul hx hb dX4_indexOf_6 ?_
  obtain ⟨z1, e2, h⟩ := bnd h
  refine k_X4_placeOf F hw e2 ⟨Nat.le_of_ble_eq_true rfl, Nat.le_of_ble_eq_true rfl⟩ ⟨Nat.zero_le _, Nat.zero_le _⟩ hl.1 (Nat.le_of_ble_eq_true rfl) dX4_indexOf_7 ?_
  refine lv_istore (lv' := [(4, .int z1), (3, .int 0), (0, .ref (ad 0)), (1, .int x1), (2, .int x2)]) hx hb dX4_indexOf_10 hl (by decide) rfl (fun ls hl => ?_)
  refine lv_iconst (v := 0) hx hb dX4_indexOf_12 rfl ?_
  refine lv_istore (lv' := [(5, .int 0), (4, .int z1), (3, .int 0), (0, .ref (ad 0)), (1, .int x1), (2, .int x2)]) hx hb dX4_indexOf_13 hl (by decide) rfl (fun ls hl => ?_)
  exact w_X4_indexOf_15 F NF _ _ _ _ _ _ hw (lv_sub hl [3, 4, 2, 1, 0] rfl) h
end
theorem c_X4_indexOf {l : Launch} {G : GX} {ad : Nat → Nat} {x1 : Int32} {x2 : Int32} {u : MS} {z : Int32} (h : f_X4_indexOf x1 x2 u = some z) : MO l yX4_indexOf cX4_indexOf 6 (some .int) rmX4_indexOf G (mw G ad u) [.ref (ad 0), .int x1, .int x2] (some (.int z)) := MO.of (by decide) (Nat.le_of_ble_eq_true rfl) (fun p e s m below meth c ls F hw hl => w_X4_indexOf_0 F _ _ _ _ hw hl h)
theorem yv_X4_indexOf : YV RX4 223 yX4_indexOf cX4_indexOf 6 (some .int) 2 := ⟨(tw 793 (by decide +kernel) rfl), (tw 6 (by decide +kernel) rfl), (tw 790 (by decide +kernel) rfl), (tw 792 (by decide +kernel) rfl), (tp 47 (by decide +kernel) rfl), by decide +kernel⟩
theorem k_X4_indexOf {p : Program} {l : Launch} {e : Env} {R : Room} {s : State} {m : MethodId} {args : Array Value} {below : List Frame} {meth : Method} {c : Code} {H : Heap} {locs : List Loc} {cells slots : Nat} {Q : State → Prop} {G : GX} {A : Nat → Prop} {ad : Nat → Nat} {cc : ByteArray} {nL pc : Nat} {y0 : MethodName} {ret0 : Option FieldType} {ls : Array Slot} {rest : List Value} {u : MS} {x1 : Int32} {x2 : Int32} {z : Int32} (F : FX p m c cc nL s args y0 ret0 RX4 meth) (hw : WD G A s (mw G ad u) H locs) (h : f_X4_indexOf x1 x2 u = some z) (hR : rmX4_indexOf.frames + 1 ≤ R.frames ∧ 8 + (6 + 11) + rmX4_indexOf.locals ≤ R.locals) (hcs : cells ≤ R.cells ∧ slots ≤ R.slots) (hsz : ls.size = nL) (hW : (rest.map fun v => v.category).sum ≤ 8) (hdg : decode cc pc = .ok (.invokevirtual 223, 3)) (kk : W p l e R s m args below meth c H locs cells slots Q (F0 m (pc + 3) ls (.int z :: rest))) : W p l e R s m args below meth c H locs cells slots Q (F0 m pc ls (.int x2 :: .int x1 :: .ref (ad 0) :: rest)) := callO (runV F yv_X4_indexOf (c_X4_indexOf h) hw.1 hw.2.1 hw.2.2.1 rfl rfl rfl ⟨rfl, rfl⟩ hR hcs rfl hsz rfl hW hdg) kk
/-! ===== X4_index ===== -/
theorem dX4_index_0 : decode cX4_index 0 = .ok (.aload_n 0, 1) := by decide +kernel
theorem dX4_index_1 : decode cX4_index 1 = .ok (.iconst 0, 1) := by decide +kernel
theorem dX4_index_2 : decode cX4_index 2 = .ok (.putfield 64, 3) := by decide +kernel
theorem dX4_index_5 : decode cX4_index 5 = .ok (.aload_n 0, 1) := by decide +kernel
theorem dX4_index_6 : decode cX4_index 6 = .ok (.iload_n 1, 1) := by decide +kernel
theorem dX4_index_7 : decode cX4_index 7 = .ok (.invokevirtual 183, 3) := by decide +kernel
theorem dX4_index_10 : decode cX4_index 10 = .ok (.ifCond .eq 18, 3) := by decide +kernel
theorem dX4_index_13 : decode cX4_index 13 = .ok (.aload_n 0, 1) := by decide +kernel
theorem dX4_index_14 : decode cX4_index 14 = .ok (.aload_n 0, 1) := by decide +kernel
theorem dX4_index_15 : decode cX4_index 15 = .ok (.iconst 2, 1) := by decide +kernel
theorem dX4_index_16 : decode cX4_index 16 = .ok (.iload_n 1, 1) := by decide +kernel
theorem dX4_index_17 : decode cX4_index 17 = .ok (.imul, 1) := by decide +kernel
theorem dX4_index_18 : decode cX4_index 18 = .ok (.invokevirtual 100, 3) := by decide +kernel
theorem dX4_index_21 : decode cX4_index 21 = .ok (.iload_n 1, 1) := by decide +kernel
theorem dX4_index_22 : decode cX4_index 22 = .ok (.invokevirtual 223, 3) := by decide +kernel
theorem dX4_index_25 : decode cX4_index 25 = .ok (.goto 5, 3) := by decide +kernel
theorem dX4_index_28 : decode cX4_index 28 = .ok (.bipush (-3), 2) := by decide +kernel
theorem dX4_index_30 : decode cX4_index 30 = .ok (.ireturn, 1) := by decide +kernel
def rmX4_index : Room := { frames := 2, cells := 0, slots := 0, locals := 48 }
noncomputable def f_X4_index (x1 : Int32) (u : MS) : Option (Int32 × MS) := (f_X4_isThing x1 (mF u 0 0)).bind (fun z1 => (if z1 = 0 then some ((-3), (mF u 0 0)) else (f_X4_rowWith (2 * x1) (mF u 0 0)).bind (fun z4 => (f_X4_indexOf z4 x1 (mF u 0 0)).bind (fun z6 => some (z6, (mF u 0 0))))))
section
variable {p : Program} {l : Launch} {e : Env} {s : State} {m : MethodId} {args : Array Value} {below : List Frame} {meth : Method} {c : Code}
variable {G : GX} {A : Nat → Prop} {ad : Nat → Nat}
set_option maxHeartbeats 4000000 in
set_option maxRecDepth 100000 in
theorem w_X4_index_0 (F : FX p m c cX4_index 2 s args yX4_index (some .int) RX4 meth) {z : Int32 × MS} : ∀ (x1 : Int32) (u : MS) (H : Heap) (locs : List Loc) (ls : Array Slot), WD G A s (mw G ad u) H locs → lv_has ls 2 [(0, .ref (ad 0)), (1, .int x1)] → f_X4_index x1 u = some z → W p l e rmX4_index s m args below meth c H locs 0 0 (MQ below (QW G (mw G ad z.2) A (some (.int z.1))) args s 0 0 A) (F0 m 0 ls []) := by
  obtain ⟨⟨hx, hb, hml, hown, hts⟩, hr, hlocks⟩ := id F
  intro x1 u H locs ls hw hl h
  unfold f_X4_index at h
  refine lv_aload_n hx hb dX4_index_0 rfl (lv_at hl 0 rfl) ?_
  refine lv_iconst (v := 0) hx hb dX4_index_1 rfl ?_
  refine m_p0 F hw dX4_index_2 (fun H locs hw => ?_)
  refine lv_aload_n hx hb dX4_index_5 rfl (lv_at hl 0 rfl) ?_
  refine lv_iload_n hx hb dX4_index_6 rfl (lv_at hl 1 rfl) ?_
  obtain ⟨z1, e2, h⟩ := bnd h
  refine k_X4_isThing F hw e2 ⟨Nat.le_of_ble_eq_true rfl, Nat.le_of_ble_eq_true rfl⟩ ⟨Nat.zero_le _, Nat.zero_le _⟩ hl.1 (Nat.le_of_ble_eq_true rfl) dX4_index_7 ?_
  refine lv_if_eq (tgt := 28) hx hb dX4_index_10 rfl (fun c3 => ?_) (fun c3 => ?_)
  · replace h := itT h c3
    refine lv_bipush (v := (-3)) hx hb dX4_index_28 rfl ?_
    cases h
    exact retW_i F hw dX4_index_30
  · replace h := itF h c3
    refine lv_aload_n hx hb dX4_index_13 rfl (lv_at hl 0 rfl) ?_
    refine lv_aload_n hx hb dX4_index_14 rfl (lv_at hl 0 rfl) ?_
    refine lv_iconst (v := 2) hx hb dX4_index_15 rfl ?_
    refine lv_iload_n hx hb dX4_index_16 rfl (lv_at hl 1 rfl) ?_
    refine lv_imul hx hb dX4_index_17 ?_
    obtain ⟨z4, e5, h⟩ := bnd h
    refine k_X4_rowWith F hw e5 ⟨Nat.le_of_ble_eq_true rfl, Nat.le_of_ble_eq_true rfl⟩ ⟨Nat.zero_le _, Nat.zero_le _⟩ hl.1 (Nat.le_of_ble_eq_true rfl) dX4_index_18 ?_
    refine lv_iload_n hx hb dX4_index_21 rfl (lv_at hl 1 rfl) ?_
    obtain ⟨z6, e7, h⟩ := bnd h
    refine k_X4_indexOf F hw e7 ⟨Nat.le_of_ble_eq_true rfl, Nat.le_of_ble_eq_true rfl⟩ ⟨Nat.zero_le _, Nat.zero_le _⟩ hl.1 (Nat.le_of_ble_eq_true rfl) dX4_index_22 ?_
    refine lv_goto (tgt := 30) hx hb dX4_index_25 rfl ?_
    cases h
    exact retW_i F hw dX4_index_30
end
theorem c_X4_index {l : Launch} {G : GX} {ad : Nat → Nat} {x1 : Int32} {u : MS} {z : Int32 × MS} (h : f_X4_index x1 u = some z) : MW l yX4_index cX4_index 2 (some .int) rmX4_index G (mw G ad u) (mw G ad z.2) [.ref (ad 0), .int x1] (some (.int z.1)) := MW.of (by decide) (Nat.le_of_ble_eq_true rfl) (fun p e s m below meth c ls F hw hl => w_X4_index_0 F _ _ _ _ _ hw hl h)
/-! ===== X4_at ===== -/
theorem dX4_at_0 : decode cX4_at 0 = .ok (.aload_n 0, 1) := by decide +kernel
theorem dX4_at_1 : decode cX4_at 1 = .ok (.iconst 0, 1) := by decide +kernel
theorem dX4_at_2 : decode cX4_at 2 = .ok (.putfield 64, 3) := by decide +kernel
theorem dX4_at_5 : decode cX4_at 5 = .ok (.aload_n 0, 1) := by decide +kernel
theorem dX4_at_6 : decode cX4_at 6 = .ok (.iload_n 1, 1) := by decide +kernel
theorem dX4_at_7 : decode cX4_at 7 = .ok (.invokevirtual 186, 3) := by decide +kernel
theorem dX4_at_10 : decode cX4_at 10 = .ok (.ifCond .eq 7, 3) := by decide +kernel
theorem dX4_at_13 : decode cX4_at 13 = .ok (.iload_n 2, 1) := by decide +kernel
theorem dX4_at_14 : decode cX4_at 14 = .ok (.ifCond .ge 6, 3) := by decide +kernel
theorem dX4_at_17 : decode cX4_at 17 = .ok (.bipush (-3), 2) := by decide +kernel
theorem dX4_at_19 : decode cX4_at 19 = .ok (.ireturn, 1) := by decide +kernel
theorem dX4_at_20 : decode cX4_at 20 = .ok (.iload_n 2, 1) := by decide +kernel
theorem dX4_at_21 : decode cX4_at 21 = .ok (.istore_n 3, 1) := by decide +kernel
theorem dX4_at_22 : decode cX4_at 22 = .ok (.iconst 0, 1) := by decide +kernel
theorem dX4_at_23 : decode cX4_at 23 = .ok (.istore 4, 2) := by decide +kernel
theorem dX4_at_25 : decode cX4_at 25 = .ok (.iload 4, 2) := by decide +kernel
theorem dX4_at_27 : decode cX4_at 27 = .ok (.aload_n 0, 1) := by decide +kernel
theorem dX4_at_28 : decode cX4_at 28 = .ok (.getfield 16, 3) := by decide +kernel
theorem dX4_at_31 : decode cX4_at 31 = .ok (.iload_n 1, 1) := by decide +kernel
theorem dX4_at_32 : decode cX4_at 32 = .ok (.iaload, 1) := by decide +kernel
theorem dX4_at_33 : decode cX4_at 33 = .ok (.if_icmp .ge 43, 3) := by decide +kernel
theorem dX4_at_36 : decode cX4_at 36 = .ok (.aload_n 0, 1) := by decide +kernel
theorem dX4_at_37 : decode cX4_at 37 = .ok (.getfield 25, 3) := by decide +kernel
theorem dX4_at_40 : decode cX4_at 40 = .ok (.sipush 600, 3) := by decide +kernel
theorem dX4_at_43 : decode cX4_at 43 = .ok (.iload_n 1, 1) := by decide +kernel
theorem dX4_at_44 : decode cX4_at 44 = .ok (.imul, 1) := by decide +kernel
theorem dX4_at_45 : decode cX4_at 45 = .ok (.iload 4, 2) := by decide +kernel
theorem dX4_at_47 : decode cX4_at 47 = .ok (.iadd, 1) := by decide +kernel
theorem dX4_at_48 : decode cX4_at 48 = .ok (.iaload, 1) := by decide +kernel
theorem dX4_at_49 : decode cX4_at 49 = .ok (.istore 5, 2) := by decide +kernel
theorem dX4_at_51 : decode cX4_at 51 = .ok (.iload 5, 2) := by decide +kernel
theorem dX4_at_53 : decode cX4_at 53 = .ok (.iconst 2, 1) := by decide +kernel
theorem dX4_at_54 : decode cX4_at 54 = .ok (.irem, 1) := by decide +kernel
theorem dX4_at_55 : decode cX4_at 55 = .ok (.ifCond .ne 15, 3) := by decide +kernel
theorem dX4_at_58 : decode cX4_at 58 = .ok (.iload_n 3, 1) := by decide +kernel
theorem dX4_at_59 : decode cX4_at 59 = .ok (.ifCond .ne 8, 3) := by decide +kernel
theorem dX4_at_62 : decode cX4_at 62 = .ok (.iload 5, 2) := by decide +kernel
theorem dX4_at_64 : decode cX4_at 64 = .ok (.iconst 2, 1) := by decide +kernel
theorem dX4_at_65 : decode cX4_at 65 = .ok (.idiv, 1) := by decide +kernel
theorem dX4_at_66 : decode cX4_at 66 = .ok (.ireturn, 1) := by decide +kernel
theorem dX4_at_67 : decode cX4_at 67 = .ok (.iinc 3 (-1), 3) := by decide +kernel
theorem dX4_at_70 : decode cX4_at 70 = .ok (.iinc 4 1, 3) := by decide +kernel
theorem dX4_at_73 : decode cX4_at 73 = .ok (.goto (-48), 3) := by decide +kernel
theorem dX4_at_76 : decode cX4_at 76 = .ok (.iconst (-1), 1) := by decide +kernel
theorem dX4_at_77 : decode cX4_at 77 = .ok (.ireturn, 1) := by decide +kernel
def rmX4_at : Room := { frames := 2, cells := 0, slots := 0, locals := 43 }
noncomputable def f_X4_at_25 : Nat → Int32 → Int32 → Int32 → MS → Option (Int32 × MS)
  | 0, _, _, _, _ => none
  | n + 1, x1, x3, x4, u => (if ix x1 8 = true then (if (u.2.1 4 (Int32.toNatClampNeg x1)) ≤ x4 then some ((-1), u) else (if ix ((600 * x1) + x4) 4800 = true then (if ((u.2.1 7 (Int32.toNatClampNeg ((600 * x1) + x4))) - (u.2.1 7 (Int32.toNatClampNeg ((600 * x1) + x4))) / 2 * 2) = 0 then (if x3 = 0 then some (((u.2.1 7 (Int32.toNatClampNeg ((600 * x1) + x4))) / 2), u) else f_X4_at_25 n x1 (x3 + (-1)) (x4 + 1) u) else f_X4_at_25 n x1 x3 (x4 + 1) u) else none)) else none)
noncomputable def f_X4_at (x1 : Int32) (x2 : Int32) (u : MS) : Option (Int32 × MS) := (f_X4_isRow x1 (mF u 0 0)).bind (fun z1 => (if z1 = 0 then some ((-3), (mF u 0 0)) else (if 0 ≤ x2 then f_X4_at_25 NF x1 x2 0 (mF u 0 0) else some ((-3), (mF u 0 0)))))
section
variable {p : Program} {l : Launch} {e : Env} {s : State} {m : MethodId} {args : Array Value} {below : List Frame} {meth : Method} {c : Code}
variable {G : GX} {A : Nat → Prop} {ad : Nat → Nat}
set_option maxHeartbeats 4000000 in
set_option maxRecDepth 100000 in
theorem w_X4_at_25 (F : FX p m c cX4_at 6 s args yX4_at (some .int) RX4 meth) {z : Int32 × MS} : ∀ (n : Nat) (x1 : Int32) (x3 : Int32) (x4 : Int32) (u : MS) (H : Heap) (locs : List Loc) (ls : Array Slot), WD G A s (mw G ad u) H locs → lv_has ls 6 [(0, .ref (ad 0)), (1, .int x1), (3, .int x3), (4, .int x4)] → f_X4_at_25 n x1 x3 x4 u = some z → W p l e rmX4_at s m args below meth c H locs 0 0 (MQ below (QW G (mw G ad z.2) A (some (.int z.1))) args s 0 0 A) (F0 m 25 ls []) := by
  obtain ⟨⟨hx, hb, hml, hown, hts⟩, hr, hlocks⟩ := id F
  intro n
  induction n with
  | zero =>
    intro x1 x3 x4 u H locs ls hw hl h
    rw [f_X4_at_25] at h
    cases h
  | succ n ih =>
    intro x1 x3 x4 u H locs ls hw hl h
    rw [f_X4_at_25] at h
    refine lv_iload hx hb dX4_at_25 (lv_at hl 3 rfl) ?_
    refine lv_aload_n hx hb dX4_at_27 rfl (lv_at hl 0 rfl) ?_
    refine m_g4 F hw dX4_at_28 ?_
    refine lv_iload_n hx hb dX4_at_31 rfl (lv_at hl 1 rfl) ?_
    obtain ⟨g5, h⟩ := gd h
    refine m_l4 F hw g5 dX4_at_32 ?_
    refine lv_icmp_ge (tgt := 76) hx hb dX4_at_33 rfl (fun c6 => ?_) (fun c6 => ?_)
    · replace h := itT h c6
      refine lv_iconst (v := (-1)) hx hb dX4_at_76 rfl ?_
      cases h
      exact retW_i F hw dX4_at_77
    · replace h := itF h c6
      refine lv_aload_n hx hb dX4_at_36 rfl (lv_at hl 0 rfl) ?_
      refine m_g7 F hw dX4_at_37 ?_
      refine lv_sipush (v := 600) hx hb dX4_at_40 rfl ?_
      refine lv_iload_n hx hb dX4_at_43 rfl (lv_at hl 1 rfl) ?_
      refine lv_imul hx hb dX4_at_44 ?_
      refine lv_iload hx hb dX4_at_45 (lv_at hl 3 rfl) ?_
      refine lv_iadd hx hb dX4_at_47 ?_
      obtain ⟨g7, h⟩ := gd h
      refine m_l7 F hw g7 dX4_at_48 ?_
      refine lv_istore (lv' := [(5, .int (u.2.1 7 (Int32.toNatClampNeg ((600 * x1) + x4)))), (0, .ref (ad 0)), (1, .int x1), (3, .int x3), (4, .int x4)]) hx hb dX4_at_49 hl (by decide) rfl (fun ls hl => ?_)
      refine lv_iload hx hb dX4_at_51 (lv_at hl 0 rfl) ?_
      refine lv_iconst (v := 2) hx hb dX4_at_53 rfl ?_
      refine lv_irem hx hb dX4_at_54 (by decide) ?_
      refine lv_if_ne (tgt := 70) hx hb dX4_at_55 rfl (fun c8 => ?_) (fun c8 => ?_)
      · replace h := itF h c8
        refine lv_iinc (v := (x4 + 1)) (lv' := [(4, .int (x4 + 1)), (5, .int (u.2.1 7 (Int32.toNatClampNeg ((600 * x1) + x4)))), (0, .ref (ad 0)), (1, .int x1), (3, .int x3)]) hx hb dX4_at_70 hl (k := 4) rfl rfl (by decide) rfl (fun ls hl => ?_)
        refine lv_goto (tgt := 25) hx hb dX4_at_73 rfl ?_
        exact ih _ _ _ _ _ _ _ hw (lv_sub hl [2, 3, 4, 0] rfl) h
      · replace h := itT h c8
        refine lv_iload_n hx hb dX4_at_58 rfl (lv_at hl 3 rfl) ?_
        refine lv_if_ne (tgt := 67) hx hb dX4_at_59 rfl (fun c9 => ?_) (fun c9 => ?_)
        · replace h := itF h c9
          refine lv_iinc (v := (x3 + (-1))) (lv' := [(3, .int (x3 + (-1))), (5, .int (u.2.1 7 (Int32.toNatClampNeg ((600 * x1) + x4)))), (0, .ref (ad 0)), (1, .int x1), (4, .int x4)]) hx hb dX4_at_67 hl (k := 3) rfl rfl (by decide) rfl (fun ls hl => ?_)
          refine lv_iinc (v := (x4 + 1)) (lv' := [(4, .int (x4 + 1)), (3, .int (x3 + (-1))), (5, .int (u.2.1 7 (Int32.toNatClampNeg ((600 * x1) + x4)))), (0, .ref (ad 0)), (1, .int x1)]) hx hb dX4_at_70 hl (k := 4) rfl rfl (by decide) rfl (fun ls hl => ?_)
          refine lv_goto (tgt := 25) hx hb dX4_at_73 rfl ?_
          exact ih _ _ _ _ _ _ _ hw (lv_sub hl [3, 4, 1, 0] rfl) h
        · replace h := itT h c9
          refine lv_iload hx hb dX4_at_62 (lv_at hl 0 rfl) ?_
          refine lv_iconst (v := 2) hx hb dX4_at_64 rfl ?_
          refine lv_idiv hx hb dX4_at_65 (by decide) ?_
          cases h
          exact retW_i F hw dX4_at_66
set_option maxHeartbeats 4000000 in
set_option maxRecDepth 100000 in
theorem w_X4_at_0 (F : FX p m c cX4_at 6 s args yX4_at (some .int) RX4 meth) {z : Int32 × MS} : ∀ (x1 : Int32) (x2 : Int32) (u : MS) (H : Heap) (locs : List Loc) (ls : Array Slot), WD G A s (mw G ad u) H locs → lv_has ls 6 [(0, .ref (ad 0)), (1, .int x1), (2, .int x2)] → f_X4_at x1 x2 u = some z → W p l e rmX4_at s m args below meth c H locs 0 0 (MQ below (QW G (mw G ad z.2) A (some (.int z.1))) args s 0 0 A) (F0 m 0 ls []) := by
  obtain ⟨⟨hx, hb, hml, hown, hts⟩, hr, hlocks⟩ := id F
  intro x1 x2 u H locs ls hw hl h
  unfold f_X4_at at h
  refine lv_aload_n hx hb dX4_at_0 rfl (lv_at hl 0 rfl) ?_
  refine lv_iconst (v := 0) hx hb dX4_at_1 rfl ?_
  refine m_p0 F hw dX4_at_2 (fun H locs hw => ?_)
  refine lv_aload_n hx hb dX4_at_5 rfl (lv_at hl 0 rfl) ?_
  refine lv_iload_n hx hb dX4_at_6 rfl (lv_at hl 1 rfl) ?_
  obtain ⟨z1, e2, h⟩ := bnd h
  refine k_X4_isRow F hw e2 ⟨Nat.le_of_ble_eq_true rfl, Nat.le_of_ble_eq_true rfl⟩ ⟨Nat.zero_le _, Nat.zero_le _⟩ hl.1 (Nat.le_of_ble_eq_true rfl) dX4_at_7 ?_
  refine lv_if_eq (tgt := 17) hx hb dX4_at_10 rfl (fun c3 => ?_) (fun c3 => ?_)
  · replace h := itT h c3
    refine lv_bipush (v := (-3)) hx hb dX4_at_17 rfl ?_
    cases h
    exact retW_i F hw dX4_at_19
  · replace h := itF h c3
    refine lv_iload_n hx hb dX4_at_13 rfl (lv_at hl 2 rfl) ?_
    refine lv_if_ge (tgt := 20) hx hb dX4_at_14 rfl (fun c4 => ?_) (fun c4 => ?_)
    · replace h := itT h c4
      refine lv_iload_n hx hb dX4_at_20 rfl (lv_at hl 2 rfl) ?_
      refine lv_istore_n (lv' := [(3, .int x2), (0, .ref (ad 0)), (1, .int x1), (2, .int x2)]) hx hb dX4_at_21 rfl hl (by decide) rfl (fun ls hl => ?_)
      refine lv_iconst (v := 0) hx hb dX4_at_22 rfl ?_
      refine lv_istore (lv' := [(4, .int 0), (3, .int x2), (0, .ref (ad 0)), (1, .int x1), (2, .int x2)]) hx hb dX4_at_23 hl (by decide) rfl (fun ls hl => ?_)
      exact w_X4_at_25 F NF _ _ _ _ _ _ _ hw (lv_sub hl [2, 3, 1, 0] rfl) h
    · replace h := itF h c4
      refine lv_bipush (v := (-3)) hx hb dX4_at_17 rfl ?_
      cases h
      exact retW_i F hw dX4_at_19
end
theorem c_X4_at {l : Launch} {G : GX} {ad : Nat → Nat} {x1 : Int32} {x2 : Int32} {u : MS} {z : Int32 × MS} (h : f_X4_at x1 x2 u = some z) : MW l yX4_at cX4_at 6 (some .int) rmX4_at G (mw G ad u) (mw G ad z.2) [.ref (ad 0), .int x1, .int x2] (some (.int z.1)) := MW.of (by decide) (Nat.le_of_ble_eq_true rfl) (fun p e s m below meth c ls F hw hl => w_X4_at_0 F _ _ _ _ _ _ hw hl h)
/-! ===== X4_between_ ===== -/
theorem dX4_between__0 : decode cX4_between_ 0 = .ok (.aload_n 0, 1) := by decide +kernel
theorem dX4_between__1 : decode cX4_between_ 1 = .ok (.iconst 0, 1) := by decide +kernel
theorem dX4_between__2 : decode cX4_between_ 2 = .ok (.putfield 64, 3) := by decide +kernel
theorem dX4_between__5 : decode cX4_between_ 5 = .ok (.aload_n 0, 1) := by decide +kernel
theorem dX4_between__6 : decode cX4_between_ 6 = .ok (.iload_n 1, 1) := by decide +kernel
theorem dX4_between__7 : decode cX4_between_ 7 = .ok (.invokevirtual 183, 3) := by decide +kernel
theorem dX4_between__10 : decode cX4_between_ 10 = .ok (.ifCond .eq 11, 3) := by decide +kernel
theorem dX4_between__13 : decode cX4_between_ 13 = .ok (.aload_n 0, 1) := by decide +kernel
theorem dX4_between__14 : decode cX4_between_ 14 = .ok (.iload_n 2, 1) := by decide +kernel
theorem dX4_between__15 : decode cX4_between_ 15 = .ok (.invokevirtual 183, 3) := by decide +kernel
theorem dX4_between__18 : decode cX4_between_ 18 = .ok (.ifCond .ne 6, 3) := by decide +kernel
theorem dX4_between__21 : decode cX4_between_ 21 = .ok (.bipush (-3), 2) := by decide +kernel
theorem dX4_between__23 : decode cX4_between_ 23 = .ok (.ireturn, 1) := by decide +kernel
theorem dX4_between__24 : decode cX4_between_ 24 = .ok (.aload_n 0, 1) := by decide +kernel
theorem dX4_between__25 : decode cX4_between_ 25 = .ok (.iload_n 1, 1) := by decide +kernel
theorem dX4_between__26 : decode cX4_between_ 26 = .ok (.iload_n 2, 1) := by decide +kernel
theorem dX4_between__27 : decode cX4_between_ 27 = .ok (.invokevirtual 209, 3) := by decide +kernel
theorem dX4_between__30 : decode cX4_between_ 30 = .ok (.ifCond .eq 6, 3) := by decide +kernel
theorem dX4_between__33 : decode cX4_between_ 33 = .ok (.bipush (-4), 2) := by decide +kernel
theorem dX4_between__35 : decode cX4_between_ 35 = .ok (.ireturn, 1) := by decide +kernel
theorem dX4_between__36 : decode cX4_between_ 36 = .ok (.aload_n 0, 1) := by decide +kernel
theorem dX4_between__37 : decode cX4_between_ 37 = .ok (.iconst 2, 1) := by decide +kernel
theorem dX4_between__38 : decode cX4_between_ 38 = .ok (.iload_n 1, 1) := by decide +kernel
theorem dX4_between__39 : decode cX4_between_ 39 = .ok (.imul, 1) := by decide +kernel
theorem dX4_between__40 : decode cX4_between_ 40 = .ok (.invokevirtual 100, 3) := by decide +kernel
theorem dX4_between__43 : decode cX4_between_ 43 = .ok (.istore_n 3, 1) := by decide +kernel
theorem dX4_between__44 : decode cX4_between_ 44 = .ok (.aload_n 0, 1) := by decide +kernel
theorem dX4_between__45 : decode cX4_between_ 45 = .ok (.iload_n 3, 1) := by decide +kernel
theorem dX4_between__46 : decode cX4_between_ 46 = .ok (.iload_n 1, 1) := by decide +kernel
theorem dX4_between__47 : decode cX4_between_ 47 = .ok (.invokevirtual 223, 3) := by decide +kernel
theorem dX4_between__50 : decode cX4_between_ 50 = .ok (.aload_n 0, 1) := by decide +kernel
theorem dX4_between__51 : decode cX4_between_ 51 = .ok (.iload_n 3, 1) := by decide +kernel
theorem dX4_between__52 : decode cX4_between_ 52 = .ok (.iload_n 2, 1) := by decide +kernel
theorem dX4_between__53 : decode cX4_between_ 53 = .ok (.invokevirtual 223, 3) := by decide +kernel
theorem dX4_between__56 : decode cX4_between_ 56 = .ok (.isub, 1) := by decide +kernel
theorem dX4_between__57 : decode cX4_between_ 57 = .ok (.istore 4, 2) := by decide +kernel
theorem dX4_between__59 : decode cX4_between_ 59 = .ok (.iload 4, 2) := by decide +kernel
theorem dX4_between__61 : decode cX4_between_ 61 = .ok (.ifCond .ne 7, 3) := by decide +kernel
theorem dX4_between__64 : decode cX4_between_ 64 = .ok (.iconst 0, 1) := by decide +kernel
theorem dX4_between__65 : decode cX4_between_ 65 = .ok (.goto 18, 3) := by decide +kernel
theorem dX4_between__68 : decode cX4_between_ 68 = .ok (.iload 4, 2) := by decide +kernel
theorem dX4_between__70 : decode cX4_between_ 70 = .ok (.ifCond .ge 9, 3) := by decide +kernel
theorem dX4_between__73 : decode cX4_between_ 73 = .ok (.iload 4, 2) := by decide +kernel
theorem dX4_between__75 : decode cX4_between_ 75 = .ok (.ineg, 1) := by decide +kernel
theorem dX4_between__76 : decode cX4_between_ 76 = .ok (.goto 5, 3) := by decide +kernel
theorem dX4_between__79 : decode cX4_between_ 79 = .ok (.iload 4, 2) := by decide +kernel
theorem dX4_between__81 : decode cX4_between_ 81 = .ok (.iconst 1, 1) := by decide +kernel
theorem dX4_between__82 : decode cX4_between_ 82 = .ok (.isub, 1) := by decide +kernel
theorem dX4_between__83 : decode cX4_between_ 83 = .ok (.ireturn, 1) := by decide +kernel
def rmX4_between_ : Room := { frames := 2, cells := 0, slots := 0, locals := 48 }
noncomputable def f_X4_between_ (x1 : Int32) (x2 : Int32) (u : MS) : Option (Int32 × MS) := (f_X4_isThing x1 (mF u 0 0)).bind (fun z1 => (if z1 = 0 then some ((-3), (mF u 0 0)) else (f_X4_isThing x2 (mF u 0 0)).bind (fun z4 => (if z4 = 0 then some ((-3), (mF u 0 0)) else (f_X4_areApart x1 x2 (mF u 0 0)).bind (fun z7 => (if z7 = 0 then (f_X4_rowWith (2 * x1) (mF u 0 0)).bind (fun z10 => (f_X4_indexOf z10 x1 (mF u 0 0)).bind (fun z12 => (f_X4_indexOf z10 x2 (mF u 0 0)).bind (fun z14 => (if (z12 - z14) = 0 then some (0, (mF u 0 0)) else (if 0 ≤ (z12 - z14) then some (((z12 - z14) - 1), (mF u 0 0)) else some (((-(z12 - z14)) - 1), (mF u 0 0))))))) else some ((-4), (mF u 0 0))))))))
section
variable {p : Program} {l : Launch} {e : Env} {s : State} {m : MethodId} {args : Array Value} {below : List Frame} {meth : Method} {c : Code}
variable {G : GX} {A : Nat → Prop} {ad : Nat → Nat}
set_option maxHeartbeats 4000000 in
set_option maxRecDepth 100000 in
theorem w_X4_between__0 (F : FX p m c cX4_between_ 5 s args yX4_between_ (some .int) RX4 meth) {z : Int32 × MS} : ∀ (x1 : Int32) (x2 : Int32) (u : MS) (H : Heap) (locs : List Loc) (ls : Array Slot), WD G A s (mw G ad u) H locs → lv_has ls 5 [(0, .ref (ad 0)), (1, .int x1), (2, .int x2)] → f_X4_between_ x1 x2 u = some z → W p l e rmX4_between_ s m args below meth c H locs 0 0 (MQ below (QW G (mw G ad z.2) A (some (.int z.1))) args s 0 0 A) (F0 m 0 ls []) := by
  obtain ⟨⟨hx, hb, hml, hown, hts⟩, hr, hlocks⟩ := id F
  intro x1 x2 u H locs ls hw hl h
  unfold f_X4_between_ at h
  refine lv_aload_n hx hb dX4_between__0 rfl (lv_at hl 0 rfl) ?_
  refine lv_iconst (v := 0) hx hb dX4_between__1 rfl ?_
  refine m_p0 F hw dX4_between__2 (fun H locs hw => ?_)
  refine lv_aload_n hx hb dX4_between__5 rfl (lv_at hl 0 rfl) ?_
  refine lv_iload_n hx hb dX4_between__6 rfl (lv_at hl 1 rfl) ?_
  obtain ⟨z1, e2, h⟩ := bnd h
  refine k_X4_isThing F hw e2 ⟨Nat.le_of_ble_eq_true rfl, Nat.le_of_ble_eq_true rfl⟩ ⟨Nat.zero_le _, Nat.zero_le _⟩ hl.1 (Nat.le_of_ble_eq_true rfl) dX4_between__7 ?_
  refine lv_if_eq (tgt := 21) hx hb dX4_between__10 rfl (fun c3 => ?_) (fun c3 => ?_)
  · replace h := itT h c3
    refine lv_bipush (v := (-3)) hx hb dX4_between__21 rfl ?_
    cases h
    exact retW_i F hw dX4_between__23
  · replace h := itF h c3
    refine lv_aload_n hx hb dX4_between__13 rfl (lv_at hl 0 rfl) ?_
    refine lv_iload_n hx hb dX4_between__14 rfl (lv_at hl 2 rfl) ?_
    obtain ⟨z4, e5, h⟩ := bnd h
    refine k_X4_isThing F hw e5 ⟨Nat.le_of_ble_eq_true rfl, Nat.le_of_ble_eq_true rfl⟩ ⟨Nat.zero_le _, Nat.zero_le _⟩ hl.1 (Nat.le_of_ble_eq_true rfl) dX4_between__15 ?_
    refine lv_if_ne (tgt := 24) hx hb dX4_between__18 rfl (fun c6 => ?_) (fun c6 => ?_)
    · replace h := itF h c6
      refine lv_aload_n hx hb dX4_between__24 rfl (lv_at hl 0 rfl) ?_
      refine lv_iload_n hx hb dX4_between__25 rfl (lv_at hl 1 rfl) ?_
      refine lv_iload_n hx hb dX4_between__26 rfl (lv_at hl 2 rfl) ?_
      obtain ⟨z7, e8, h⟩ := bnd h
      refine k_X4_areApart F hw e8 ⟨Nat.le_of_ble_eq_true rfl, Nat.le_of_ble_eq_true rfl⟩ ⟨Nat.zero_le _, Nat.zero_le _⟩ hl.1 (Nat.le_of_ble_eq_true rfl) dX4_between__27 ?_
      refine lv_if_eq (tgt := 36) hx hb dX4_between__30 rfl (fun c9 => ?_) (fun c9 => ?_)
      · replace h := itT h c9
        refine lv_aload_n hx hb dX4_between__36 rfl (lv_at hl 0 rfl) ?_
        refine lv_iconst (v := 2) hx hb dX4_between__37 rfl ?_
        refine lv_iload_n hx hb dX4_between__38 rfl (lv_at hl 1 rfl) ?_
        refine lv_imul hx hb dX4_between__39 ?_
        obtain ⟨z10, e11, h⟩ := bnd h
        refine k_X4_rowWith F hw e11 ⟨Nat.le_of_ble_eq_true rfl, Nat.le_of_ble_eq_true rfl⟩ ⟨Nat.zero_le _, Nat.zero_le _⟩ hl.1 (Nat.le_of_ble_eq_true rfl) dX4_between__40 ?_
        refine lv_istore_n (lv' := [(3, .int z10), (0, .ref (ad 0)), (1, .int x1), (2, .int x2)]) hx hb dX4_between__43 rfl hl (by decide) rfl (fun ls hl => ?_)
        refine lv_aload_n hx hb dX4_between__44 rfl (lv_at hl 1 rfl) ?_
        refine lv_iload_n hx hb dX4_between__45 rfl (lv_at hl 0 rfl) ?_
        refine lv_iload_n hx hb dX4_between__46 rfl (lv_at hl 2 rfl) ?_
        obtain ⟨z12, e13, h⟩ := bnd h
        refine k_X4_indexOf F hw e13 ⟨Nat.le_of_ble_eq_true rfl, Nat.le_of_ble_eq_true rfl⟩ ⟨Nat.zero_le _, Nat.zero_le _⟩ hl.1 (Nat.le_of_ble_eq_true rfl) dX4_between__47 ?_
        refine lv_aload_n hx hb dX4_between__50 rfl (lv_at hl 1 rfl) ?_
        refine lv_iload_n hx hb dX4_between__51 rfl (lv_at hl 0 rfl) ?_
        refine lv_iload_n hx hb dX4_between__52 rfl (lv_at hl 3 rfl) ?_
        obtain ⟨z14, e15, h⟩ := bnd h
        refine k_X4_indexOf F hw e15 ⟨Nat.le_of_ble_eq_true rfl, Nat.le_of_ble_eq_true rfl⟩ ⟨Nat.zero_le _, Nat.zero_le _⟩ hl.1 (Nat.le_of_ble_eq_true rfl) dX4_between__53 ?_
        refine lv_isub hx hb dX4_between__56 ?_
        refine lv_istore (lv' := [(4, .int (z12 - z14)), (3, .int z10), (0, .ref (ad 0)), (1, .int x1), (2, .int x2)]) hx hb dX4_between__57 hl (by decide) rfl (fun ls hl => ?_)
        refine lv_iload hx hb dX4_between__59 (lv_at hl 0 rfl) ?_
        refine lv_if_ne (tgt := 68) hx hb dX4_between__61 rfl (fun c16 => ?_) (fun c16 => ?_)
        · replace h := itF h c16
          refine lv_iload hx hb dX4_between__68 (lv_at hl 0 rfl) ?_
          refine lv_if_ge (tgt := 79) hx hb dX4_between__70 rfl (fun c17 => ?_) (fun c17 => ?_)
          · replace h := itT h c17
            refine lv_iload hx hb dX4_between__79 (lv_at hl 0 rfl) ?_
            refine lv_iconst (v := 1) hx hb dX4_between__81 rfl ?_
            refine lv_isub hx hb dX4_between__82 ?_
            cases h
            exact retW_i F hw dX4_between__83
          · replace h := itF h c17
            refine lv_iload hx hb dX4_between__73 (lv_at hl 0 rfl) ?_
            refine lv_ineg hx hb dX4_between__75 ?_
            refine lv_goto (tgt := 81) hx hb dX4_between__76 rfl ?_
            refine lv_iconst (v := 1) hx hb dX4_between__81 rfl ?_
            refine lv_isub hx hb dX4_between__82 ?_
            cases h
            exact retW_i F hw dX4_between__83
        · replace h := itT h c16
          refine lv_iconst (v := 0) hx hb dX4_between__64 rfl ?_
          refine lv_goto (tgt := 83) hx hb dX4_between__65 rfl ?_
          cases h
          exact retW_i F hw dX4_between__83
      · replace h := itF h c9
        refine lv_bipush (v := (-4)) hx hb dX4_between__33 rfl ?_
        cases h
        exact retW_i F hw dX4_between__35
    · replace h := itT h c6
      refine lv_bipush (v := (-3)) hx hb dX4_between__21 rfl ?_
      cases h
      exact retW_i F hw dX4_between__23
end
theorem c_X4_between_ {l : Launch} {G : GX} {ad : Nat → Nat} {x1 : Int32} {x2 : Int32} {u : MS} {z : Int32 × MS} (h : f_X4_between_ x1 x2 u = some z) : MW l yX4_between_ cX4_between_ 5 (some .int) rmX4_between_ G (mw G ad u) (mw G ad z.2) [.ref (ad 0), .int x1, .int x2] (some (.int z.1)) := MW.of (by decide) (Nat.le_of_ble_eq_true rfl) (fun p e s m below meth c ls F hw hl => w_X4_between__0 F _ _ _ _ _ _ hw hl h)
/-! ===== X4_holds ===== -/
theorem dX4_holds_0 : decode cX4_holds 0 = .ok (.aload_n 0, 1) := by decide +kernel
theorem dX4_holds_1 : decode cX4_holds 1 = .ok (.iconst 0, 1) := by decide +kernel
theorem dX4_holds_2 : decode cX4_holds 2 = .ok (.putfield 64, 3) := by decide +kernel
theorem dX4_holds_5 : decode cX4_holds 5 = .ok (.aload_n 0, 1) := by decide +kernel
theorem dX4_holds_6 : decode cX4_holds 6 = .ok (.iload_n 1, 1) := by decide +kernel
theorem dX4_holds_7 : decode cX4_holds 7 = .ok (.invokevirtual 183, 3) := by decide +kernel
theorem dX4_holds_10 : decode cX4_holds 10 = .ok (.ifCond .eq 11, 3) := by decide +kernel
theorem dX4_holds_13 : decode cX4_holds 13 = .ok (.aload_n 0, 1) := by decide +kernel
theorem dX4_holds_14 : decode cX4_holds 14 = .ok (.iload_n 2, 1) := by decide +kernel
theorem dX4_holds_15 : decode cX4_holds 15 = .ok (.invokevirtual 183, 3) := by decide +kernel
theorem dX4_holds_18 : decode cX4_holds 18 = .ok (.ifCond .ne 6, 3) := by decide +kernel
theorem dX4_holds_21 : decode cX4_holds 21 = .ok (.bipush (-3), 2) := by decide +kernel
theorem dX4_holds_23 : decode cX4_holds 23 = .ok (.ireturn, 1) := by decide +kernel
theorem dX4_holds_24 : decode cX4_holds 24 = .ok (.aload_n 0, 1) := by decide +kernel
theorem dX4_holds_25 : decode cX4_holds 25 = .ok (.iload_n 1, 1) := by decide +kernel
theorem dX4_holds_26 : decode cX4_holds 26 = .ok (.iload_n 2, 1) := by decide +kernel
theorem dX4_holds_27 : decode cX4_holds 27 = .ok (.invokevirtual 209, 3) := by decide +kernel
theorem dX4_holds_30 : decode cX4_holds 30 = .ok (.ifCond .ne 23, 3) := by decide +kernel
theorem dX4_holds_33 : decode cX4_holds 33 = .ok (.aload_n 0, 1) := by decide +kernel
theorem dX4_holds_34 : decode cX4_holds 34 = .ok (.aload_n 0, 1) := by decide +kernel
theorem dX4_holds_35 : decode cX4_holds 35 = .ok (.iconst 2, 1) := by decide +kernel
theorem dX4_holds_36 : decode cX4_holds 36 = .ok (.iload_n 1, 1) := by decide +kernel
theorem dX4_holds_37 : decode cX4_holds 37 = .ok (.imul, 1) := by decide +kernel
theorem dX4_holds_38 : decode cX4_holds 38 = .ok (.invokevirtual 100, 3) := by decide +kernel
theorem dX4_holds_41 : decode cX4_holds 41 = .ok (.iload_n 1, 1) := by decide +kernel
theorem dX4_holds_42 : decode cX4_holds 42 = .ok (.iload_n 2, 1) := by decide +kernel
theorem dX4_holds_43 : decode cX4_holds 43 = .ok (.invokevirtual 214, 3) := by decide +kernel
theorem dX4_holds_46 : decode cX4_holds 46 = .ok (.ifCond .eq 7, 3) := by decide +kernel
theorem dX4_holds_49 : decode cX4_holds 49 = .ok (.iconst 1, 1) := by decide +kernel
theorem dX4_holds_50 : decode cX4_holds 50 = .ok (.goto 4, 3) := by decide +kernel
theorem dX4_holds_53 : decode cX4_holds 53 = .ok (.iconst 0, 1) := by decide +kernel
theorem dX4_holds_54 : decode cX4_holds 54 = .ok (.ireturn, 1) := by decide +kernel
def rmX4_holds : Room := { frames := 3, cells := 0, slots := 0, locals := 71 }
noncomputable def f_X4_holds (x1 : Int32) (x2 : Int32) (u : MS) : Option (Int32 × MS) := (f_X4_isThing x1 (mF u 0 0)).bind (fun z1 => (if z1 = 0 then some ((-3), (mF u 0 0)) else (f_X4_isThing x2 (mF u 0 0)).bind (fun z4 => (if z4 = 0 then some ((-3), (mF u 0 0)) else (f_X4_areApart x1 x2 (mF u 0 0)).bind (fun z7 => (if z7 = 0 then (f_X4_rowWith (2 * x1) (mF u 0 0)).bind (fun z10 => (f_X4_isWithin z10 x1 x2 (mF u 0 0)).bind (fun z12 => (if z12 = 0 then some (0, (mF u 0 0)) else some (1, (mF u 0 0))))) else some (0, (mF u 0 0))))))))
section
variable {p : Program} {l : Launch} {e : Env} {s : State} {m : MethodId} {args : Array Value} {below : List Frame} {meth : Method} {c : Code}
variable {G : GX} {A : Nat → Prop} {ad : Nat → Nat}
set_option maxHeartbeats 4000000 in
set_option maxRecDepth 100000 in
theorem w_X4_holds_0 (F : FX p m c cX4_holds 3 s args yX4_holds (some .int) RX4 meth) {z : Int32 × MS} : ∀ (x1 : Int32) (x2 : Int32) (u : MS) (H : Heap) (locs : List Loc) (ls : Array Slot), WD G A s (mw G ad u) H locs → lv_has ls 3 [(0, .ref (ad 0)), (1, .int x1), (2, .int x2)] → f_X4_holds x1 x2 u = some z → W p l e rmX4_holds s m args below meth c H locs 0 0 (MQ below (QW G (mw G ad z.2) A (some (.int z.1))) args s 0 0 A) (F0 m 0 ls []) := by
  obtain ⟨⟨hx, hb, hml, hown, hts⟩, hr, hlocks⟩ := id F
  intro x1 x2 u H locs ls hw hl h
  unfold f_X4_holds at h
  refine lv_aload_n hx hb dX4_holds_0 rfl (lv_at hl 0 rfl) ?_
  refine lv_iconst (v := 0) hx hb dX4_holds_1 rfl ?_
  refine m_p0 F hw dX4_holds_2 (fun H locs hw => ?_)
  refine lv_aload_n hx hb dX4_holds_5 rfl (lv_at hl 0 rfl) ?_
  refine lv_iload_n hx hb dX4_holds_6 rfl (lv_at hl 1 rfl) ?_
  obtain ⟨z1, e2, h⟩ := bnd h
  refine k_X4_isThing F hw e2 ⟨Nat.le_of_ble_eq_true rfl, Nat.le_of_ble_eq_true rfl⟩ ⟨Nat.zero_le _, Nat.zero_le _⟩ hl.1 (Nat.le_of_ble_eq_true rfl) dX4_holds_7 ?_
  refine lv_if_eq (tgt := 21) hx hb dX4_holds_10 rfl (fun c3 => ?_) (fun c3 => ?_)
  · replace h := itT h c3
    refine lv_bipush (v := (-3)) hx hb dX4_holds_21 rfl ?_
    cases h
    exact retW_i F hw dX4_holds_23
  · replace h := itF h c3
    refine lv_aload_n hx hb dX4_holds_13 rfl (lv_at hl 0 rfl) ?_
    refine lv_iload_n hx hb dX4_holds_14 rfl (lv_at hl 2 rfl) ?_
    obtain ⟨z4, e5, h⟩ := bnd h
    refine k_X4_isThing F hw e5 ⟨Nat.le_of_ble_eq_true rfl, Nat.le_of_ble_eq_true rfl⟩ ⟨Nat.zero_le _, Nat.zero_le _⟩ hl.1 (Nat.le_of_ble_eq_true rfl) dX4_holds_15 ?_
    refine lv_if_ne (tgt := 24) hx hb dX4_holds_18 rfl (fun c6 => ?_) (fun c6 => ?_)
    · replace h := itF h c6
      refine lv_aload_n hx hb dX4_holds_24 rfl (lv_at hl 0 rfl) ?_
      refine lv_iload_n hx hb dX4_holds_25 rfl (lv_at hl 1 rfl) ?_
      refine lv_iload_n hx hb dX4_holds_26 rfl (lv_at hl 2 rfl) ?_
      obtain ⟨z7, e8, h⟩ := bnd h
      refine k_X4_areApart F hw e8 ⟨Nat.le_of_ble_eq_true rfl, Nat.le_of_ble_eq_true rfl⟩ ⟨Nat.zero_le _, Nat.zero_le _⟩ hl.1 (Nat.le_of_ble_eq_true rfl) dX4_holds_27 ?_
      refine lv_if_ne (tgt := 53) hx hb dX4_holds_30 rfl (fun c9 => ?_) (fun c9 => ?_)
      · replace h := itF h c9
        refine lv_iconst (v := 0) hx hb dX4_holds_53 rfl ?_
        cases h
        exact retW_i F hw dX4_holds_54
      · replace h := itT h c9
        refine lv_aload_n hx hb dX4_holds_33 rfl (lv_at hl 0 rfl) ?_
        refine lv_aload_n hx hb dX4_holds_34 rfl (lv_at hl 0 rfl) ?_
        refine lv_iconst (v := 2) hx hb dX4_holds_35 rfl ?_
        refine lv_iload_n hx hb dX4_holds_36 rfl (lv_at hl 1 rfl) ?_
        refine lv_imul hx hb dX4_holds_37 ?_
        obtain ⟨z10, e11, h⟩ := bnd h
        refine k_X4_rowWith F hw e11 ⟨Nat.le_of_ble_eq_true rfl, Nat.le_of_ble_eq_true rfl⟩ ⟨Nat.zero_le _, Nat.zero_le _⟩ hl.1 (Nat.le_of_ble_eq_true rfl) dX4_holds_38 ?_
        refine lv_iload_n hx hb dX4_holds_41 rfl (lv_at hl 1 rfl) ?_
        refine lv_iload_n hx hb dX4_holds_42 rfl (lv_at hl 2 rfl) ?_
        obtain ⟨z12, e13, h⟩ := bnd h
        refine k_X4_isWithin F hw e13 ⟨Nat.le_of_ble_eq_true rfl, Nat.le_of_ble_eq_true rfl⟩ ⟨Nat.zero_le _, Nat.zero_le _⟩ hl.1 (Nat.le_of_ble_eq_true rfl) dX4_holds_43 ?_
        refine lv_if_eq (tgt := 53) hx hb dX4_holds_46 rfl (fun c14 => ?_) (fun c14 => ?_)
        · replace h := itT h c14
          refine lv_iconst (v := 0) hx hb dX4_holds_53 rfl ?_
          cases h
          exact retW_i F hw dX4_holds_54
        · replace h := itF h c14
          refine lv_iconst (v := 1) hx hb dX4_holds_49 rfl ?_
          refine lv_goto (tgt := 54) hx hb dX4_holds_50 rfl ?_
          cases h
          exact retW_i F hw dX4_holds_54
    · replace h := itT h c6
      refine lv_bipush (v := (-3)) hx hb dX4_holds_21 rfl ?_
      cases h
      exact retW_i F hw dX4_holds_23
end
theorem c_X4_holds {l : Launch} {G : GX} {ad : Nat → Nat} {x1 : Int32} {x2 : Int32} {u : MS} {z : Int32 × MS} (h : f_X4_holds x1 x2 u = some z) : MW l yX4_holds cX4_holds 3 (some .int) rmX4_holds G (mw G ad u) (mw G ad z.2) [.ref (ad 0), .int x1, .int x2] (some (.int z.1)) := MW.of (by decide) (Nat.le_of_ble_eq_true rfl) (fun p e s m below meth c ls F hw hl => w_X4_holds_0 F _ _ _ _ _ _ hw hl h)
/-! ===== X4_meet ===== -/
theorem dX4_meet_0 : decode cX4_meet 0 = .ok (.aload_n 0, 1) := by decide +kernel
theorem dX4_meet_1 : decode cX4_meet 1 = .ok (.iconst 0, 1) := by decide +kernel
theorem dX4_meet_2 : decode cX4_meet 2 = .ok (.putfield 64, 3) := by decide +kernel
theorem dX4_meet_5 : decode cX4_meet 5 = .ok (.aload_n 0, 1) := by decide +kernel
theorem dX4_meet_6 : decode cX4_meet 6 = .ok (.iload_n 1, 1) := by decide +kernel
theorem dX4_meet_7 : decode cX4_meet 7 = .ok (.invokevirtual 183, 3) := by decide +kernel
theorem dX4_meet_10 : decode cX4_meet 10 = .ok (.ifCond .eq 11, 3) := by decide +kernel
theorem dX4_meet_13 : decode cX4_meet 13 = .ok (.aload_n 0, 1) := by decide +kernel
theorem dX4_meet_14 : decode cX4_meet 14 = .ok (.iload_n 2, 1) := by decide +kernel
theorem dX4_meet_15 : decode cX4_meet 15 = .ok (.invokevirtual 183, 3) := by decide +kernel
theorem dX4_meet_18 : decode cX4_meet 18 = .ok (.ifCond .ne 6, 3) := by decide +kernel
theorem dX4_meet_21 : decode cX4_meet 21 = .ok (.bipush (-3), 2) := by decide +kernel
theorem dX4_meet_23 : decode cX4_meet 23 = .ok (.ireturn, 1) := by decide +kernel
theorem dX4_meet_24 : decode cX4_meet 24 = .ok (.aload_n 0, 1) := by decide +kernel
theorem dX4_meet_25 : decode cX4_meet 25 = .ok (.iload_n 1, 1) := by decide +kernel
theorem dX4_meet_26 : decode cX4_meet 26 = .ok (.iload_n 2, 1) := by decide +kernel
theorem dX4_meet_27 : decode cX4_meet 27 = .ok (.invokevirtual 209, 3) := by decide +kernel
theorem dX4_meet_30 : decode cX4_meet 30 = .ok (.ifCond .eq 6, 3) := by decide +kernel
theorem dX4_meet_33 : decode cX4_meet 33 = .ok (.bipush (-4), 2) := by decide +kernel
theorem dX4_meet_35 : decode cX4_meet 35 = .ok (.ireturn, 1) := by decide +kernel
theorem dX4_meet_36 : decode cX4_meet 36 = .ok (.aload_n 0, 1) := by decide +kernel
theorem dX4_meet_37 : decode cX4_meet 37 = .ok (.iconst 2, 1) := by decide +kernel
theorem dX4_meet_38 : decode cX4_meet 38 = .ok (.iload_n 1, 1) := by decide +kernel
theorem dX4_meet_39 : decode cX4_meet 39 = .ok (.imul, 1) := by decide +kernel
theorem dX4_meet_40 : decode cX4_meet 40 = .ok (.invokevirtual 100, 3) := by decide +kernel
theorem dX4_meet_43 : decode cX4_meet 43 = .ok (.istore_n 3, 1) := by decide +kernel
theorem dX4_meet_44 : decode cX4_meet 44 = .ok (.iload_n 1, 1) := by decide +kernel
theorem dX4_meet_45 : decode cX4_meet 45 = .ok (.istore 4, 2) := by decide +kernel
theorem dX4_meet_47 : decode cX4_meet 47 = .ok (.iload 4, 2) := by decide +kernel
theorem dX4_meet_49 : decode cX4_meet 49 = .ok (.iconst (-1), 1) := by decide +kernel
theorem dX4_meet_50 : decode cX4_meet 50 = .ok (.if_icmp .eq 32, 3) := by decide +kernel
theorem dX4_meet_53 : decode cX4_meet 53 = .ok (.iload 4, 2) := by decide +kernel
theorem dX4_meet_55 : decode cX4_meet 55 = .ok (.iload_n 2, 1) := by decide +kernel
theorem dX4_meet_56 : decode cX4_meet 56 = .ok (.if_icmp .eq 26, 3) := by decide +kernel
theorem dX4_meet_59 : decode cX4_meet 59 = .ok (.aload_n 0, 1) := by decide +kernel
theorem dX4_meet_60 : decode cX4_meet 60 = .ok (.iload_n 3, 1) := by decide +kernel
theorem dX4_meet_61 : decode cX4_meet 61 = .ok (.iload 4, 2) := by decide +kernel
theorem dX4_meet_63 : decode cX4_meet 63 = .ok (.iload_n 2, 1) := by decide +kernel
theorem dX4_meet_64 : decode cX4_meet 64 = .ok (.invokevirtual 214, 3) := by decide +kernel
theorem dX4_meet_67 : decode cX4_meet 67 = .ok (.ifCond .ne 15, 3) := by decide +kernel
theorem dX4_meet_70 : decode cX4_meet 70 = .ok (.aload_n 0, 1) := by decide +kernel
theorem dX4_meet_71 : decode cX4_meet 71 = .ok (.iload_n 3, 1) := by decide +kernel
theorem dX4_meet_72 : decode cX4_meet 72 = .ok (.iload 4, 2) := by decide +kernel
theorem dX4_meet_74 : decode cX4_meet 74 = .ok (.invokevirtual 217, 3) := by decide +kernel
theorem dX4_meet_77 : decode cX4_meet 77 = .ok (.istore 4, 2) := by decide +kernel
theorem dX4_meet_79 : decode cX4_meet 79 = .ok (.goto (-32), 3) := by decide +kernel
theorem dX4_meet_82 : decode cX4_meet 82 = .ok (.iload 4, 2) := by decide +kernel
theorem dX4_meet_84 : decode cX4_meet 84 = .ok (.ireturn, 1) := by decide +kernel
def rmX4_meet : Room := { frames := 4, cells := 0, slots := 0, locals := 95 }
noncomputable def f_X4_meet_47 : Nat → Int32 → Int32 → Int32 → MS → Option (Int32 × MS)
  | 0, _, _, _, _ => none
  | n + 1, x2, x3, x4, u => (if x4 = ((-1) : Int32) then some (x4, u) else (if x4 = x2 then some (x4, u) else (f_X4_isWithin x3 x4 x2 u).bind (fun z14 => (if z14 = 0 then (f_X4_outerOf x3 x4 u).bind (fun z17 => f_X4_meet_47 n x2 x3 z17 u) else some (x4, u)))))
noncomputable def f_X4_meet (x1 : Int32) (x2 : Int32) (u : MS) : Option (Int32 × MS) := (f_X4_isThing x1 (mF u 0 0)).bind (fun z1 => (if z1 = 0 then some ((-3), (mF u 0 0)) else (f_X4_isThing x2 (mF u 0 0)).bind (fun z4 => (if z4 = 0 then some ((-3), (mF u 0 0)) else (f_X4_areApart x1 x2 (mF u 0 0)).bind (fun z7 => (if z7 = 0 then (f_X4_rowWith (2 * x1) (mF u 0 0)).bind (fun z10 => f_X4_meet_47 NF x2 z10 x1 (mF u 0 0)) else some ((-4), (mF u 0 0))))))))
section
variable {p : Program} {l : Launch} {e : Env} {s : State} {m : MethodId} {args : Array Value} {below : List Frame} {meth : Method} {c : Code}
variable {G : GX} {A : Nat → Prop} {ad : Nat → Nat}
set_option maxHeartbeats 4000000 in
set_option maxRecDepth 100000 in
theorem w_X4_meet_47 (F : FX p m c cX4_meet 5 s args yX4_meet (some .int) RX4 meth) {z : Int32 × MS} : ∀ (n : Nat) (x2 : Int32) (x3 : Int32) (x4 : Int32) (u : MS) (H : Heap) (locs : List Loc) (ls : Array Slot), WD G A s (mw G ad u) H locs → lv_has ls 5 [(0, .ref (ad 0)), (2, .int x2), (3, .int x3), (4, .int x4)] → f_X4_meet_47 n x2 x3 x4 u = some z → W p l e rmX4_meet s m args below meth c H locs 0 0 (MQ below (QW G (mw G ad z.2) A (some (.int z.1))) args s 0 0 A) (F0 m 47 ls []) := by
  obtain ⟨⟨hx, hb, hml, hown, hts⟩, hr, hlocks⟩ := id F
  intro n
  induction n with
  | zero =>
    intro x2 x3 x4 u H locs ls hw hl h
    rw [f_X4_meet_47] at h
    cases h
  | succ n ih =>
    intro x2 x3 x4 u H locs ls hw hl h
    rw [f_X4_meet_47] at h
    refine lv_iload hx hb dX4_meet_47 (lv_at hl 3 rfl) ?_
    refine lv_iconst (v := (-1)) hx hb dX4_meet_49 rfl ?_
    refine lv_icmp_eq (tgt := 82) hx hb dX4_meet_50 rfl (fun c12 => ?_) (fun c12 => ?_)
    · replace h := itT h c12
      refine lv_iload hx hb dX4_meet_82 (lv_at hl 3 rfl) ?_
      cases h
      exact retW_i F hw dX4_meet_84
    · replace h := itF h c12
      refine lv_iload hx hb dX4_meet_53 (lv_at hl 3 rfl) ?_
      refine lv_iload_n hx hb dX4_meet_55 rfl (lv_at hl 1 rfl) ?_
      refine lv_icmp_eq (tgt := 82) hx hb dX4_meet_56 rfl (fun c13 => ?_) (fun c13 => ?_)
      · replace h := itT h c13
        refine lv_iload hx hb dX4_meet_82 (lv_at hl 3 rfl) ?_
        cases h
        exact retW_i F hw dX4_meet_84
      · replace h := itF h c13
        refine lv_aload_n hx hb dX4_meet_59 rfl (lv_at hl 0 rfl) ?_
        refine lv_iload_n hx hb dX4_meet_60 rfl (lv_at hl 2 rfl) ?_
        refine lv_iload hx hb dX4_meet_61 (lv_at hl 3 rfl) ?_
        refine lv_iload_n hx hb dX4_meet_63 rfl (lv_at hl 1 rfl) ?_
        obtain ⟨z14, e15, h⟩ := bnd h
        refine k_X4_isWithin F hw e15 ⟨Nat.le_of_ble_eq_true rfl, Nat.le_of_ble_eq_true rfl⟩ ⟨Nat.zero_le _, Nat.zero_le _⟩ hl.1 (Nat.le_of_ble_eq_true rfl) dX4_meet_64 ?_
        refine lv_if_ne (tgt := 82) hx hb dX4_meet_67 rfl (fun c16 => ?_) (fun c16 => ?_)
        · replace h := itF h c16
          refine lv_iload hx hb dX4_meet_82 (lv_at hl 3 rfl) ?_
          cases h
          exact retW_i F hw dX4_meet_84
        · replace h := itT h c16
          refine lv_aload_n hx hb dX4_meet_70 rfl (lv_at hl 0 rfl) ?_
          refine lv_iload_n hx hb dX4_meet_71 rfl (lv_at hl 2 rfl) ?_
          refine lv_iload hx hb dX4_meet_72 (lv_at hl 3 rfl) ?_
          obtain ⟨z17, e18, h⟩ := bnd h
          refine k_X4_outerOf F hw e18 ⟨Nat.le_of_ble_eq_true rfl, Nat.le_of_ble_eq_true rfl⟩ ⟨Nat.zero_le _, Nat.zero_le _⟩ hl.1 (Nat.le_of_ble_eq_true rfl) dX4_meet_74 ?_
          refine lv_istore (lv' := [(4, .int z17), (0, .ref (ad 0)), (2, .int x2), (3, .int x3)]) hx hb dX4_meet_77 hl (by decide) rfl (fun ls hl => ?_)
          refine lv_goto (tgt := 47) hx hb dX4_meet_79 rfl ?_
          exact ih _ _ _ _ _ _ _ hw (lv_sub hl [1, 2, 3, 0] rfl) h
set_option maxHeartbeats 4000000 in
set_option maxRecDepth 100000 in
theorem w_X4_meet_0 (F : FX p m c cX4_meet 5 s args yX4_meet (some .int) RX4 meth) {z : Int32 × MS} : ∀ (x1 : Int32) (x2 : Int32) (u : MS) (H : Heap) (locs : List Loc) (ls : Array Slot), WD G A s (mw G ad u) H locs → lv_has ls 5 [(0, .ref (ad 0)), (1, .int x1), (2, .int x2)] → f_X4_meet x1 x2 u = some z → W p l e rmX4_meet s m args below meth c H locs 0 0 (MQ below (QW G (mw G ad z.2) A (some (.int z.1))) args s 0 0 A) (F0 m 0 ls []) := by
  obtain ⟨⟨hx, hb, hml, hown, hts⟩, hr, hlocks⟩ := id F
  intro x1 x2 u H locs ls hw hl h
  unfold f_X4_meet at h
  refine lv_aload_n hx hb dX4_meet_0 rfl (lv_at hl 0 rfl) ?_
  refine lv_iconst (v := 0) hx hb dX4_meet_1 rfl ?_
  refine m_p0 F hw dX4_meet_2 (fun H locs hw => ?_)
  refine lv_aload_n hx hb dX4_meet_5 rfl (lv_at hl 0 rfl) ?_
  refine lv_iload_n hx hb dX4_meet_6 rfl (lv_at hl 1 rfl) ?_
  obtain ⟨z1, e2, h⟩ := bnd h
  refine k_X4_isThing F hw e2 ⟨Nat.le_of_ble_eq_true rfl, Nat.le_of_ble_eq_true rfl⟩ ⟨Nat.zero_le _, Nat.zero_le _⟩ hl.1 (Nat.le_of_ble_eq_true rfl) dX4_meet_7 ?_
  refine lv_if_eq (tgt := 21) hx hb dX4_meet_10 rfl (fun c3 => ?_) (fun c3 => ?_)
  · replace h := itT h c3
    refine lv_bipush (v := (-3)) hx hb dX4_meet_21 rfl ?_
    cases h
    exact retW_i F hw dX4_meet_23
  · replace h := itF h c3
    refine lv_aload_n hx hb dX4_meet_13 rfl (lv_at hl 0 rfl) ?_
    refine lv_iload_n hx hb dX4_meet_14 rfl (lv_at hl 2 rfl) ?_
    obtain ⟨z4, e5, h⟩ := bnd h
    refine k_X4_isThing F hw e5 ⟨Nat.le_of_ble_eq_true rfl, Nat.le_of_ble_eq_true rfl⟩ ⟨Nat.zero_le _, Nat.zero_le _⟩ hl.1 (Nat.le_of_ble_eq_true rfl) dX4_meet_15 ?_
    refine lv_if_ne (tgt := 24) hx hb dX4_meet_18 rfl (fun c6 => ?_) (fun c6 => ?_)
    · replace h := itF h c6
      refine lv_aload_n hx hb dX4_meet_24 rfl (lv_at hl 0 rfl) ?_
      refine lv_iload_n hx hb dX4_meet_25 rfl (lv_at hl 1 rfl) ?_
      refine lv_iload_n hx hb dX4_meet_26 rfl (lv_at hl 2 rfl) ?_
      obtain ⟨z7, e8, h⟩ := bnd h
      refine k_X4_areApart F hw e8 ⟨Nat.le_of_ble_eq_true rfl, Nat.le_of_ble_eq_true rfl⟩ ⟨Nat.zero_le _, Nat.zero_le _⟩ hl.1 (Nat.le_of_ble_eq_true rfl) dX4_meet_27 ?_
      refine lv_if_eq (tgt := 36) hx hb dX4_meet_30 rfl (fun c9 => ?_) (fun c9 => ?_)
      · replace h := itT h c9
        refine lv_aload_n hx hb dX4_meet_36 rfl (lv_at hl 0 rfl) ?_
        refine lv_iconst (v := 2) hx hb dX4_meet_37 rfl ?_
        refine lv_iload_n hx hb dX4_meet_38 rfl (lv_at hl 1 rfl) ?_
        refine lv_imul hx hb dX4_meet_39 ?_
        obtain ⟨z10, e11, h⟩ := bnd h
        refine k_X4_rowWith F hw e11 ⟨Nat.le_of_ble_eq_true rfl, Nat.le_of_ble_eq_true rfl⟩ ⟨Nat.zero_le _, Nat.zero_le _⟩ hl.1 (Nat.le_of_ble_eq_true rfl) dX4_meet_40 ?_
        refine lv_istore_n (lv' := [(3, .int z10), (0, .ref (ad 0)), (1, .int x1), (2, .int x2)]) hx hb dX4_meet_43 rfl hl (by decide) rfl (fun ls hl => ?_)
        refine lv_iload_n hx hb dX4_meet_44 rfl (lv_at hl 2 rfl) ?_
        refine lv_istore (lv' := [(4, .int x1), (3, .int z10), (0, .ref (ad 0)), (1, .int x1), (2, .int x2)]) hx hb dX4_meet_45 hl (by decide) rfl (fun ls hl => ?_)
        exact w_X4_meet_47 F NF _ _ _ _ _ _ _ hw (lv_sub hl [2, 4, 1, 0] rfl) h
      · replace h := itF h c9
        refine lv_bipush (v := (-4)) hx hb dX4_meet_33 rfl ?_
        cases h
        exact retW_i F hw dX4_meet_35
    · replace h := itT h c6
      refine lv_bipush (v := (-3)) hx hb dX4_meet_21 rfl ?_
      cases h
      exact retW_i F hw dX4_meet_23
end
theorem c_X4_meet {l : Launch} {G : GX} {ad : Nat → Nat} {x1 : Int32} {x2 : Int32} {u : MS} {z : Int32 × MS} (h : f_X4_meet x1 x2 u = some z) : MW l yX4_meet cX4_meet 5 (some .int) rmX4_meet G (mw G ad u) (mw G ad z.2) [.ref (ad 0), .int x1, .int x2] (some (.int z.1)) := MW.of (by decide) (Nat.le_of_ble_eq_true rfl) (fun p e s m below meth c ls F hw hl => w_X4_meet_0 F _ _ _ _ _ _ hw hl h)
/-! ===== X4_depth ===== -/
theorem dX4_depth_0 : decode cX4_depth 0 = .ok (.aload_n 0, 1) := by decide +kernel
theorem dX4_depth_1 : decode cX4_depth 1 = .ok (.iconst 0, 1) := by decide +kernel
theorem dX4_depth_2 : decode cX4_depth 2 = .ok (.putfield 64, 3) := by decide +kernel
theorem dX4_depth_5 : decode cX4_depth 5 = .ok (.aload_n 0, 1) := by decide +kernel
theorem dX4_depth_6 : decode cX4_depth 6 = .ok (.iload_n 1, 1) := by decide +kernel
theorem dX4_depth_7 : decode cX4_depth 7 = .ok (.invokevirtual 183, 3) := by decide +kernel
theorem dX4_depth_10 : decode cX4_depth 10 = .ok (.ifCond .eq 18, 3) := by decide +kernel
theorem dX4_depth_13 : decode cX4_depth 13 = .ok (.aload_n 0, 1) := by decide +kernel
theorem dX4_depth_14 : decode cX4_depth 14 = .ok (.aload_n 0, 1) := by decide +kernel
theorem dX4_depth_15 : decode cX4_depth 15 = .ok (.iconst 2, 1) := by decide +kernel
theorem dX4_depth_16 : decode cX4_depth 16 = .ok (.iload_n 1, 1) := by decide +kernel
theorem dX4_depth_17 : decode cX4_depth 17 = .ok (.imul, 1) := by decide +kernel
theorem dX4_depth_18 : decode cX4_depth 18 = .ok (.invokevirtual 100, 3) := by decide +kernel
theorem dX4_depth_21 : decode cX4_depth 21 = .ok (.iload_n 1, 1) := by decide +kernel
theorem dX4_depth_22 : decode cX4_depth 22 = .ok (.invokevirtual 206, 3) := by decide +kernel
theorem dX4_depth_25 : decode cX4_depth 25 = .ok (.goto 5, 3) := by decide +kernel
theorem dX4_depth_28 : decode cX4_depth 28 = .ok (.bipush (-3), 2) := by decide +kernel
theorem dX4_depth_30 : decode cX4_depth 30 = .ok (.ireturn, 1) := by decide +kernel
def rmX4_depth : Room := { frames := 5, cells := 0, slots := 0, locals := 119 }
noncomputable def f_X4_depth (x1 : Int32) (u : MS) : Option (Int32 × MS) := (f_X4_isThing x1 (mF u 0 0)).bind (fun z1 => (if z1 = 0 then some ((-3), (mF u 0 0)) else (f_X4_rowWith (2 * x1) (mF u 0 0)).bind (fun z4 => (f_X4_depthOf z4 x1 (mF u 0 0)).bind (fun z6 => some (z6, (mF u 0 0))))))
section
variable {p : Program} {l : Launch} {e : Env} {s : State} {m : MethodId} {args : Array Value} {below : List Frame} {meth : Method} {c : Code}
variable {G : GX} {A : Nat → Prop} {ad : Nat → Nat}
set_option maxHeartbeats 4000000 in
set_option maxRecDepth 100000 in
theorem w_X4_depth_0 (F : FX p m c cX4_depth 2 s args yX4_depth (some .int) RX4 meth) {z : Int32 × MS} : ∀ (x1 : Int32) (u : MS) (H : Heap) (locs : List Loc) (ls : Array Slot), WD G A s (mw G ad u) H locs → lv_has ls 2 [(0, .ref (ad 0)), (1, .int x1)] → f_X4_depth x1 u = some z → W p l e rmX4_depth s m args below meth c H locs 0 0 (MQ below (QW G (mw G ad z.2) A (some (.int z.1))) args s 0 0 A) (F0 m 0 ls []) := by
  obtain ⟨⟨hx, hb, hml, hown, hts⟩, hr, hlocks⟩ := id F
  intro x1 u H locs ls hw hl h
  unfold f_X4_depth at h
  refine lv_aload_n hx hb dX4_depth_0 rfl (lv_at hl 0 rfl) ?_
  refine lv_iconst (v := 0) hx hb dX4_depth_1 rfl ?_
  refine m_p0 F hw dX4_depth_2 (fun H locs hw => ?_)
  refine lv_aload_n hx hb dX4_depth_5 rfl (lv_at hl 0 rfl) ?_
  refine lv_iload_n hx hb dX4_depth_6 rfl (lv_at hl 1 rfl) ?_
  obtain ⟨z1, e2, h⟩ := bnd h
  refine k_X4_isThing F hw e2 ⟨Nat.le_of_ble_eq_true rfl, Nat.le_of_ble_eq_true rfl⟩ ⟨Nat.zero_le _, Nat.zero_le _⟩ hl.1 (Nat.le_of_ble_eq_true rfl) dX4_depth_7 ?_
  refine lv_if_eq (tgt := 28) hx hb dX4_depth_10 rfl (fun c3 => ?_) (fun c3 => ?_)
  · replace h := itT h c3
    refine lv_bipush (v := (-3)) hx hb dX4_depth_28 rfl ?_
    cases h
    exact retW_i F hw dX4_depth_30
  · replace h := itF h c3
    refine lv_aload_n hx hb dX4_depth_13 rfl (lv_at hl 0 rfl) ?_
    refine lv_aload_n hx hb dX4_depth_14 rfl (lv_at hl 0 rfl) ?_
    refine lv_iconst (v := 2) hx hb dX4_depth_15 rfl ?_
    refine lv_iload_n hx hb dX4_depth_16 rfl (lv_at hl 1 rfl) ?_
    refine lv_imul hx hb dX4_depth_17 ?_
    obtain ⟨z4, e5, h⟩ := bnd h
    refine k_X4_rowWith F hw e5 ⟨Nat.le_of_ble_eq_true rfl, Nat.le_of_ble_eq_true rfl⟩ ⟨Nat.zero_le _, Nat.zero_le _⟩ hl.1 (Nat.le_of_ble_eq_true rfl) dX4_depth_18 ?_
    refine lv_iload_n hx hb dX4_depth_21 rfl (lv_at hl 1 rfl) ?_
    obtain ⟨z6, e7, h⟩ := bnd h
    refine k_X4_depthOf F hw e7 ⟨Nat.le_of_ble_eq_true rfl, Nat.le_of_ble_eq_true rfl⟩ ⟨Nat.zero_le _, Nat.zero_le _⟩ hl.1 (Nat.le_of_ble_eq_true rfl) dX4_depth_22 ?_
    refine lv_goto (tgt := 30) hx hb dX4_depth_25 rfl ?_
    cases h
    exact retW_i F hw dX4_depth_30
end
theorem c_X4_depth {l : Launch} {G : GX} {ad : Nat → Nat} {x1 : Int32} {u : MS} {z : Int32 × MS} (h : f_X4_depth x1 u = some z) : MW l yX4_depth cX4_depth 2 (some .int) rmX4_depth G (mw G ad u) (mw G ad z.2) [.ref (ad 0), .int x1] (some (.int z.1)) := MW.of (by decide) (Nat.le_of_ble_eq_true rfl) (fun p e s m below meth c ls F hw hl => w_X4_depth_0 F _ _ _ _ _ hw hl h)
/-! ===== X4_rowOf ===== -/
theorem dX4_rowOf_0 : decode cX4_rowOf 0 = .ok (.aload_n 0, 1) := by decide +kernel
theorem dX4_rowOf_1 : decode cX4_rowOf 1 = .ok (.iconst 0, 1) := by decide +kernel
theorem dX4_rowOf_2 : decode cX4_rowOf 2 = .ok (.putfield 64, 3) := by decide +kernel
theorem dX4_rowOf_5 : decode cX4_rowOf 5 = .ok (.iload_n 1, 1) := by decide +kernel
theorem dX4_rowOf_6 : decode cX4_rowOf 6 = .ok (.iconst 0, 1) := by decide +kernel
theorem dX4_rowOf_7 : decode cX4_rowOf 7 = .ok (.aload_n 0, 1) := by decide +kernel
theorem dX4_rowOf_8 : decode cX4_rowOf 8 = .ok (.getfield 97, 3) := by decide +kernel
theorem dX4_rowOf_11 : decode cX4_rowOf 11 = .ok (.iconst 1, 1) := by decide +kernel
theorem dX4_rowOf_12 : decode cX4_rowOf 12 = .ok (.isub, 1) := by decide +kernel
theorem dX4_rowOf_13 : decode cX4_rowOf 13 = .ok (.invokestatic 93, 3) := by decide +kernel
theorem dX4_rowOf_16 : decode cX4_rowOf 16 = .ok (.ifCond .eq 13, 3) := by decide +kernel
theorem dX4_rowOf_19 : decode cX4_rowOf 19 = .ok (.aload_n 0, 1) := by decide +kernel
theorem dX4_rowOf_20 : decode cX4_rowOf 20 = .ok (.iconst 2, 1) := by decide +kernel
theorem dX4_rowOf_21 : decode cX4_rowOf 21 = .ok (.iload_n 1, 1) := by decide +kernel
theorem dX4_rowOf_22 : decode cX4_rowOf 22 = .ok (.imul, 1) := by decide +kernel
theorem dX4_rowOf_23 : decode cX4_rowOf 23 = .ok (.invokevirtual 100, 3) := by decide +kernel
theorem dX4_rowOf_26 : decode cX4_rowOf 26 = .ok (.goto 5, 3) := by decide +kernel
theorem dX4_rowOf_29 : decode cX4_rowOf 29 = .ok (.bipush (-3), 2) := by decide +kernel
theorem dX4_rowOf_31 : decode cX4_rowOf 31 = .ok (.ireturn, 1) := by decide +kernel
def rmX4_rowOf : Room := { frames := 1, cells := 0, slots := 0, locals := 23 }
noncomputable def f_X4_rowOf (x1 : Int32) (u : MS) : Option (Int32 × MS) := (f_X4_in x1 0 (((mF u 0 0).1 1) - 1)).bind (fun z1 => (if z1 = 0 then some ((-3), (mF u 0 0)) else (f_X4_rowWith (2 * x1) (mF u 0 0)).bind (fun z4 => some (z4, (mF u 0 0)))))
section
variable {p : Program} {l : Launch} {e : Env} {s : State} {m : MethodId} {args : Array Value} {below : List Frame} {meth : Method} {c : Code}
variable {G : GX} {A : Nat → Prop} {ad : Nat → Nat}
set_option maxHeartbeats 4000000 in
set_option maxRecDepth 100000 in
theorem w_X4_rowOf_0 (F : FX p m c cX4_rowOf 2 s args yX4_rowOf (some .int) RX4 meth) {z : Int32 × MS} : ∀ (x1 : Int32) (u : MS) (H : Heap) (locs : List Loc) (ls : Array Slot), WD G A s (mw G ad u) H locs → lv_has ls 2 [(0, .ref (ad 0)), (1, .int x1)] → f_X4_rowOf x1 u = some z → W p l e rmX4_rowOf s m args below meth c H locs 0 0 (MQ below (QW G (mw G ad z.2) A (some (.int z.1))) args s 0 0 A) (F0 m 0 ls []) := by
  obtain ⟨⟨hx, hb, hml, hown, hts⟩, hr, hlocks⟩ := id F
  intro x1 u H locs ls hw hl h
  unfold f_X4_rowOf at h
  refine lv_aload_n hx hb dX4_rowOf_0 rfl (lv_at hl 0 rfl) ?_
  refine lv_iconst (v := 0) hx hb dX4_rowOf_1 rfl ?_
  refine m_p0 F hw dX4_rowOf_2 (fun H locs hw => ?_)
  refine lv_iload_n hx hb dX4_rowOf_5 rfl (lv_at hl 1 rfl) ?_
  refine lv_iconst (v := 0) hx hb dX4_rowOf_6 rfl ?_
  refine lv_aload_n hx hb dX4_rowOf_7 rfl (lv_at hl 0 rfl) ?_
  refine m_g1 F hw dX4_rowOf_8 ?_
  refine lv_iconst (v := 1) hx hb dX4_rowOf_11 rfl ?_
  refine lv_isub hx hb dX4_rowOf_12 ?_
  obtain ⟨z1, e2, h⟩ := bnd h
  refine k_X4_in F hw e2 ⟨Nat.le_of_ble_eq_true rfl, Nat.le_of_ble_eq_true rfl⟩ ⟨Nat.zero_le _, Nat.zero_le _⟩ hl.1 (Nat.le_of_ble_eq_true rfl) dX4_rowOf_13 ?_
  refine lv_if_eq (tgt := 29) hx hb dX4_rowOf_16 rfl (fun c3 => ?_) (fun c3 => ?_)
  · replace h := itT h c3
    refine lv_bipush (v := (-3)) hx hb dX4_rowOf_29 rfl ?_
    cases h
    exact retW_i F hw dX4_rowOf_31
  · replace h := itF h c3
    refine lv_aload_n hx hb dX4_rowOf_19 rfl (lv_at hl 0 rfl) ?_
    refine lv_iconst (v := 2) hx hb dX4_rowOf_20 rfl ?_
    refine lv_iload_n hx hb dX4_rowOf_21 rfl (lv_at hl 1 rfl) ?_
    refine lv_imul hx hb dX4_rowOf_22 ?_
    obtain ⟨z4, e5, h⟩ := bnd h
    refine k_X4_rowWith F hw e5 ⟨Nat.le_of_ble_eq_true rfl, Nat.le_of_ble_eq_true rfl⟩ ⟨Nat.zero_le _, Nat.zero_le _⟩ hl.1 (Nat.le_of_ble_eq_true rfl) dX4_rowOf_23 ?_
    refine lv_goto (tgt := 31) hx hb dX4_rowOf_26 rfl ?_
    cases h
    exact retW_i F hw dX4_rowOf_31
end
theorem c_X4_rowOf {l : Launch} {G : GX} {ad : Nat → Nat} {x1 : Int32} {u : MS} {z : Int32 × MS} (h : f_X4_rowOf x1 u = some z) : MW l yX4_rowOf cX4_rowOf 2 (some .int) rmX4_rowOf G (mw G ad u) (mw G ad z.2) [.ref (ad 0), .int x1] (some (.int z.1)) := MW.of (by decide) (Nat.le_of_ble_eq_true rfl) (fun p e s m below meth c ls F hw hl => w_X4_rowOf_0 F _ _ _ _ _ hw hl h)
/-! ===== X4_mark ===== -/
theorem dX4_mark_0 : decode cX4_mark 0 = .ok (.aload_n 0, 1) := by decide +kernel
theorem dX4_mark_1 : decode cX4_mark 1 = .ok (.iconst 0, 1) := by decide +kernel
theorem dX4_mark_2 : decode cX4_mark 2 = .ok (.putfield 64, 3) := by decide +kernel
theorem dX4_mark_5 : decode cX4_mark 5 = .ok (.iload_n 1, 1) := by decide +kernel
theorem dX4_mark_6 : decode cX4_mark 6 = .ok (.iconst 0, 1) := by decide +kernel
theorem dX4_mark_7 : decode cX4_mark 7 = .ok (.bipush 19, 2) := by decide +kernel
theorem dX4_mark_9 : decode cX4_mark 9 = .ok (.invokestatic 93, 3) := by decide +kernel
theorem dX4_mark_12 : decode cX4_mark 12 = .ok (.ifCond .eq 33, 3) := by decide +kernel
theorem dX4_mark_15 : decode cX4_mark 15 = .ok (.aload_n 0, 1) := by decide +kernel
theorem dX4_mark_16 : decode cX4_mark 16 = .ok (.iload_n 2, 1) := by decide +kernel
theorem dX4_mark_17 : decode cX4_mark 17 = .ok (.invokevirtual 186, 3) := by decide +kernel
theorem dX4_mark_20 : decode cX4_mark 20 = .ok (.ifCond .eq 25, 3) := by decide +kernel
theorem dX4_mark_23 : decode cX4_mark 23 = .ok (.iload 4, 2) := by decide +kernel
theorem dX4_mark_25 : decode cX4_mark 25 = .ok (.iconst 0, 1) := by decide +kernel
theorem dX4_mark_26 : decode cX4_mark 26 = .ok (.iconst 1, 1) := by decide +kernel
theorem dX4_mark_27 : decode cX4_mark 27 = .ok (.invokestatic 93, 3) := by decide +kernel
theorem dX4_mark_30 : decode cX4_mark 30 = .ok (.ifCond .eq 15, 3) := by decide +kernel
theorem dX4_mark_33 : decode cX4_mark 33 = .ok (.aload_n 0, 1) := by decide +kernel
theorem dX4_mark_34 : decode cX4_mark 34 = .ok (.iload_n 2, 1) := by decide +kernel
theorem dX4_mark_35 : decode cX4_mark 35 = .ok (.iload_n 3, 1) := by decide +kernel
theorem dX4_mark_36 : decode cX4_mark 36 = .ok (.iconst 0, 1) := by decide +kernel
theorem dX4_mark_37 : decode cX4_mark 37 = .ok (.invokevirtual 189, 3) := by decide +kernel
theorem dX4_mark_40 : decode cX4_mark 40 = .ok (.bipush (-3), 2) := by decide +kernel
theorem dX4_mark_42 : decode cX4_mark 42 = .ok (.if_icmp .ne 6, 3) := by decide +kernel
theorem dX4_mark_45 : decode cX4_mark 45 = .ok (.bipush (-3), 2) := by decide +kernel
theorem dX4_mark_47 : decode cX4_mark 47 = .ok (.ireturn, 1) := by decide +kernel
theorem dX4_mark_48 : decode cX4_mark 48 = .ok (.aload_n 0, 1) := by decide +kernel
theorem dX4_mark_49 : decode cX4_mark 49 = .ok (.bipush 8, 2) := by decide +kernel
theorem dX4_mark_51 : decode cX4_mark 51 = .ok (.invokevirtual 104, 3) := by decide +kernel
theorem dX4_mark_54 : decode cX4_mark 54 = .ok (.aload_n 0, 1) := by decide +kernel
theorem dX4_mark_55 : decode cX4_mark 55 = .ok (.invokevirtual 107, 3) := by decide +kernel
theorem dX4_mark_58 : decode cX4_mark 58 = .ok (.aload_n 0, 1) := by decide +kernel
theorem dX4_mark_59 : decode cX4_mark 59 = .ok (.getfield 41, 3) := by decide +kernel
theorem dX4_mark_62 : decode cX4_mark 62 = .ok (.iload_n 1, 1) := by decide +kernel
theorem dX4_mark_63 : decode cX4_mark 63 = .ok (.iload_n 2, 1) := by decide +kernel
theorem dX4_mark_64 : decode cX4_mark 64 = .ok (.iastore, 1) := by decide +kernel
theorem dX4_mark_65 : decode cX4_mark 65 = .ok (.aload_n 0, 1) := by decide +kernel
theorem dX4_mark_66 : decode cX4_mark 66 = .ok (.getfield 44, 3) := by decide +kernel
theorem dX4_mark_69 : decode cX4_mark 69 = .ok (.iload_n 1, 1) := by decide +kernel
theorem dX4_mark_70 : decode cX4_mark 70 = .ok (.iload_n 3, 1) := by decide +kernel
theorem dX4_mark_71 : decode cX4_mark 71 = .ok (.iconst (-1), 1) := by decide +kernel
theorem dX4_mark_72 : decode cX4_mark 72 = .ok (.if_icmp .ne 7, 3) := by decide +kernel
theorem dX4_mark_75 : decode cX4_mark 75 = .ok (.iconst (-1), 1) := by decide +kernel
theorem dX4_mark_76 : decode cX4_mark 76 = .ok (.goto 6, 3) := by decide +kernel
theorem dX4_mark_79 : decode cX4_mark 79 = .ok (.iconst 2, 1) := by decide +kernel
theorem dX4_mark_80 : decode cX4_mark 80 = .ok (.iload_n 3, 1) := by decide +kernel
theorem dX4_mark_81 : decode cX4_mark 81 = .ok (.imul, 1) := by decide +kernel
theorem dX4_mark_82 : decode cX4_mark 82 = .ok (.iastore, 1) := by decide +kernel
theorem dX4_mark_83 : decode cX4_mark 83 = .ok (.aload_n 0, 1) := by decide +kernel
theorem dX4_mark_84 : decode cX4_mark 84 = .ok (.getfield 47, 3) := by decide +kernel
theorem dX4_mark_87 : decode cX4_mark 87 = .ok (.iload_n 1, 1) := by decide +kernel
theorem dX4_mark_88 : decode cX4_mark 88 = .ok (.iload 4, 2) := by decide +kernel
theorem dX4_mark_90 : decode cX4_mark 90 = .ok (.iastore, 1) := by decide +kernel
theorem dX4_mark_91 : decode cX4_mark 91 = .ok (.iconst 0, 1) := by decide +kernel
theorem dX4_mark_92 : decode cX4_mark 92 = .ok (.ireturn, 1) := by decide +kernel
def rmX4_mark : Room := { frames := 3, cells := 0, slots := 0, locals := 67 }
noncomputable def f_X4_mark (x1 : Int32) (x2 : Int32) (x3 : Int32) (x4 : Int32) (u : MS) : Option (Int32 × MS) := (f_X4_in x1 0 19).bind (fun z1 => (if z1 = 0 then some ((-3), (mF u 0 0)) else (f_X4_isRow x2 (mF u 0 0)).bind (fun z4 => (if z4 = 0 then some ((-3), (mF u 0 0)) else (f_X4_in x4 0 1).bind (fun z7 => (if z7 = 0 then some ((-3), (mF u 0 0)) else (f_X4_placeBehind x2 x3 0 (mF u 0 0)).bind (fun z10 => (if z10 = ((-3) : Int32) then some ((-3), (mF u 0 0)) else (f_X4_save 8 (mF u 0 0)).bind (fun z13 => (f_X4_keep z13).bind (fun z15 => (if ix x1 20 = true then (if x3 = ((-1) : Int32) then (if ix x1 20 = true then (if ix x1 20 = true then some (0, (mA (mA (mA z15 12 (Int32.toNatClampNeg x1) x2) 13 (Int32.toNatClampNeg x1) (-1)) 14 (Int32.toNatClampNeg x1) x4)) else none) else none) else (if ix x1 20 = true then (if ix x1 20 = true then some (0, (mA (mA (mA z15 12 (Int32.toNatClampNeg x1) x2) 13 (Int32.toNatClampNeg x1) (2 * x3)) 14 (Int32.toNatClampNeg x1) x4)) else none) else none)) else none)))))))))))
section
variable {p : Program} {l : Launch} {e : Env} {s : State} {m : MethodId} {args : Array Value} {below : List Frame} {meth : Method} {c : Code}
variable {G : GX} {A : Nat → Prop} {ad : Nat → Nat}
set_option maxHeartbeats 4000000 in
set_option maxRecDepth 100000 in
theorem w_X4_mark_0 (F : FX p m c cX4_mark 5 s args yX4_mark (some .int) RX4 meth) {z : Int32 × MS} : ∀ (x1 : Int32) (x2 : Int32) (x3 : Int32) (x4 : Int32) (u : MS) (H : Heap) (locs : List Loc) (ls : Array Slot), WD G A s (mw G ad u) H locs → lv_has ls 5 [(0, .ref (ad 0)), (1, .int x1), (2, .int x2), (3, .int x3), (4, .int x4)] → f_X4_mark x1 x2 x3 x4 u = some z → W p l e rmX4_mark s m args below meth c H locs 0 0 (MQ below (QW G (mw G ad z.2) A (some (.int z.1))) args s 0 0 A) (F0 m 0 ls []) := by
  obtain ⟨⟨hx, hb, hml, hown, hts⟩, hr, hlocks⟩ := id F
  intro x1 x2 x3 x4 u H locs ls hw hl h
  unfold f_X4_mark at h
  refine lv_aload_n hx hb dX4_mark_0 rfl (lv_at hl 0 rfl) ?_
  refine lv_iconst (v := 0) hx hb dX4_mark_1 rfl ?_
  refine m_p0 F hw dX4_mark_2 (fun H locs hw => ?_)
  refine lv_iload_n hx hb dX4_mark_5 rfl (lv_at hl 1 rfl) ?_
  refine lv_iconst (v := 0) hx hb dX4_mark_6 rfl ?_
  refine lv_bipush (v := 19) hx hb dX4_mark_7 rfl ?_
  obtain ⟨z1, e2, h⟩ := bnd h
  refine k_X4_in F hw e2 ⟨Nat.le_of_ble_eq_true rfl, Nat.le_of_ble_eq_true rfl⟩ ⟨Nat.zero_le _, Nat.zero_le _⟩ hl.1 (Nat.le_of_ble_eq_true rfl) dX4_mark_9 ?_
  refine lv_if_eq (tgt := 45) hx hb dX4_mark_12 rfl (fun c3 => ?_) (fun c3 => ?_)
  · replace h := itT h c3
    refine lv_bipush (v := (-3)) hx hb dX4_mark_45 rfl ?_
    cases h
    exact retW_i F hw dX4_mark_47
  · replace h := itF h c3
    refine lv_aload_n hx hb dX4_mark_15 rfl (lv_at hl 0 rfl) ?_
    refine lv_iload_n hx hb dX4_mark_16 rfl (lv_at hl 2 rfl) ?_
    obtain ⟨z4, e5, h⟩ := bnd h
    refine k_X4_isRow F hw e5 ⟨Nat.le_of_ble_eq_true rfl, Nat.le_of_ble_eq_true rfl⟩ ⟨Nat.zero_le _, Nat.zero_le _⟩ hl.1 (Nat.le_of_ble_eq_true rfl) dX4_mark_17 ?_
    refine lv_if_eq (tgt := 45) hx hb dX4_mark_20 rfl (fun c6 => ?_) (fun c6 => ?_)
    · replace h := itT h c6
      refine lv_bipush (v := (-3)) hx hb dX4_mark_45 rfl ?_
      cases h
      exact retW_i F hw dX4_mark_47
    · replace h := itF h c6
      refine lv_iload hx hb dX4_mark_23 (lv_at hl 4 rfl) ?_
      refine lv_iconst (v := 0) hx hb dX4_mark_25 rfl ?_
      refine lv_iconst (v := 1) hx hb dX4_mark_26 rfl ?_
      obtain ⟨z7, e8, h⟩ := bnd h
      refine k_X4_in F hw e8 ⟨Nat.le_of_ble_eq_true rfl, Nat.le_of_ble_eq_true rfl⟩ ⟨Nat.zero_le _, Nat.zero_le _⟩ hl.1 (Nat.le_of_ble_eq_true rfl) dX4_mark_27 ?_
      refine lv_if_eq (tgt := 45) hx hb dX4_mark_30 rfl (fun c9 => ?_) (fun c9 => ?_)
      · replace h := itT h c9
        refine lv_bipush (v := (-3)) hx hb dX4_mark_45 rfl ?_
        cases h
        exact retW_i F hw dX4_mark_47
      · replace h := itF h c9
        refine lv_aload_n hx hb dX4_mark_33 rfl (lv_at hl 0 rfl) ?_
        refine lv_iload_n hx hb dX4_mark_34 rfl (lv_at hl 2 rfl) ?_
        refine lv_iload_n hx hb dX4_mark_35 rfl (lv_at hl 3 rfl) ?_
        refine lv_iconst (v := 0) hx hb dX4_mark_36 rfl ?_
        obtain ⟨z10, e11, h⟩ := bnd h
        refine k_X4_placeBehind F hw e11 ⟨Nat.le_of_ble_eq_true rfl, Nat.le_of_ble_eq_true rfl⟩ ⟨Nat.zero_le _, Nat.zero_le _⟩ hl.1 (Nat.le_of_ble_eq_true rfl) dX4_mark_37 ?_
        refine lv_bipush (v := (-3)) hx hb dX4_mark_40 rfl ?_
        refine lv_icmp_ne (tgt := 48) hx hb dX4_mark_42 rfl (fun c12 => ?_) (fun c12 => ?_)
        · replace h := itF h c12
          refine lv_aload_n hx hb dX4_mark_48 rfl (lv_at hl 0 rfl) ?_
          refine lv_bipush (v := 8) hx hb dX4_mark_49 rfl ?_
          obtain ⟨z13, e14, h⟩ := bnd h
          refine k_X4_save F hw e14 ⟨Nat.le_of_ble_eq_true rfl, Nat.le_of_ble_eq_true rfl⟩ ⟨Nat.zero_le _, Nat.zero_le _⟩ hl.1 (Nat.le_of_ble_eq_true rfl) dX4_mark_51 (fun H locs hw => ?_)
          refine lv_aload_n hx hb dX4_mark_54 rfl (lv_at hl 0 rfl) ?_
          obtain ⟨z15, e16, h⟩ := bnd h
          refine k_X4_keep F hw e16 ⟨Nat.le_of_ble_eq_true rfl, Nat.le_of_ble_eq_true rfl⟩ ⟨Nat.zero_le _, Nat.zero_le _⟩ hl.1 (Nat.le_of_ble_eq_true rfl) dX4_mark_55 (fun H locs hw => ?_)
          refine lv_aload_n hx hb dX4_mark_58 rfl (lv_at hl 0 rfl) ?_
          refine m_g12 F hw dX4_mark_59 ?_
          refine lv_iload_n hx hb dX4_mark_62 rfl (lv_at hl 1 rfl) ?_
          refine lv_iload_n hx hb dX4_mark_63 rfl (lv_at hl 2 rfl) ?_
          obtain ⟨g17, h⟩ := gd h
          refine m_s12 F hw g17 dX4_mark_64 (fun H locs hw => ?_)
          refine lv_aload_n hx hb dX4_mark_65 rfl (lv_at hl 0 rfl) ?_
          refine m_g13 F hw dX4_mark_66 ?_
          refine lv_iload_n hx hb dX4_mark_69 rfl (lv_at hl 1 rfl) ?_
          refine lv_iload_n hx hb dX4_mark_70 rfl (lv_at hl 3 rfl) ?_
          refine lv_iconst (v := (-1)) hx hb dX4_mark_71 rfl ?_
          refine lv_icmp_ne (tgt := 79) hx hb dX4_mark_72 rfl (fun c18 => ?_) (fun c18 => ?_)
          · replace h := itF h c18
            refine lv_iconst (v := 2) hx hb dX4_mark_79 rfl ?_
            refine lv_iload_n hx hb dX4_mark_80 rfl (lv_at hl 3 rfl) ?_
            refine lv_imul hx hb dX4_mark_81 ?_
            obtain ⟨g19, h⟩ := gd h
            refine m_s13 F hw g19 dX4_mark_82 (fun H locs hw => ?_)
            refine lv_aload_n hx hb dX4_mark_83 rfl (lv_at hl 0 rfl) ?_
            refine m_g14 F hw dX4_mark_84 ?_
            refine lv_iload_n hx hb dX4_mark_87 rfl (lv_at hl 1 rfl) ?_
            refine lv_iload hx hb dX4_mark_88 (lv_at hl 4 rfl) ?_
            obtain ⟨g20, h⟩ := gd h
            refine m_s14 F hw g20 dX4_mark_90 (fun H locs hw => ?_)
            refine lv_iconst (v := 0) hx hb dX4_mark_91 rfl ?_
            cases h
            exact retW_i F hw dX4_mark_92
          · replace h := itT h c18
            refine lv_iconst (v := (-1)) hx hb dX4_mark_75 rfl ?_
            refine lv_goto (tgt := 82) hx hb dX4_mark_76 rfl ?_
            obtain ⟨g21, h⟩ := gd h
            refine m_s13 F hw g21 dX4_mark_82 (fun H locs hw => ?_)
            refine lv_aload_n hx hb dX4_mark_83 rfl (lv_at hl 0 rfl) ?_
            refine m_g14 F hw dX4_mark_84 ?_
            refine lv_iload_n hx hb dX4_mark_87 rfl (lv_at hl 1 rfl) ?_
            refine lv_iload hx hb dX4_mark_88 (lv_at hl 4 rfl) ?_
            obtain ⟨g22, h⟩ := gd h
            refine m_s14 F hw g22 dX4_mark_90 (fun H locs hw => ?_)
            refine lv_iconst (v := 0) hx hb dX4_mark_91 rfl ?_
            cases h
            exact retW_i F hw dX4_mark_92
        · replace h := itT h c12
          refine lv_bipush (v := (-3)) hx hb dX4_mark_45 rfl ?_
          cases h
          exact retW_i F hw dX4_mark_47
end
theorem c_X4_mark {l : Launch} {G : GX} {ad : Nat → Nat} {x1 : Int32} {x2 : Int32} {x3 : Int32} {x4 : Int32} {u : MS} {z : Int32 × MS} (h : f_X4_mark x1 x2 x3 x4 u = some z) : MW l yX4_mark cX4_mark 5 (some .int) rmX4_mark G (mw G ad u) (mw G ad z.2) [.ref (ad 0), .int x1, .int x2, .int x3, .int x4] (some (.int z.1)) := MW.of (by decide) (Nat.le_of_ble_eq_true rfl) (fun p e s m below meth c ls F hw hl => w_X4_mark_0 F _ _ _ _ _ _ _ _ hw hl h)
/-! ===== X4_isMark ===== -/
theorem dX4_isMark_0 : decode cX4_isMark 0 = .ok (.iload_n 1, 1) := by decide +kernel
theorem dX4_isMark_1 : decode cX4_isMark 1 = .ok (.iconst 0, 1) := by decide +kernel
theorem dX4_isMark_2 : decode cX4_isMark 2 = .ok (.bipush 19, 2) := by decide +kernel
theorem dX4_isMark_4 : decode cX4_isMark 4 = .ok (.invokestatic 93, 3) := by decide +kernel
theorem dX4_isMark_7 : decode cX4_isMark 7 = .ok (.ifCond .eq 17, 3) := by decide +kernel
theorem dX4_isMark_10 : decode cX4_isMark 10 = .ok (.aload_n 0, 1) := by decide +kernel
theorem dX4_isMark_11 : decode cX4_isMark 11 = .ok (.getfield 41, 3) := by decide +kernel
theorem dX4_isMark_14 : decode cX4_isMark 14 = .ok (.iload_n 1, 1) := by decide +kernel
theorem dX4_isMark_15 : decode cX4_isMark 15 = .ok (.iaload, 1) := by decide +kernel
theorem dX4_isMark_16 : decode cX4_isMark 16 = .ok (.iconst (-1), 1) := by decide +kernel
theorem dX4_isMark_17 : decode cX4_isMark 17 = .ok (.if_icmp .eq 7, 3) := by decide +kernel
theorem dX4_isMark_20 : decode cX4_isMark 20 = .ok (.iconst 1, 1) := by decide +kernel
theorem dX4_isMark_21 : decode cX4_isMark 21 = .ok (.goto 4, 3) := by decide +kernel
theorem dX4_isMark_24 : decode cX4_isMark 24 = .ok (.iconst 0, 1) := by decide +kernel
theorem dX4_isMark_25 : decode cX4_isMark 25 = .ok (.ireturn, 1) := by decide +kernel
def rmX4_isMark : Room := { frames := 1, cells := 0, slots := 0, locals := 22 }
noncomputable def f_X4_isMark (x1 : Int32) (u : MS) : Option (Int32) := (f_X4_in x1 0 19).bind (fun z1 => (if z1 = 0 then some 0 else (if ix x1 20 = true then (if (u.2.1 12 (Int32.toNatClampNeg x1)) = ((-1) : Int32) then some 0 else some 1) else none)))
section
variable {p : Program} {l : Launch} {e : Env} {s : State} {m : MethodId} {args : Array Value} {below : List Frame} {meth : Method} {c : Code}
variable {G : GX} {A : Nat → Prop} {ad : Nat → Nat}
set_option maxHeartbeats 4000000 in
set_option maxRecDepth 100000 in
theorem w_X4_isMark_0 (F : FX p m c cX4_isMark 2 s args yX4_isMark (some .boolean) RX4 meth) {z : Int32} : ∀ (x1 : Int32) (u : MS) (ls : Array Slot), WD G A s (mw G ad u) s.heap [] → lv_has ls 2 [(0, .ref (ad 0)), (1, .int x1)] → f_X4_isMark x1 u = some z → W p l e rmX4_isMark s m args below meth c s.heap [] 0 0 (MQ below (QO (some (.int z))) args s 0 0 (fun _ => False)) (F0 m 0 ls []) := by
  obtain ⟨⟨hx, hb, hml, hown, hts⟩, hr, hlocks⟩ := id F
  intro x1 u ls hw hl h
  unfold f_X4_isMark at h
  refine lv_iload_n hx hb dX4_isMark_0 rfl (lv_at hl 1 rfl) ?_
  refine lv_iconst (v := 0) hx hb dX4_isMark_1 rfl ?_
  refine lv_bipush (v := 19) hx hb dX4_isMark_2 rfl ?_
  obtain ⟨z1, e2, h⟩ := bnd h
  refine k_X4_in F hw e2 ⟨Nat.le_of_ble_eq_true rfl, Nat.le_of_ble_eq_true rfl⟩ ⟨Nat.zero_le _, Nat.zero_le _⟩ hl.1 (Nat.le_of_ble_eq_true rfl) dX4_isMark_4 ?_
  refine lv_if_eq (tgt := 24) hx hb dX4_isMark_7 rfl (fun c3 => ?_) (fun c3 => ?_)
  · replace h := itT h c3
    refine lv_iconst (v := 0) hx hb dX4_isMark_24 rfl ?_
    cases h
    exact retO_z F narrow_b0 dX4_isMark_25
  · replace h := itF h c3
    refine lv_aload_n hx hb dX4_isMark_10 rfl (lv_at hl 0 rfl) ?_
    refine m_g12 F hw dX4_isMark_11 ?_
    refine lv_iload_n hx hb dX4_isMark_14 rfl (lv_at hl 1 rfl) ?_
    obtain ⟨g4, h⟩ := gd h
    refine m_l12 F hw g4 dX4_isMark_15 ?_
    refine lv_iconst (v := (-1)) hx hb dX4_isMark_16 rfl ?_
    refine lv_icmp_eq (tgt := 24) hx hb dX4_isMark_17 rfl (fun c5 => ?_) (fun c5 => ?_)
    · replace h := itT h c5
      refine lv_iconst (v := 0) hx hb dX4_isMark_24 rfl ?_
      cases h
      exact retO_z F narrow_b0 dX4_isMark_25
    · replace h := itF h c5
      refine lv_iconst (v := 1) hx hb dX4_isMark_20 rfl ?_
      refine lv_goto (tgt := 25) hx hb dX4_isMark_21 rfl ?_
      cases h
      exact retO_z F narrow_b1 dX4_isMark_25
end
theorem c_X4_isMark {l : Launch} {G : GX} {ad : Nat → Nat} {x1 : Int32} {u : MS} {z : Int32} (h : f_X4_isMark x1 u = some z) : MO l yX4_isMark cX4_isMark 2 (some .boolean) rmX4_isMark G (mw G ad u) [.ref (ad 0), .int x1] (some (.int z)) := MO.of (by decide) (Nat.le_of_ble_eq_true rfl) (fun p e s m below meth c ls F hw hl => w_X4_isMark_0 F _ _ _ hw hl h)
theorem yv_X4_isMark : YV RX4 226 yX4_isMark cX4_isMark 2 (some .boolean) 1 := ⟨(tw 829 (by decide +kernel) rfl), (tw 6 (by decide +kernel) rfl), (tw 826 (by decide +kernel) rfl), (tw 828 (by decide +kernel) rfl), (tp 48 (by decide +kernel) rfl), by decide +kernel⟩
theorem k_X4_isMark {p : Program} {l : Launch} {e : Env} {R : Room} {s : State} {m : MethodId} {args : Array Value} {below : List Frame} {meth : Method} {c : Code} {H : Heap} {locs : List Loc} {cells slots : Nat} {Q : State → Prop} {G : GX} {A : Nat → Prop} {ad : Nat → Nat} {cc : ByteArray} {nL pc : Nat} {y0 : MethodName} {ret0 : Option FieldType} {ls : Array Slot} {rest : List Value} {u : MS} {x1 : Int32} {z : Int32} (F : FX p m c cc nL s args y0 ret0 RX4 meth) (hw : WD G A s (mw G ad u) H locs) (h : f_X4_isMark x1 u = some z) (hR : rmX4_isMark.frames + 1 ≤ R.frames ∧ 8 + (2 + 11) + rmX4_isMark.locals ≤ R.locals) (hcs : cells ≤ R.cells ∧ slots ≤ R.slots) (hsz : ls.size = nL) (hW : (rest.map fun v => v.category).sum ≤ 8) (hdg : decode cc pc = .ok (.invokevirtual 226, 3)) (kk : W p l e R s m args below meth c H locs cells slots Q (F0 m (pc + 3) ls (.int z :: rest))) : W p l e R s m args below meth c H locs cells slots Q (F0 m pc ls (.int x1 :: .ref (ad 0) :: rest)) := callO (runV F yv_X4_isMark (c_X4_isMark h) hw.1 hw.2.1 hw.2.2.1 rfl rfl rfl ⟨rfl, rfl⟩ hR hcs rfl hsz rfl hW hdg) kk
/-! ===== X4_marked ===== -/
theorem dX4_marked_0 : decode cX4_marked 0 = .ok (.aload_n 0, 1) := by decide +kernel
theorem dX4_marked_1 : decode cX4_marked 1 = .ok (.iconst 0, 1) := by decide +kernel
theorem dX4_marked_2 : decode cX4_marked 2 = .ok (.putfield 64, 3) := by decide +kernel
theorem dX4_marked_5 : decode cX4_marked 5 = .ok (.aload_n 0, 1) := by decide +kernel
theorem dX4_marked_6 : decode cX4_marked 6 = .ok (.iload_n 1, 1) := by decide +kernel
theorem dX4_marked_7 : decode cX4_marked 7 = .ok (.invokevirtual 226, 3) := by decide +kernel
theorem dX4_marked_10 : decode cX4_marked 10 = .ok (.ifCond .ne 6, 3) := by decide +kernel
theorem dX4_marked_13 : decode cX4_marked 13 = .ok (.bipush (-3), 2) := by decide +kernel
theorem dX4_marked_15 : decode cX4_marked 15 = .ok (.ireturn, 1) := by decide +kernel
theorem dX4_marked_16 : decode cX4_marked 16 = .ok (.aload_n 0, 1) := by decide +kernel
theorem dX4_marked_17 : decode cX4_marked 17 = .ok (.getfield 44, 3) := by decide +kernel
theorem dX4_marked_20 : decode cX4_marked 20 = .ok (.iload_n 1, 1) := by decide +kernel
theorem dX4_marked_21 : decode cX4_marked 21 = .ok (.iaload, 1) := by decide +kernel
theorem dX4_marked_22 : decode cX4_marked 22 = .ok (.istore_n 2, 1) := by decide +kernel
theorem dX4_marked_23 : decode cX4_marked 23 = .ok (.iload_n 2, 1) := by decide +kernel
theorem dX4_marked_24 : decode cX4_marked 24 = .ok (.iconst (-1), 1) := by decide +kernel
theorem dX4_marked_25 : decode cX4_marked 25 = .ok (.if_icmp .ne 7, 3) := by decide +kernel
theorem dX4_marked_28 : decode cX4_marked 28 = .ok (.iconst (-1), 1) := by decide +kernel
theorem dX4_marked_29 : decode cX4_marked 29 = .ok (.goto 22, 3) := by decide +kernel
theorem dX4_marked_32 : decode cX4_marked 32 = .ok (.iload_n 2, 1) := by decide +kernel
theorem dX4_marked_33 : decode cX4_marked 33 = .ok (.iconst 2, 1) := by decide +kernel
theorem dX4_marked_34 : decode cX4_marked 34 = .ok (.irem, 1) := by decide +kernel
theorem dX4_marked_35 : decode cX4_marked 35 = .ok (.ifCond .ne 9, 3) := by decide +kernel
theorem dX4_marked_38 : decode cX4_marked 38 = .ok (.iload_n 2, 1) := by decide +kernel
theorem dX4_marked_39 : decode cX4_marked 39 = .ok (.iconst 2, 1) := by decide +kernel
theorem dX4_marked_40 : decode cX4_marked 40 = .ok (.idiv, 1) := by decide +kernel
theorem dX4_marked_41 : decode cX4_marked 41 = .ok (.goto 10, 3) := by decide +kernel
theorem dX4_marked_44 : decode cX4_marked 44 = .ok (.sipush 1000, 3) := by decide +kernel
theorem dX4_marked_47 : decode cX4_marked 47 = .ok (.iload_n 2, 1) := by decide +kernel
theorem dX4_marked_48 : decode cX4_marked 48 = .ok (.iconst 2, 1) := by decide +kernel
theorem dX4_marked_49 : decode cX4_marked 49 = .ok (.idiv, 1) := by decide +kernel
theorem dX4_marked_50 : decode cX4_marked 50 = .ok (.iadd, 1) := by decide +kernel
theorem dX4_marked_51 : decode cX4_marked 51 = .ok (.ireturn, 1) := by decide +kernel
def rmX4_marked : Room := { frames := 2, cells := 0, slots := 0, locals := 43 }
noncomputable def f_X4_marked (x1 : Int32) (u : MS) : Option (Int32 × MS) := (f_X4_isMark x1 (mF u 0 0)).bind (fun z1 => (if z1 = 0 then some ((-3), (mF u 0 0)) else (if ix x1 20 = true then (if ((mF u 0 0).2.1 13 (Int32.toNatClampNeg x1)) = ((-1) : Int32) then some ((-1), (mF u 0 0)) else (if (((mF u 0 0).2.1 13 (Int32.toNatClampNeg x1)) - ((mF u 0 0).2.1 13 (Int32.toNatClampNeg x1)) / 2 * 2) = 0 then some ((((mF u 0 0).2.1 13 (Int32.toNatClampNeg x1)) / 2), (mF u 0 0)) else some ((1000 + (((mF u 0 0).2.1 13 (Int32.toNatClampNeg x1)) / 2)), (mF u 0 0)))) else none)))
section
variable {p : Program} {l : Launch} {e : Env} {s : State} {m : MethodId} {args : Array Value} {below : List Frame} {meth : Method} {c : Code}
variable {G : GX} {A : Nat → Prop} {ad : Nat → Nat}
set_option maxHeartbeats 4000000 in
set_option maxRecDepth 100000 in
theorem w_X4_marked_0 (F : FX p m c cX4_marked 3 s args yX4_marked (some .int) RX4 meth) {z : Int32 × MS} : ∀ (x1 : Int32) (u : MS) (H : Heap) (locs : List Loc) (ls : Array Slot), WD G A s (mw G ad u) H locs → lv_has ls 3 [(0, .ref (ad 0)), (1, .int x1)] → f_X4_marked x1 u = some z → W p l e rmX4_marked s m args below meth c H locs 0 0 (MQ below (QW G (mw G ad z.2) A (some (.int z.1))) args s 0 0 A) (F0 m 0 ls []) := by
  obtain ⟨⟨hx, hb, hml, hown, hts⟩, hr, hlocks⟩ := id F
  intro x1 u H locs ls hw hl h
  unfold f_X4_marked at h
  refine lv_aload_n hx hb dX4_marked_0 rfl (lv_at hl 0 rfl) ?_
  refine lv_iconst (v := 0) hx hb dX4_marked_1 rfl ?_
  refine m_p0 F hw dX4_marked_2 (fun H locs hw => ?_)
  refine lv_aload_n hx hb dX4_marked_5 rfl (lv_at hl 0 rfl) ?_
  refine lv_iload_n hx hb dX4_marked_6 rfl (lv_at hl 1 rfl) ?_
  obtain ⟨z1, e2, h⟩ := bnd h
  refine k_X4_isMark F hw e2 ⟨Nat.le_of_ble_eq_true rfl, Nat.le_of_ble_eq_true rfl⟩ ⟨Nat.zero_le _, Nat.zero_le _⟩ hl.1 (Nat.le_of_ble_eq_true rfl) dX4_marked_7 ?_
  refine lv_if_ne (tgt := 16) hx hb dX4_marked_10 rfl (fun c3 => ?_) (fun c3 => ?_)
  · replace h := itF h c3
    refine lv_aload_n hx hb dX4_marked_16 rfl (lv_at hl 0 rfl) ?_
    refine m_g13 F hw dX4_marked_17 ?_
    refine lv_iload_n hx hb dX4_marked_20 rfl (lv_at hl 1 rfl) ?_
    obtain ⟨g4, h⟩ := gd h
    refine m_l13 F hw g4 dX4_marked_21 ?_
    refine lv_istore_n (lv' := [(2, .int ((mF u 0 0).2.1 13 (Int32.toNatClampNeg x1))), (0, .ref (ad 0)), (1, .int x1)]) hx hb dX4_marked_22 rfl hl (by decide) rfl (fun ls hl => ?_)
    refine lv_iload_n hx hb dX4_marked_23 rfl (lv_at hl 0 rfl) ?_
    refine lv_iconst (v := (-1)) hx hb dX4_marked_24 rfl ?_
    refine lv_icmp_ne (tgt := 32) hx hb dX4_marked_25 rfl (fun c5 => ?_) (fun c5 => ?_)
    · replace h := itF h c5
      refine lv_iload_n hx hb dX4_marked_32 rfl (lv_at hl 0 rfl) ?_
      refine lv_iconst (v := 2) hx hb dX4_marked_33 rfl ?_
      refine lv_irem hx hb dX4_marked_34 (by decide) ?_
      refine lv_if_ne (tgt := 44) hx hb dX4_marked_35 rfl (fun c6 => ?_) (fun c6 => ?_)
      · replace h := itF h c6
        refine lv_sipush (v := 1000) hx hb dX4_marked_44 rfl ?_
        refine lv_iload_n hx hb dX4_marked_47 rfl (lv_at hl 0 rfl) ?_
        refine lv_iconst (v := 2) hx hb dX4_marked_48 rfl ?_
        refine lv_idiv hx hb dX4_marked_49 (by decide) ?_
        refine lv_iadd hx hb dX4_marked_50 ?_
        cases h
        exact retW_i F hw dX4_marked_51
      · replace h := itT h c6
        refine lv_iload_n hx hb dX4_marked_38 rfl (lv_at hl 0 rfl) ?_
        refine lv_iconst (v := 2) hx hb dX4_marked_39 rfl ?_
        refine lv_idiv hx hb dX4_marked_40 (by decide) ?_
        refine lv_goto (tgt := 51) hx hb dX4_marked_41 rfl ?_
        cases h
        exact retW_i F hw dX4_marked_51
    · replace h := itT h c5
      refine lv_iconst (v := (-1)) hx hb dX4_marked_28 rfl ?_
      refine lv_goto (tgt := 51) hx hb dX4_marked_29 rfl ?_
      cases h
      exact retW_i F hw dX4_marked_51
  · replace h := itT h c3
    refine lv_bipush (v := (-3)) hx hb dX4_marked_13 rfl ?_
    cases h
    exact retW_i F hw dX4_marked_15
end
theorem c_X4_marked {l : Launch} {G : GX} {ad : Nat → Nat} {x1 : Int32} {u : MS} {z : Int32 × MS} (h : f_X4_marked x1 u = some z) : MW l yX4_marked cX4_marked 3 (some .int) rmX4_marked G (mw G ad u) (mw G ad z.2) [.ref (ad 0), .int x1] (some (.int z.1)) := MW.of (by decide) (Nat.le_of_ble_eq_true rfl) (fun p e s m below meth c ls F hw hl => w_X4_marked_0 F _ _ _ _ _ hw hl h)
/-! ===== X4_putAt ===== -/
theorem dX4_putAt_0 : decode cX4_putAt 0 = .ok (.aload_n 0, 1) := by decide +kernel
theorem dX4_putAt_1 : decode cX4_putAt 1 = .ok (.iconst 0, 1) := by decide +kernel
theorem dX4_putAt_2 : decode cX4_putAt 2 = .ok (.putfield 64, 3) := by decide +kernel
theorem dX4_putAt_5 : decode cX4_putAt 5 = .ok (.aload_n 0, 1) := by decide +kernel
theorem dX4_putAt_6 : decode cX4_putAt 6 = .ok (.iload_n 1, 1) := by decide +kernel
theorem dX4_putAt_7 : decode cX4_putAt 7 = .ok (.invokevirtual 226, 3) := by decide +kernel
theorem dX4_putAt_10 : decode cX4_putAt 10 = .ok (.ifCond .ne 6, 3) := by decide +kernel
theorem dX4_putAt_13 : decode cX4_putAt 13 = .ok (.bipush (-3), 2) := by decide +kernel
theorem dX4_putAt_15 : decode cX4_putAt 15 = .ok (.ireturn, 1) := by decide +kernel
theorem dX4_putAt_16 : decode cX4_putAt 16 = .ok (.aload_n 0, 1) := by decide +kernel
theorem dX4_putAt_17 : decode cX4_putAt 17 = .ok (.getfield 41, 3) := by decide +kernel
theorem dX4_putAt_20 : decode cX4_putAt 20 = .ok (.iload_n 1, 1) := by decide +kernel
theorem dX4_putAt_21 : decode cX4_putAt 21 = .ok (.iaload, 1) := by decide +kernel
theorem dX4_putAt_22 : decode cX4_putAt 22 = .ok (.istore_n 2, 1) := by decide +kernel
theorem dX4_putAt_23 : decode cX4_putAt 23 = .ok (.aload_n 0, 1) := by decide +kernel
theorem dX4_putAt_24 : decode cX4_putAt 24 = .ok (.iload_n 2, 1) := by decide +kernel
theorem dX4_putAt_25 : decode cX4_putAt 25 = .ok (.aload_n 0, 1) := by decide +kernel
theorem dX4_putAt_26 : decode cX4_putAt 26 = .ok (.getfield 44, 3) := by decide +kernel
theorem dX4_putAt_29 : decode cX4_putAt 29 = .ok (.iload_n 1, 1) := by decide +kernel
theorem dX4_putAt_30 : decode cX4_putAt 30 = .ok (.iaload, 1) := by decide +kernel
theorem dX4_putAt_31 : decode cX4_putAt 31 = .ok (.iconst (-1), 1) := by decide +kernel
theorem dX4_putAt_32 : decode cX4_putAt 32 = .ok (.if_icmp .ne 7, 3) := by decide +kernel
theorem dX4_putAt_35 : decode cX4_putAt 35 = .ok (.iconst 0, 1) := by decide +kernel
theorem dX4_putAt_36 : decode cX4_putAt 36 = .ok (.goto 16, 3) := by decide +kernel
theorem dX4_putAt_39 : decode cX4_putAt 39 = .ok (.aload_n 0, 1) := by decide +kernel
theorem dX4_putAt_40 : decode cX4_putAt 40 = .ok (.iload_n 2, 1) := by decide +kernel
theorem dX4_putAt_41 : decode cX4_putAt 41 = .ok (.aload_n 0, 1) := by decide +kernel
theorem dX4_putAt_42 : decode cX4_putAt 42 = .ok (.getfield 44, 3) := by decide +kernel
theorem dX4_putAt_45 : decode cX4_putAt 45 = .ok (.iload_n 1, 1) := by decide +kernel
theorem dX4_putAt_46 : decode cX4_putAt 46 = .ok (.iaload, 1) := by decide +kernel
theorem dX4_putAt_47 : decode cX4_putAt 47 = .ok (.invokevirtual 171, 3) := by decide +kernel
theorem dX4_putAt_50 : decode cX4_putAt 50 = .ok (.iconst 1, 1) := by decide +kernel
theorem dX4_putAt_51 : decode cX4_putAt 51 = .ok (.iadd, 1) := by decide +kernel
theorem dX4_putAt_52 : decode cX4_putAt 52 = .ok (.invokevirtual 193, 3) := by decide +kernel
theorem dX4_putAt_55 : decode cX4_putAt 55 = .ok (.ireturn, 1) := by decide +kernel
def rmX4_putAt : Room := { frames := 7, cells := 0, slots := 0, locals := 181 }
noncomputable def f_X4_putAt (x1 : Int32) (u : MS) : Option (Int32 × MS) := (f_X4_isMark x1 (mF u 0 0)).bind (fun z1 => (if z1 = 0 then some ((-3), (mF u 0 0)) else (if ix x1 20 = true then (if ix x1 20 = true then (if ((mF u 0 0).2.1 13 (Int32.toNatClampNeg x1)) = ((-1) : Int32) then (f_X4_putNew ((mF u 0 0).2.1 12 (Int32.toNatClampNeg x1)) 0 (mF u 0 0)).bind (fun z12 => some (z12.1, z12.2)) else (if ix x1 20 = true then (f_X4_placeOf ((mF u 0 0).2.1 12 (Int32.toNatClampNeg x1)) ((mF u 0 0).2.1 13 (Int32.toNatClampNeg x1)) (mF u 0 0)).bind (fun z8 => (f_X4_putNew ((mF u 0 0).2.1 12 (Int32.toNatClampNeg x1)) (z8 + 1) (mF u 0 0)).bind (fun z10 => some (z10.1, z10.2))) else none)) else none) else none)))
section
variable {p : Program} {l : Launch} {e : Env} {s : State} {m : MethodId} {args : Array Value} {below : List Frame} {meth : Method} {c : Code}
variable {G : GX} {A : Nat → Prop} {ad : Nat → Nat}
set_option maxHeartbeats 4000000 in
set_option maxRecDepth 100000 in
theorem w_X4_putAt_0 (F : FX p m c cX4_putAt 3 s args yX4_putAt (some .int) RX4 meth) {z : Int32 × MS} : ∀ (x1 : Int32) (u : MS) (H : Heap) (locs : List Loc) (ls : Array Slot), WD G A s (mw G ad u) H locs → lv_has ls 3 [(0, .ref (ad 0)), (1, .int x1)] → f_X4_putAt x1 u = some z → W p l e rmX4_putAt s m args below meth c H locs 0 0 (MQ below (QW G (mw G ad z.2) A (some (.int z.1))) args s 0 0 A) (F0 m 0 ls []) := by
  obtain ⟨⟨hx, hb, hml, hown, hts⟩, hr, hlocks⟩ := id F
  intro x1 u H locs ls hw hl h
  unfold f_X4_putAt at h
  refine lv_aload_n hx hb dX4_putAt_0 rfl (lv_at hl 0 rfl) ?_
  refine lv_iconst (v := 0) hx hb dX4_putAt_1 rfl ?_
  refine m_p0 F hw dX4_putAt_2 (fun H locs hw => ?_)
  refine lv_aload_n hx hb dX4_putAt_5 rfl (lv_at hl 0 rfl) ?_
  refine lv_iload_n hx hb dX4_putAt_6 rfl (lv_at hl 1 rfl) ?_
  obtain ⟨z1, e2, h⟩ := bnd h
  refine k_X4_isMark F hw e2 ⟨Nat.le_of_ble_eq_true rfl, Nat.le_of_ble_eq_true rfl⟩ ⟨Nat.zero_le _, Nat.zero_le _⟩ hl.1 (Nat.le_of_ble_eq_true rfl) dX4_putAt_7 ?_
  refine lv_if_ne (tgt := 16) hx hb dX4_putAt_10 rfl (fun c3 => ?_) (fun c3 => ?_)
  · replace h := itF h c3
    refine lv_aload_n hx hb dX4_putAt_16 rfl (lv_at hl 0 rfl) ?_
    refine m_g12 F hw dX4_putAt_17 ?_
    refine lv_iload_n hx hb dX4_putAt_20 rfl (lv_at hl 1 rfl) ?_
    obtain ⟨g4, h⟩ := gd h
    refine m_l12 F hw g4 dX4_putAt_21 ?_
    refine lv_istore_n (lv' := [(2, .int ((mF u 0 0).2.1 12 (Int32.toNatClampNeg x1))), (0, .ref (ad 0)), (1, .int x1)]) hx hb dX4_putAt_22 rfl hl (by decide) rfl (fun ls hl => ?_)
    refine lv_aload_n hx hb dX4_putAt_23 rfl (lv_at hl 1 rfl) ?_
    refine lv_iload_n hx hb dX4_putAt_24 rfl (lv_at hl 0 rfl) ?_
    refine lv_aload_n hx hb dX4_putAt_25 rfl (lv_at hl 1 rfl) ?_
    refine m_g13 F hw dX4_putAt_26 ?_
    refine lv_iload_n hx hb dX4_putAt_29 rfl (lv_at hl 2 rfl) ?_
    obtain ⟨g5, h⟩ := gd h
    refine m_l13 F hw g5 dX4_putAt_30 ?_
    refine lv_iconst (v := (-1)) hx hb dX4_putAt_31 rfl ?_
    refine lv_icmp_ne (tgt := 39) hx hb dX4_putAt_32 rfl (fun c6 => ?_) (fun c6 => ?_)
    · replace h := itF h c6
      refine lv_aload_n hx hb dX4_putAt_39 rfl (lv_at hl 1 rfl) ?_
      refine lv_iload_n hx hb dX4_putAt_40 rfl (lv_at hl 0 rfl) ?_
      refine lv_aload_n hx hb dX4_putAt_41 rfl (lv_at hl 1 rfl) ?_
      refine m_g13 F hw dX4_putAt_42 ?_
      refine lv_iload_n hx hb dX4_putAt_45 rfl (lv_at hl 2 rfl) ?_
      obtain ⟨g7, h⟩ := gd h
      refine m_l13 F hw g7 dX4_putAt_46 ?_
      obtain ⟨z8, e9, h⟩ := bnd h
      refine k_X4_placeOf F hw e9 ⟨Nat.le_of_ble_eq_true rfl, Nat.le_of_ble_eq_true rfl⟩ ⟨Nat.zero_le _, Nat.zero_le _⟩ hl.1 (Nat.le_of_ble_eq_true rfl) dX4_putAt_47 ?_
      refine lv_iconst (v := 1) hx hb dX4_putAt_50 rfl ?_
      refine lv_iadd hx hb dX4_putAt_51 ?_
      obtain ⟨z10, e11, h⟩ := bnd h
      refine k_X4_putNew F hw e11 ⟨Nat.le_of_ble_eq_true rfl, Nat.le_of_ble_eq_true rfl⟩ ⟨Nat.zero_le _, Nat.zero_le _⟩ hl.1 (Nat.le_of_ble_eq_true rfl) dX4_putAt_52 (fun H locs hw => ?_)
      cases h
      exact retW_i F hw dX4_putAt_55
    · replace h := itT h c6
      refine lv_iconst (v := 0) hx hb dX4_putAt_35 rfl ?_
      refine lv_goto (tgt := 52) hx hb dX4_putAt_36 rfl ?_
      obtain ⟨z12, e13, h⟩ := bnd h
      refine k_X4_putNew F hw e13 ⟨Nat.le_of_ble_eq_true rfl, Nat.le_of_ble_eq_true rfl⟩ ⟨Nat.zero_le _, Nat.zero_le _⟩ hl.1 (Nat.le_of_ble_eq_true rfl) dX4_putAt_52 (fun H locs hw => ?_)
      cases h
      exact retW_i F hw dX4_putAt_55
  · replace h := itT h c3
    refine lv_bipush (v := (-3)) hx hb dX4_putAt_13 rfl ?_
    cases h
    exact retW_i F hw dX4_putAt_15
end
theorem c_X4_putAt {l : Launch} {G : GX} {ad : Nat → Nat} {x1 : Int32} {u : MS} {z : Int32 × MS} (h : f_X4_putAt x1 u = some z) : MW l yX4_putAt cX4_putAt 3 (some .int) rmX4_putAt G (mw G ad u) (mw G ad z.2) [.ref (ad 0), .int x1] (some (.int z.1)) := MW.of (by decide) (Nat.le_of_ble_eq_true rfl) (fun p e s m below meth c ls F hw hl => w_X4_putAt_0 F _ _ _ _ _ hw hl h)
/-! ===== X4_thingsIn ===== -/
theorem dX4_thingsIn_0 : decode cX4_thingsIn 0 = .ok (.iconst 0, 1) := by decide +kernel
theorem dX4_thingsIn_1 : decode cX4_thingsIn 1 = .ok (.istore_n 2, 1) := by decide +kernel
theorem dX4_thingsIn_2 : decode cX4_thingsIn 2 = .ok (.iconst 0, 1) := by decide +kernel
theorem dX4_thingsIn_3 : decode cX4_thingsIn 3 = .ok (.istore_n 3, 1) := by decide +kernel
theorem dX4_thingsIn_4 : decode cX4_thingsIn 4 = .ok (.iload_n 3, 1) := by decide +kernel
theorem dX4_thingsIn_5 : decode cX4_thingsIn 5 = .ok (.aload_n 0, 1) := by decide +kernel
theorem dX4_thingsIn_6 : decode cX4_thingsIn 6 = .ok (.getfield 16, 3) := by decide +kernel
theorem dX4_thingsIn_9 : decode cX4_thingsIn 9 = .ok (.iload_n 1, 1) := by decide +kernel
theorem dX4_thingsIn_10 : decode cX4_thingsIn 10 = .ok (.iaload, 1) := by decide +kernel
theorem dX4_thingsIn_11 : decode cX4_thingsIn 11 = .ok (.if_icmp .ge 34, 3) := by decide +kernel
theorem dX4_thingsIn_14 : decode cX4_thingsIn 14 = .ok (.iload_n 2, 1) := by decide +kernel
theorem dX4_thingsIn_15 : decode cX4_thingsIn 15 = .ok (.aload_n 0, 1) := by decide +kernel
theorem dX4_thingsIn_16 : decode cX4_thingsIn 16 = .ok (.getfield 25, 3) := by decide +kernel
theorem dX4_thingsIn_19 : decode cX4_thingsIn 19 = .ok (.sipush 600, 3) := by decide +kernel
theorem dX4_thingsIn_22 : decode cX4_thingsIn 22 = .ok (.iload_n 1, 1) := by decide +kernel
theorem dX4_thingsIn_23 : decode cX4_thingsIn 23 = .ok (.imul, 1) := by decide +kernel
theorem dX4_thingsIn_24 : decode cX4_thingsIn 24 = .ok (.iload_n 3, 1) := by decide +kernel
theorem dX4_thingsIn_25 : decode cX4_thingsIn 25 = .ok (.iadd, 1) := by decide +kernel
theorem dX4_thingsIn_26 : decode cX4_thingsIn 26 = .ok (.iaload, 1) := by decide +kernel
theorem dX4_thingsIn_27 : decode cX4_thingsIn 27 = .ok (.iconst 2, 1) := by decide +kernel
theorem dX4_thingsIn_28 : decode cX4_thingsIn 28 = .ok (.irem, 1) := by decide +kernel
theorem dX4_thingsIn_29 : decode cX4_thingsIn 29 = .ok (.ifCond .ne 7, 3) := by decide +kernel
theorem dX4_thingsIn_32 : decode cX4_thingsIn 32 = .ok (.iconst 1, 1) := by decide +kernel
theorem dX4_thingsIn_33 : decode cX4_thingsIn 33 = .ok (.goto 4, 3) := by decide +kernel
theorem dX4_thingsIn_36 : decode cX4_thingsIn 36 = .ok (.iconst 0, 1) := by decide +kernel
theorem dX4_thingsIn_37 : decode cX4_thingsIn 37 = .ok (.iadd, 1) := by decide +kernel
theorem dX4_thingsIn_38 : decode cX4_thingsIn 38 = .ok (.istore_n 2, 1) := by decide +kernel
theorem dX4_thingsIn_39 : decode cX4_thingsIn 39 = .ok (.iinc 3 1, 3) := by decide +kernel
theorem dX4_thingsIn_42 : decode cX4_thingsIn 42 = .ok (.goto (-38), 3) := by decide +kernel
theorem dX4_thingsIn_45 : decode cX4_thingsIn 45 = .ok (.iload_n 2, 1) := by decide +kernel
theorem dX4_thingsIn_46 : decode cX4_thingsIn 46 = .ok (.ireturn, 1) := by decide +kernel
def rmX4_thingsIn : Room := { frames := 0, cells := 0, slots := 0, locals := 0 }
noncomputable def f_X4_thingsIn_4 : Nat → Int32 → Int32 → Int32 → MS → Option (Int32)
  | 0, _, _, _, _ => none
  | n + 1, x1, x2, x3, u => (if ix x1 8 = true then (if (u.2.1 4 (Int32.toNatClampNeg x1)) ≤ x3 then some x2 else (if ix ((600 * x1) + x3) 4800 = true then (if ((u.2.1 7 (Int32.toNatClampNeg ((600 * x1) + x3))) - (u.2.1 7 (Int32.toNatClampNeg ((600 * x1) + x3))) / 2 * 2) = 0 then f_X4_thingsIn_4 n x1 (x2 + 1) (x3 + 1) u else f_X4_thingsIn_4 n x1 (x2 + 0) (x3 + 1) u) else none)) else none)
noncomputable def f_X4_thingsIn (x1 : Int32) (u : MS) : Option (Int32) := f_X4_thingsIn_4 NF x1 0 0 u
section
variable {p : Program} {l : Launch} {e : Env} {s : State} {m : MethodId} {args : Array Value} {below : List Frame} {meth : Method} {c : Code}
variable {G : GX} {A : Nat → Prop} {ad : Nat → Nat}
set_option maxHeartbeats 4000000 in
set_option maxRecDepth 100000 in
theorem w_X4_thingsIn_4 (F : FX p m c cX4_thingsIn 4 s args yX4_thingsIn (some .int) RX4 meth) {z : Int32} : ∀ (n : Nat) (x1 : Int32) (x2 : Int32) (x3 : Int32) (u : MS) (ls : Array Slot), WD G A s (mw G ad u) s.heap [] → lv_has ls 4 [(0, .ref (ad 0)), (1, .int x1), (2, .int x2), (3, .int x3)] → f_X4_thingsIn_4 n x1 x2 x3 u = some z → W p l e rmX4_thingsIn s m args below meth c s.heap [] 0 0 (MQ below (QO (some (.int z))) args s 0 0 (fun _ => False)) (F0 m 4 ls []) := by
  obtain ⟨⟨hx, hb, hml, hown, hts⟩, hr, hlocks⟩ := id F
  intro n
  induction n with
  | zero =>
    intro x1 x2 x3 u ls hw hl h
    rw [f_X4_thingsIn_4] at h
    cases h
  | succ n ih =>
    intro x1 x2 x3 u ls hw hl h
    rw [f_X4_thingsIn_4] at h
    refine lv_iload_n hx hb dX4_thingsIn_4 rfl (lv_at hl 3 rfl) ?_
    refine lv_aload_n hx hb dX4_thingsIn_5 rfl (lv_at hl 0 rfl) ?_
    refine m_g4 F hw dX4_thingsIn_6 ?_
    refine lv_iload_n hx hb dX4_thingsIn_9 rfl (lv_at hl 1 rfl) ?_
    obtain ⟨g1, h⟩ := gd h
    refine m_l4 F hw g1 dX4_thingsIn_10 ?_
    refine lv_icmp_ge (tgt := 45) hx hb dX4_thingsIn_11 rfl (fun c2 => ?_) (fun c2 => ?_)
    · replace h := itT h c2
      refine lv_iload_n hx hb dX4_thingsIn_45 rfl (lv_at hl 2 rfl) ?_
      cases h
      exact retO_i F dX4_thingsIn_46
    · replace h := itF h c2
      refine lv_iload_n hx hb dX4_thingsIn_14 rfl (lv_at hl 2 rfl) ?_
      refine lv_aload_n hx hb dX4_thingsIn_15 rfl (lv_at hl 0 rfl) ?_
      refine m_g7 F hw dX4_thingsIn_16 ?_
      refine lv_sipush (v := 600) hx hb dX4_thingsIn_19 rfl ?_
      refine lv_iload_n hx hb dX4_thingsIn_22 rfl (lv_at hl 1 rfl) ?_
      refine lv_imul hx hb dX4_thingsIn_23 ?_
      refine lv_iload_n hx hb dX4_thingsIn_24 rfl (lv_at hl 3 rfl) ?_
      refine lv_iadd hx hb dX4_thingsIn_25 ?_
      obtain ⟨g3, h⟩ := gd h
      refine m_l7 F hw g3 dX4_thingsIn_26 ?_
      refine lv_iconst (v := 2) hx hb dX4_thingsIn_27 rfl ?_
      refine lv_irem hx hb dX4_thingsIn_28 (by decide) ?_
      refine lv_if_ne (tgt := 36) hx hb dX4_thingsIn_29 rfl (fun c4 => ?_) (fun c4 => ?_)
      · replace h := itF h c4
        refine lv_iconst (v := 0) hx hb dX4_thingsIn_36 rfl ?_
        refine lv_iadd hx hb dX4_thingsIn_37 ?_
        refine lv_istore_n (lv' := [(2, .int (x2 + 0)), (0, .ref (ad 0)), (1, .int x1), (3, .int x3)]) hx hb dX4_thingsIn_38 rfl hl (by decide) rfl (fun ls hl => ?_)
        refine lv_iinc (v := (x3 + 1)) (lv' := [(3, .int (x3 + 1)), (2, .int (x2 + 0)), (0, .ref (ad 0)), (1, .int x1)]) hx hb dX4_thingsIn_39 hl (k := 3) rfl rfl (by decide) rfl (fun ls hl => ?_)
        refine lv_goto (tgt := 4) hx hb dX4_thingsIn_42 rfl ?_
        exact ih _ _ _ _ _ hw (lv_sub hl [2, 3, 1, 0] rfl) h
      · replace h := itT h c4
        refine lv_iconst (v := 1) hx hb dX4_thingsIn_32 rfl ?_
        refine lv_goto (tgt := 37) hx hb dX4_thingsIn_33 rfl ?_
        refine lv_iadd hx hb dX4_thingsIn_37 ?_
        refine lv_istore_n (lv' := [(2, .int (x2 + 1)), (0, .ref (ad 0)), (1, .int x1), (3, .int x3)]) hx hb dX4_thingsIn_38 rfl hl (by decide) rfl (fun ls hl => ?_)
        refine lv_iinc (v := (x3 + 1)) (lv' := [(3, .int (x3 + 1)), (2, .int (x2 + 1)), (0, .ref (ad 0)), (1, .int x1)]) hx hb dX4_thingsIn_39 hl (k := 3) rfl rfl (by decide) rfl (fun ls hl => ?_)
        refine lv_goto (tgt := 4) hx hb dX4_thingsIn_42 rfl ?_
        exact ih _ _ _ _ _ hw (lv_sub hl [2, 3, 1, 0] rfl) h
set_option maxHeartbeats 4000000 in
set_option maxRecDepth 100000 in
theorem w_X4_thingsIn_0 (F : FX p m c cX4_thingsIn 4 s args yX4_thingsIn (some .int) RX4 meth) {z : Int32} : ∀ (x1 : Int32) (u : MS) (ls : Array Slot), WD G A s (mw G ad u) s.heap [] → lv_has ls 4 [(0, .ref (ad 0)), (1, .int x1)] → f_X4_thingsIn x1 u = some z → W p l e rmX4_thingsIn s m args below meth c s.heap [] 0 0 (MQ below (QO (some (.int z))) args s 0 0 (fun _ => False)) (F0 m 0 ls []) := by
  obtain ⟨⟨hx, hb, hml, hown, hts⟩, hr, hlocks⟩ := id F
  intro x1 u ls hw hl h
  unfold f_X4_thingsIn at h
  refine lv_iconst (v := 0) hx hb dX4_thingsIn_0 rfl ?_
  refine lv_istore_n (lv' := [(2, .int 0), (0, .ref (ad 0)), (1, .int x1)]) hx hb dX4_thingsIn_1 rfl hl (by decide) rfl (fun ls hl => ?_)
  refine lv_iconst (v := 0) hx hb dX4_thingsIn_2 rfl ?_
  refine lv_istore_n (lv' := [(3, .int 0), (2, .int 0), (0, .ref (ad 0)), (1, .int x1)]) hx hb dX4_thingsIn_3 rfl hl (by decide) rfl (fun ls hl => ?_)
  exact w_X4_thingsIn_4 F NF _ _ _ _ _ hw (lv_sub hl [2, 3, 1, 0] rfl) h
end
theorem c_X4_thingsIn {l : Launch} {G : GX} {ad : Nat → Nat} {x1 : Int32} {u : MS} {z : Int32} (h : f_X4_thingsIn x1 u = some z) : MO l yX4_thingsIn cX4_thingsIn 4 (some .int) rmX4_thingsIn G (mw G ad u) [.ref (ad 0), .int x1] (some (.int z)) := MO.of (by decide) (Nat.le_of_ble_eq_true rfl) (fun p e s m below meth c ls F hw hl => w_X4_thingsIn_0 F _ _ _ hw hl h)
theorem yv_X4_thingsIn : YV RX4 229 yX4_thingsIn cX4_thingsIn 4 (some .int) 1 := ⟨(tw 841 (by decide +kernel) rfl), (tw 6 (by decide +kernel) rfl), (tw 838 (by decide +kernel) rfl), (tw 840 (by decide +kernel) rfl), (tp 49 (by decide +kernel) rfl), by decide +kernel⟩
theorem k_X4_thingsIn {p : Program} {l : Launch} {e : Env} {R : Room} {s : State} {m : MethodId} {args : Array Value} {below : List Frame} {meth : Method} {c : Code} {H : Heap} {locs : List Loc} {cells slots : Nat} {Q : State → Prop} {G : GX} {A : Nat → Prop} {ad : Nat → Nat} {cc : ByteArray} {nL pc : Nat} {y0 : MethodName} {ret0 : Option FieldType} {ls : Array Slot} {rest : List Value} {u : MS} {x1 : Int32} {z : Int32} (F : FX p m c cc nL s args y0 ret0 RX4 meth) (hw : WD G A s (mw G ad u) H locs) (h : f_X4_thingsIn x1 u = some z) (hR : rmX4_thingsIn.frames + 1 ≤ R.frames ∧ 8 + (4 + 11) + rmX4_thingsIn.locals ≤ R.locals) (hcs : cells ≤ R.cells ∧ slots ≤ R.slots) (hsz : ls.size = nL) (hW : (rest.map fun v => v.category).sum ≤ 8) (hdg : decode cc pc = .ok (.invokevirtual 229, 3)) (kk : W p l e R s m args below meth c H locs cells slots Q (F0 m (pc + 3) ls (.int z :: rest))) : W p l e R s m args below meth c H locs cells slots Q (F0 m pc ls (.int x1 :: .ref (ad 0) :: rest)) := callO (runV F yv_X4_thingsIn (c_X4_thingsIn h) hw.1 hw.2.1 hw.2.2.1 rfl rfl rfl ⟨rfl, rfl⟩ hR hcs rfl hsz rfl hW hdg) kk
/-! ===== X4_about ===== -/
theorem dX4_about_0 : decode cX4_about 0 = .ok (.aload_n 0, 1) := by decide +kernel
theorem dX4_about_1 : decode cX4_about 1 = .ok (.iconst 0, 1) := by decide +kernel
theorem dX4_about_2 : decode cX4_about 2 = .ok (.putfield 64, 3) := by decide +kernel
theorem dX4_about_5 : decode cX4_about 5 = .ok (.aload_n 0, 1) := by decide +kernel
theorem dX4_about_6 : decode cX4_about 6 = .ok (.iload_n 1, 1) := by decide +kernel
theorem dX4_about_7 : decode cX4_about 7 = .ok (.invokevirtual 186, 3) := by decide +kernel
theorem dX4_about_10 : decode cX4_about 10 = .ok (.ifCond .ne 6, 3) := by decide +kernel
theorem dX4_about_13 : decode cX4_about 13 = .ok (.bipush (-3), 2) := by decide +kernel
theorem dX4_about_15 : decode cX4_about 15 = .ok (.ireturn, 1) := by decide +kernel
theorem dX4_about_16 : decode cX4_about 16 = .ok (.iload_n 2, 1) := by decide +kernel
theorem dX4_about_17 : decode cX4_about 17 = .ok (.tableswitch 81 0 4 #[35, 42, 49, 55, 74], 35) := by decide +kernel
theorem dX4_about_52 : decode cX4_about 52 = .ok (.aload_n 0, 1) := by decide +kernel
theorem dX4_about_53 : decode cX4_about 53 = .ok (.getfield 7, 3) := by decide +kernel
theorem dX4_about_56 : decode cX4_about 56 = .ok (.iload_n 1, 1) := by decide +kernel
theorem dX4_about_57 : decode cX4_about 57 = .ok (.iaload, 1) := by decide +kernel
theorem dX4_about_58 : decode cX4_about 58 = .ok (.ireturn, 1) := by decide +kernel
theorem dX4_about_59 : decode cX4_about 59 = .ok (.aload_n 0, 1) := by decide +kernel
theorem dX4_about_60 : decode cX4_about 60 = .ok (.getfield 13, 3) := by decide +kernel
theorem dX4_about_63 : decode cX4_about 63 = .ok (.iload_n 1, 1) := by decide +kernel
theorem dX4_about_64 : decode cX4_about 64 = .ok (.iaload, 1) := by decide +kernel
theorem dX4_about_65 : decode cX4_about 65 = .ok (.ireturn, 1) := by decide +kernel
theorem dX4_about_66 : decode cX4_about 66 = .ok (.aload_n 0, 1) := by decide +kernel
theorem dX4_about_67 : decode cX4_about 67 = .ok (.iload_n 1, 1) := by decide +kernel
theorem dX4_about_68 : decode cX4_about 68 = .ok (.invokevirtual 229, 3) := by decide +kernel
theorem dX4_about_71 : decode cX4_about 71 = .ok (.ireturn, 1) := by decide +kernel
theorem dX4_about_72 : decode cX4_about 72 = .ok (.aload_n 0, 1) := by decide +kernel
theorem dX4_about_73 : decode cX4_about 73 = .ok (.iload_n 1, 1) := by decide +kernel
theorem dX4_about_74 : decode cX4_about 74 = .ok (.invokevirtual 161, 3) := by decide +kernel
theorem dX4_about_77 : decode cX4_about 77 = .ok (.ifCond .eq 12, 3) := by decide +kernel
theorem dX4_about_80 : decode cX4_about 80 = .ok (.aload_n 0, 1) := by decide +kernel
theorem dX4_about_81 : decode cX4_about 81 = .ok (.getfield 22, 3) := by decide +kernel
theorem dX4_about_84 : decode cX4_about 84 = .ok (.iload_n 1, 1) := by decide +kernel
theorem dX4_about_85 : decode cX4_about 85 = .ok (.iaload, 1) := by decide +kernel
theorem dX4_about_86 : decode cX4_about 86 = .ok (.goto 4, 3) := by decide +kernel
theorem dX4_about_89 : decode cX4_about 89 = .ok (.iconst 0, 1) := by decide +kernel
theorem dX4_about_90 : decode cX4_about 90 = .ok (.ireturn, 1) := by decide +kernel
theorem dX4_about_91 : decode cX4_about 91 = .ok (.aload_n 0, 1) := by decide +kernel
theorem dX4_about_92 : decode cX4_about 92 = .ok (.getfield 19, 3) := by decide +kernel
theorem dX4_about_95 : decode cX4_about 95 = .ok (.iload_n 1, 1) := by decide +kernel
theorem dX4_about_96 : decode cX4_about 96 = .ok (.iaload, 1) := by decide +kernel
theorem dX4_about_97 : decode cX4_about 97 = .ok (.ireturn, 1) := by decide +kernel
theorem dX4_about_98 : decode cX4_about 98 = .ok (.bipush (-3), 2) := by decide +kernel
theorem dX4_about_100 : decode cX4_about 100 = .ok (.ireturn, 1) := by decide +kernel
def rmX4_about : Room := { frames := 2, cells := 0, slots := 0, locals := 43 }
noncomputable def f_X4_about (x1 : Int32) (x2 : Int32) (u : MS) : Option (Int32 × MS) := (f_X4_isRow x1 (mF u 0 0)).bind (fun z1 => (if z1 = 0 then some ((-3), (mF u 0 0)) else (if x2 = 0 then (if ix x1 8 = true then some (((mF u 0 0).2.1 2 (Int32.toNatClampNeg x1)), (mF u 0 0)) else none) else (if x2 = 1 then (if ix x1 8 = true then some (((mF u 0 0).2.1 3 (Int32.toNatClampNeg x1)), (mF u 0 0)) else none) else (if x2 = 2 then (f_X4_thingsIn x1 (mF u 0 0)).bind (fun z9 => some (z9, (mF u 0 0))) else (if x2 = 3 then (f_X4_hasBlocks x1 (mF u 0 0)).bind (fun z12 => (if z12 = 0 then some (0, (mF u 0 0)) else (if ix x1 8 = true then some (((mF u 0 0).2.1 6 (Int32.toNatClampNeg x1)), (mF u 0 0)) else none))) else (if x2 = 4 then (if ix x1 8 = true then some (((mF u 0 0).2.1 5 (Int32.toNatClampNeg x1)), (mF u 0 0)) else none) else some ((-3), (mF u 0 0)))))))))
section
variable {p : Program} {l : Launch} {e : Env} {s : State} {m : MethodId} {args : Array Value} {below : List Frame} {meth : Method} {c : Code}
variable {G : GX} {A : Nat → Prop} {ad : Nat → Nat}
set_option maxHeartbeats 4000000 in
set_option maxRecDepth 100000 in
theorem w_X4_about_0 (F : FX p m c cX4_about 3 s args yX4_about (some .int) RX4 meth) {z : Int32 × MS} : ∀ (x1 : Int32) (x2 : Int32) (u : MS) (H : Heap) (locs : List Loc) (ls : Array Slot), WD G A s (mw G ad u) H locs → lv_has ls 3 [(0, .ref (ad 0)), (1, .int x1), (2, .int x2)] → f_X4_about x1 x2 u = some z → W p l e rmX4_about s m args below meth c H locs 0 0 (MQ below (QW G (mw G ad z.2) A (some (.int z.1))) args s 0 0 A) (F0 m 0 ls []) := by
  obtain ⟨⟨hx, hb, hml, hown, hts⟩, hr, hlocks⟩ := id F
  intro x1 x2 u H locs ls hw hl h
  unfold f_X4_about at h
  refine lv_aload_n hx hb dX4_about_0 rfl (lv_at hl 0 rfl) ?_
  refine lv_iconst (v := 0) hx hb dX4_about_1 rfl ?_
  refine m_p0 F hw dX4_about_2 (fun H locs hw => ?_)
  refine lv_aload_n hx hb dX4_about_5 rfl (lv_at hl 0 rfl) ?_
  refine lv_iload_n hx hb dX4_about_6 rfl (lv_at hl 1 rfl) ?_
  obtain ⟨z1, e2, h⟩ := bnd h
  refine k_X4_isRow F hw e2 ⟨Nat.le_of_ble_eq_true rfl, Nat.le_of_ble_eq_true rfl⟩ ⟨Nat.zero_le _, Nat.zero_le _⟩ hl.1 (Nat.le_of_ble_eq_true rfl) dX4_about_7 ?_
  refine lv_if_ne (tgt := 16) hx hb dX4_about_10 rfl (fun c3 => ?_) (fun c3 => ?_)
  · replace h := itF h c3
    refine lv_iload_n hx hb dX4_about_16 rfl (lv_at hl 2 rfl) ?_
    by_cases c4 : x2 = 0
    · replace h := itT h c4
      refine lv_tableIn (tgt := 52) hx hb dX4_about_17 (by rw [c4]; decide) (by rw [c4]; decide) (by rw [c4]; rfl) rfl ?_
      refine lv_aload_n hx hb dX4_about_52 rfl (lv_at hl 0 rfl) ?_
      refine m_g2 F hw dX4_about_53 ?_
      refine lv_iload_n hx hb dX4_about_56 rfl (lv_at hl 1 rfl) ?_
      obtain ⟨g5, h⟩ := gd h
      refine m_l2 F hw g5 dX4_about_57 ?_
      cases h
      exact retW_i F hw dX4_about_58
    replace h := itF h c4
    by_cases c6 : x2 = 1
    · replace h := itT h c6
      refine lv_tableIn (tgt := 59) hx hb dX4_about_17 (by rw [c6]; decide) (by rw [c6]; decide) (by rw [c6]; rfl) rfl ?_
      refine lv_aload_n hx hb dX4_about_59 rfl (lv_at hl 0 rfl) ?_
      refine m_g3 F hw dX4_about_60 ?_
      refine lv_iload_n hx hb dX4_about_63 rfl (lv_at hl 1 rfl) ?_
      obtain ⟨g7, h⟩ := gd h
      refine m_l3 F hw g7 dX4_about_64 ?_
      cases h
      exact retW_i F hw dX4_about_65
    replace h := itF h c6
    by_cases c8 : x2 = 2
    · replace h := itT h c8
      refine lv_tableIn (tgt := 66) hx hb dX4_about_17 (by rw [c8]; decide) (by rw [c8]; decide) (by rw [c8]; rfl) rfl ?_
      refine lv_aload_n hx hb dX4_about_66 rfl (lv_at hl 0 rfl) ?_
      refine lv_iload_n hx hb dX4_about_67 rfl (lv_at hl 1 rfl) ?_
      obtain ⟨z9, e10, h⟩ := bnd h
      refine k_X4_thingsIn F hw e10 ⟨Nat.le_of_ble_eq_true rfl, Nat.le_of_ble_eq_true rfl⟩ ⟨Nat.zero_le _, Nat.zero_le _⟩ hl.1 (Nat.le_of_ble_eq_true rfl) dX4_about_68 ?_
      cases h
      exact retW_i F hw dX4_about_71
    replace h := itF h c8
    by_cases c11 : x2 = 3
    · replace h := itT h c11
      refine lv_tableIn (tgt := 72) hx hb dX4_about_17 (by rw [c11]; decide) (by rw [c11]; decide) (by rw [c11]; rfl) rfl ?_
      refine lv_aload_n hx hb dX4_about_72 rfl (lv_at hl 0 rfl) ?_
      refine lv_iload_n hx hb dX4_about_73 rfl (lv_at hl 1 rfl) ?_
      obtain ⟨z12, e13, h⟩ := bnd h
      refine k_X4_hasBlocks F hw e13 ⟨Nat.le_of_ble_eq_true rfl, Nat.le_of_ble_eq_true rfl⟩ ⟨Nat.zero_le _, Nat.zero_le _⟩ hl.1 (Nat.le_of_ble_eq_true rfl) dX4_about_74 ?_
      refine lv_if_eq (tgt := 89) hx hb dX4_about_77 rfl (fun c14 => ?_) (fun c14 => ?_)
      · replace h := itT h c14
        refine lv_iconst (v := 0) hx hb dX4_about_89 rfl ?_
        cases h
        exact retW_i F hw dX4_about_90
      · replace h := itF h c14
        refine lv_aload_n hx hb dX4_about_80 rfl (lv_at hl 0 rfl) ?_
        refine m_g6 F hw dX4_about_81 ?_
        refine lv_iload_n hx hb dX4_about_84 rfl (lv_at hl 1 rfl) ?_
        obtain ⟨g15, h⟩ := gd h
        refine m_l6 F hw g15 dX4_about_85 ?_
        refine lv_goto (tgt := 90) hx hb dX4_about_86 rfl ?_
        cases h
        exact retW_i F hw dX4_about_90
    replace h := itF h c11
    by_cases c16 : x2 = 4
    · replace h := itT h c16
      refine lv_tableIn (tgt := 91) hx hb dX4_about_17 (by rw [c16]; decide) (by rw [c16]; decide) (by rw [c16]; rfl) rfl ?_
      refine lv_aload_n hx hb dX4_about_91 rfl (lv_at hl 0 rfl) ?_
      refine m_g5 F hw dX4_about_92 ?_
      refine lv_iload_n hx hb dX4_about_95 rfl (lv_at hl 1 rfl) ?_
      obtain ⟨g17, h⟩ := gd h
      refine m_l5 F hw g17 dX4_about_96 ?_
      cases h
      exact retW_i F hw dX4_about_97
    replace h := itF h c16
    refine lv_tableOut (tgt := 98) hx hb dX4_about_17 (by have q0 : (x2).toInt ≠ 0 := fun z => c4 (Int32.toInt_inj.mp (z.trans rfl)); have q1 : (x2).toInt ≠ 1 := fun z => c6 (Int32.toInt_inj.mp (z.trans rfl)); have q2 : (x2).toInt ≠ 2 := fun z => c8 (Int32.toInt_inj.mp (z.trans rfl)); have q3 : (x2).toInt ≠ 3 := fun z => c11 (Int32.toInt_inj.mp (z.trans rfl)); have q4 : (x2).toInt ≠ 4 := fun z => c16 (Int32.toInt_inj.mp (z.trans rfl)); omega) rfl ?_
    refine lv_bipush (v := (-3)) hx hb dX4_about_98 rfl ?_
    cases h
    exact retW_i F hw dX4_about_100
  · replace h := itT h c3
    refine lv_bipush (v := (-3)) hx hb dX4_about_13 rfl ?_
    cases h
    exact retW_i F hw dX4_about_15
end
theorem c_X4_about {l : Launch} {G : GX} {ad : Nat → Nat} {x1 : Int32} {x2 : Int32} {u : MS} {z : Int32 × MS} (h : f_X4_about x1 x2 u = some z) : MW l yX4_about cX4_about 3 (some .int) rmX4_about G (mw G ad u) (mw G ad z.2) [.ref (ad 0), .int x1, .int x2] (some (.int z.1)) := MW.of (by decide) (Nat.le_of_ble_eq_true rfl) (fun p e s m below meth c ls F hw hl => w_X4_about_0 F _ _ _ _ _ _ hw hl h)
/-! ===== X4_isOf ===== -/
theorem dX4_isOf_0 : decode cX4_isOf 0 = .ok (.aload_n 0, 1) := by decide +kernel
theorem dX4_isOf_1 : decode cX4_isOf 1 = .ok (.iconst 0, 1) := by decide +kernel
theorem dX4_isOf_2 : decode cX4_isOf 2 = .ok (.putfield 64, 3) := by decide +kernel
theorem dX4_isOf_5 : decode cX4_isOf 5 = .ok (.aload_n 0, 1) := by decide +kernel
theorem dX4_isOf_6 : decode cX4_isOf 6 = .ok (.iload_n 1, 1) := by decide +kernel
theorem dX4_isOf_7 : decode cX4_isOf 7 = .ok (.invokevirtual 186, 3) := by decide +kernel
theorem dX4_isOf_10 : decode cX4_isOf 10 = .ok (.ifCond .eq 12, 3) := by decide +kernel
theorem dX4_isOf_13 : decode cX4_isOf 13 = .ok (.iload_n 2, 1) := by decide +kernel
theorem dX4_isOf_14 : decode cX4_isOf 14 = .ok (.iconst 0, 1) := by decide +kernel
theorem dX4_isOf_15 : decode cX4_isOf 15 = .ok (.iconst 3, 1) := by decide +kernel
theorem dX4_isOf_16 : decode cX4_isOf 16 = .ok (.invokestatic 93, 3) := by decide +kernel
theorem dX4_isOf_19 : decode cX4_isOf 19 = .ok (.ifCond .ne 6, 3) := by decide +kernel
theorem dX4_isOf_22 : decode cX4_isOf 22 = .ok (.bipush (-3), 2) := by decide +kernel
theorem dX4_isOf_24 : decode cX4_isOf 24 = .ok (.ireturn, 1) := by decide +kernel
theorem dX4_isOf_25 : decode cX4_isOf 25 = .ok (.aload_n 0, 1) := by decide +kernel
theorem dX4_isOf_26 : decode cX4_isOf 26 = .ok (.getfield 7, 3) := by decide +kernel
theorem dX4_isOf_29 : decode cX4_isOf 29 = .ok (.iload_n 1, 1) := by decide +kernel
theorem dX4_isOf_30 : decode cX4_isOf 30 = .ok (.iaload, 1) := by decide +kernel
theorem dX4_isOf_31 : decode cX4_isOf 31 = .ok (.iload_n 2, 1) := by decide +kernel
theorem dX4_isOf_32 : decode cX4_isOf 32 = .ok (.if_icmp .lt 7, 3) := by decide +kernel
theorem dX4_isOf_35 : decode cX4_isOf 35 = .ok (.iconst 1, 1) := by decide +kernel
theorem dX4_isOf_36 : decode cX4_isOf 36 = .ok (.goto 4, 3) := by decide +kernel
theorem dX4_isOf_39 : decode cX4_isOf 39 = .ok (.iconst 0, 1) := by decide +kernel
theorem dX4_isOf_40 : decode cX4_isOf 40 = .ok (.ireturn, 1) := by decide +kernel
def rmX4_isOf : Room := { frames := 2, cells := 0, slots := 0, locals := 43 }
noncomputable def f_X4_isOf (x1 : Int32) (x2 : Int32) (u : MS) : Option (Int32 × MS) := (f_X4_isRow x1 (mF u 0 0)).bind (fun z1 => (if z1 = 0 then some ((-3), (mF u 0 0)) else (f_X4_in x2 0 3).bind (fun z4 => (if z4 = 0 then some ((-3), (mF u 0 0)) else (if ix x1 8 = true then (if ((mF u 0 0).2.1 2 (Int32.toNatClampNeg x1)) < x2 then some (0, (mF u 0 0)) else some (1, (mF u 0 0))) else none)))))
section
variable {p : Program} {l : Launch} {e : Env} {s : State} {m : MethodId} {args : Array Value} {below : List Frame} {meth : Method} {c : Code}
variable {G : GX} {A : Nat → Prop} {ad : Nat → Nat}
set_option maxHeartbeats 4000000 in
set_option maxRecDepth 100000 in
theorem w_X4_isOf_0 (F : FX p m c cX4_isOf 3 s args yX4_isOf (some .int) RX4 meth) {z : Int32 × MS} : ∀ (x1 : Int32) (x2 : Int32) (u : MS) (H : Heap) (locs : List Loc) (ls : Array Slot), WD G A s (mw G ad u) H locs → lv_has ls 3 [(0, .ref (ad 0)), (1, .int x1), (2, .int x2)] → f_X4_isOf x1 x2 u = some z → W p l e rmX4_isOf s m args below meth c H locs 0 0 (MQ below (QW G (mw G ad z.2) A (some (.int z.1))) args s 0 0 A) (F0 m 0 ls []) := by
  obtain ⟨⟨hx, hb, hml, hown, hts⟩, hr, hlocks⟩ := id F
  intro x1 x2 u H locs ls hw hl h
  unfold f_X4_isOf at h
  refine lv_aload_n hx hb dX4_isOf_0 rfl (lv_at hl 0 rfl) ?_
  refine lv_iconst (v := 0) hx hb dX4_isOf_1 rfl ?_
  refine m_p0 F hw dX4_isOf_2 (fun H locs hw => ?_)
  refine lv_aload_n hx hb dX4_isOf_5 rfl (lv_at hl 0 rfl) ?_
  refine lv_iload_n hx hb dX4_isOf_6 rfl (lv_at hl 1 rfl) ?_
  obtain ⟨z1, e2, h⟩ := bnd h
  refine k_X4_isRow F hw e2 ⟨Nat.le_of_ble_eq_true rfl, Nat.le_of_ble_eq_true rfl⟩ ⟨Nat.zero_le _, Nat.zero_le _⟩ hl.1 (Nat.le_of_ble_eq_true rfl) dX4_isOf_7 ?_
  refine lv_if_eq (tgt := 22) hx hb dX4_isOf_10 rfl (fun c3 => ?_) (fun c3 => ?_)
  · replace h := itT h c3
    refine lv_bipush (v := (-3)) hx hb dX4_isOf_22 rfl ?_
    cases h
    exact retW_i F hw dX4_isOf_24
  · replace h := itF h c3
    refine lv_iload_n hx hb dX4_isOf_13 rfl (lv_at hl 2 rfl) ?_
    refine lv_iconst (v := 0) hx hb dX4_isOf_14 rfl ?_
    refine lv_iconst (v := 3) hx hb dX4_isOf_15 rfl ?_
    obtain ⟨z4, e5, h⟩ := bnd h
    refine k_X4_in F hw e5 ⟨Nat.le_of_ble_eq_true rfl, Nat.le_of_ble_eq_true rfl⟩ ⟨Nat.zero_le _, Nat.zero_le _⟩ hl.1 (Nat.le_of_ble_eq_true rfl) dX4_isOf_16 ?_
    refine lv_if_ne (tgt := 25) hx hb dX4_isOf_19 rfl (fun c6 => ?_) (fun c6 => ?_)
    · replace h := itF h c6
      refine lv_aload_n hx hb dX4_isOf_25 rfl (lv_at hl 0 rfl) ?_
      refine m_g2 F hw dX4_isOf_26 ?_
      refine lv_iload_n hx hb dX4_isOf_29 rfl (lv_at hl 1 rfl) ?_
      obtain ⟨g7, h⟩ := gd h
      refine m_l2 F hw g7 dX4_isOf_30 ?_
      refine lv_iload_n hx hb dX4_isOf_31 rfl (lv_at hl 2 rfl) ?_
      refine lv_icmp_lt (tgt := 39) hx hb dX4_isOf_32 rfl (fun c8 => ?_) (fun c8 => ?_)
      · replace h := itT h c8
        refine lv_iconst (v := 0) hx hb dX4_isOf_39 rfl ?_
        cases h
        exact retW_i F hw dX4_isOf_40
      · replace h := itF h c8
        refine lv_iconst (v := 1) hx hb dX4_isOf_35 rfl ?_
        refine lv_goto (tgt := 40) hx hb dX4_isOf_36 rfl ?_
        cases h
        exact retW_i F hw dX4_isOf_40
    · replace h := itT h c6
      refine lv_bipush (v := (-3)) hx hb dX4_isOf_22 rfl ?_
      cases h
      exact retW_i F hw dX4_isOf_24
end
theorem c_X4_isOf {l : Launch} {G : GX} {ad : Nat → Nat} {x1 : Int32} {x2 : Int32} {u : MS} {z : Int32 × MS} (h : f_X4_isOf x1 x2 u = some z) : MW l yX4_isOf cX4_isOf 3 (some .int) rmX4_isOf G (mw G ad u) (mw G ad z.2) [.ref (ad 0), .int x1, .int x2] (some (.int z.1)) := MW.of (by decide) (Nat.le_of_ble_eq_true rfl) (fun p e s m below meth c ls F hw hl => w_X4_isOf_0 F _ _ _ _ _ _ hw hl h)
/-! ===== X4_count ===== -/
theorem dX4_count_0 : decode cX4_count 0 = .ok (.aload_n 0, 1) := by decide +kernel
theorem dX4_count_1 : decode cX4_count 1 = .ok (.iconst 0, 1) := by decide +kernel
theorem dX4_count_2 : decode cX4_count 2 = .ok (.putfield 64, 3) := by decide +kernel
theorem dX4_count_5 : decode cX4_count 5 = .ok (.iconst 0, 1) := by decide +kernel
theorem dX4_count_6 : decode cX4_count 6 = .ok (.istore_n 2, 1) := by decide +kernel
theorem dX4_count_7 : decode cX4_count 7 = .ok (.iload_n 1, 1) := by decide +kernel
theorem dX4_count_8 : decode cX4_count 8 = .ok (.tableswitch 161 0 5 #[40, 78, 83, 88, 93, 127], 40) := by decide +kernel
theorem dX4_count_48 : decode cX4_count 48 = .ok (.iconst 0, 1) := by decide +kernel
theorem dX4_count_49 : decode cX4_count 49 = .ok (.istore_n 3, 1) := by decide +kernel
theorem dX4_count_50 : decode cX4_count 50 = .ok (.iload_n 3, 1) := by decide +kernel
theorem dX4_count_51 : decode cX4_count 51 = .ok (.bipush 8, 2) := by decide +kernel
theorem dX4_count_53 : decode cX4_count 53 = .ok (.if_icmp .ge 31, 3) := by decide +kernel
theorem dX4_count_56 : decode cX4_count 56 = .ok (.iload_n 2, 1) := by decide +kernel
theorem dX4_count_57 : decode cX4_count 57 = .ok (.aload_n 0, 1) := by decide +kernel
theorem dX4_count_58 : decode cX4_count 58 = .ok (.getfield 7, 3) := by decide +kernel
theorem dX4_count_61 : decode cX4_count 61 = .ok (.iload_n 3, 1) := by decide +kernel
theorem dX4_count_62 : decode cX4_count 62 = .ok (.iaload, 1) := by decide +kernel
theorem dX4_count_63 : decode cX4_count 63 = .ok (.iconst (-1), 1) := by decide +kernel
theorem dX4_count_64 : decode cX4_count 64 = .ok (.if_icmp .ne 7, 3) := by decide +kernel
theorem dX4_count_67 : decode cX4_count 67 = .ok (.iconst 0, 1) := by decide +kernel
theorem dX4_count_68 : decode cX4_count 68 = .ok (.goto 8, 3) := by decide +kernel
theorem dX4_count_71 : decode cX4_count 71 = .ok (.aload_n 0, 1) := by decide +kernel
theorem dX4_count_72 : decode cX4_count 72 = .ok (.iload_n 3, 1) := by decide +kernel
theorem dX4_count_73 : decode cX4_count 73 = .ok (.invokevirtual 229, 3) := by decide +kernel
theorem dX4_count_76 : decode cX4_count 76 = .ok (.iadd, 1) := by decide +kernel
theorem dX4_count_77 : decode cX4_count 77 = .ok (.istore_n 2, 1) := by decide +kernel
theorem dX4_count_78 : decode cX4_count 78 = .ok (.iinc 3 1, 3) := by decide +kernel
theorem dX4_count_81 : decode cX4_count 81 = .ok (.goto (-31), 3) := by decide +kernel
theorem dX4_count_84 : decode cX4_count 84 = .ok (.iload_n 2, 1) := by decide +kernel
theorem dX4_count_85 : decode cX4_count 85 = .ok (.ireturn, 1) := by decide +kernel
theorem dX4_count_86 : decode cX4_count 86 = .ok (.aload_n 0, 1) := by decide +kernel
theorem dX4_count_87 : decode cX4_count 87 = .ok (.getfield 97, 3) := by decide +kernel
theorem dX4_count_90 : decode cX4_count 90 = .ok (.ireturn, 1) := by decide +kernel
theorem dX4_count_91 : decode cX4_count 91 = .ok (.aload_n 0, 1) := by decide +kernel
theorem dX4_count_92 : decode cX4_count 92 = .ok (.getfield 75, 3) := by decide +kernel
theorem dX4_count_95 : decode cX4_count 95 = .ok (.ireturn, 1) := by decide +kernel
theorem dX4_count_96 : decode cX4_count 96 = .ok (.aload_n 0, 1) := by decide +kernel
theorem dX4_count_97 : decode cX4_count 97 = .ok (.getfield 86, 3) := by decide +kernel
theorem dX4_count_100 : decode cX4_count 100 = .ok (.ireturn, 1) := by decide +kernel
theorem dX4_count_101 : decode cX4_count 101 = .ok (.iconst 0, 1) := by decide +kernel
theorem dX4_count_102 : decode cX4_count 102 = .ok (.istore_n 3, 1) := by decide +kernel
theorem dX4_count_103 : decode cX4_count 103 = .ok (.iload_n 3, 1) := by decide +kernel
theorem dX4_count_104 : decode cX4_count 104 = .ok (.bipush 20, 2) := by decide +kernel
theorem dX4_count_106 : decode cX4_count 106 = .ok (.if_icmp .ge 27, 3) := by decide +kernel
theorem dX4_count_109 : decode cX4_count 109 = .ok (.iload_n 2, 1) := by decide +kernel
theorem dX4_count_110 : decode cX4_count 110 = .ok (.aload_n 0, 1) := by decide +kernel
theorem dX4_count_111 : decode cX4_count 111 = .ok (.getfield 41, 3) := by decide +kernel
theorem dX4_count_114 : decode cX4_count 114 = .ok (.iload_n 3, 1) := by decide +kernel
theorem dX4_count_115 : decode cX4_count 115 = .ok (.iaload, 1) := by decide +kernel
theorem dX4_count_116 : decode cX4_count 116 = .ok (.iconst (-1), 1) := by decide +kernel
theorem dX4_count_117 : decode cX4_count 117 = .ok (.if_icmp .eq 7, 3) := by decide +kernel
theorem dX4_count_120 : decode cX4_count 120 = .ok (.iconst 1, 1) := by decide +kernel
theorem dX4_count_121 : decode cX4_count 121 = .ok (.goto 4, 3) := by decide +kernel
theorem dX4_count_124 : decode cX4_count 124 = .ok (.iconst 0, 1) := by decide +kernel
theorem dX4_count_125 : decode cX4_count 125 = .ok (.iadd, 1) := by decide +kernel
theorem dX4_count_126 : decode cX4_count 126 = .ok (.istore_n 2, 1) := by decide +kernel
theorem dX4_count_127 : decode cX4_count 127 = .ok (.iinc 3 1, 3) := by decide +kernel
theorem dX4_count_130 : decode cX4_count 130 = .ok (.goto (-27), 3) := by decide +kernel
theorem dX4_count_133 : decode cX4_count 133 = .ok (.iload_n 2, 1) := by decide +kernel
theorem dX4_count_134 : decode cX4_count 134 = .ok (.ireturn, 1) := by decide +kernel
theorem dX4_count_135 : decode cX4_count 135 = .ok (.iconst 0, 1) := by decide +kernel
theorem dX4_count_136 : decode cX4_count 136 = .ok (.istore_n 3, 1) := by decide +kernel
theorem dX4_count_137 : decode cX4_count 137 = .ok (.iload_n 3, 1) := by decide +kernel
theorem dX4_count_138 : decode cX4_count 138 = .ok (.bipush 8, 2) := by decide +kernel
theorem dX4_count_140 : decode cX4_count 140 = .ok (.if_icmp .ge 27, 3) := by decide +kernel
theorem dX4_count_143 : decode cX4_count 143 = .ok (.iload_n 2, 1) := by decide +kernel
theorem dX4_count_144 : decode cX4_count 144 = .ok (.aload_n 0, 1) := by decide +kernel
theorem dX4_count_145 : decode cX4_count 145 = .ok (.getfield 7, 3) := by decide +kernel
theorem dX4_count_148 : decode cX4_count 148 = .ok (.iload_n 3, 1) := by decide +kernel
theorem dX4_count_149 : decode cX4_count 149 = .ok (.iaload, 1) := by decide +kernel
theorem dX4_count_150 : decode cX4_count 150 = .ok (.iconst (-1), 1) := by decide +kernel
theorem dX4_count_151 : decode cX4_count 151 = .ok (.if_icmp .eq 7, 3) := by decide +kernel
theorem dX4_count_154 : decode cX4_count 154 = .ok (.iconst 1, 1) := by decide +kernel
theorem dX4_count_155 : decode cX4_count 155 = .ok (.goto 4, 3) := by decide +kernel
theorem dX4_count_158 : decode cX4_count 158 = .ok (.iconst 0, 1) := by decide +kernel
theorem dX4_count_159 : decode cX4_count 159 = .ok (.iadd, 1) := by decide +kernel
theorem dX4_count_160 : decode cX4_count 160 = .ok (.istore_n 2, 1) := by decide +kernel
theorem dX4_count_161 : decode cX4_count 161 = .ok (.iinc 3 1, 3) := by decide +kernel
theorem dX4_count_164 : decode cX4_count 164 = .ok (.goto (-27), 3) := by decide +kernel
theorem dX4_count_167 : decode cX4_count 167 = .ok (.iload_n 2, 1) := by decide +kernel
theorem dX4_count_168 : decode cX4_count 168 = .ok (.ireturn, 1) := by decide +kernel
theorem dX4_count_169 : decode cX4_count 169 = .ok (.bipush (-3), 2) := by decide +kernel
theorem dX4_count_171 : decode cX4_count 171 = .ok (.ireturn, 1) := by decide +kernel
def rmX4_count : Room := { frames := 1, cells := 0, slots := 0, locals := 23 }
noncomputable def f_X4_count_50 : Nat → Int32 → Int32 → MS → Option (Int32 × MS)
  | 0, _, _, _ => none
  | n + 1, x2, x3, u => (if (8 : Int32) ≤ x3 then some (x2, u) else (if ix x3 8 = true then (if (u.2.1 2 (Int32.toNatClampNeg x3)) = ((-1) : Int32) then f_X4_count_50 n (x2 + 0) (x3 + 1) u else (f_X4_thingsIn x3 u).bind (fun z10 => f_X4_count_50 n (x2 + z10) (x3 + 1) u)) else none))
noncomputable def f_X4_count_103 : Nat → Int32 → Int32 → MS → Option (Int32 × MS)
  | 0, _, _, _ => none
  | n + 1, x2, x3, u => (if (20 : Int32) ≤ x3 then some (x2, u) else (if ix x3 20 = true then (if (u.2.1 12 (Int32.toNatClampNeg x3)) = ((-1) : Int32) then f_X4_count_103 n (x2 + 0) (x3 + 1) u else f_X4_count_103 n (x2 + 1) (x3 + 1) u) else none))
noncomputable def f_X4_count_137 : Nat → Int32 → Int32 → MS → Option (Int32 × MS)
  | 0, _, _, _ => none
  | n + 1, x2, x3, u => (if (8 : Int32) ≤ x3 then some (x2, u) else (if ix x3 8 = true then (if (u.2.1 2 (Int32.toNatClampNeg x3)) = ((-1) : Int32) then f_X4_count_137 n (x2 + 0) (x3 + 1) u else f_X4_count_137 n (x2 + 1) (x3 + 1) u) else none))
noncomputable def f_X4_count (x1 : Int32) (u : MS) : Option (Int32 × MS) := (if x1 = 0 then f_X4_count_50 NF 0 0 (mF u 0 0) else (if x1 = 1 then some (((mF u 0 0).1 1), (mF u 0 0)) else (if x1 = 2 then some (((mF u 0 0).1 15), (mF u 0 0)) else (if x1 = 3 then some (((mF u 0 0).1 19), (mF u 0 0)) else (if x1 = 4 then f_X4_count_103 NF 0 0 (mF u 0 0) else (if x1 = 5 then f_X4_count_137 NF 0 0 (mF u 0 0) else some ((-3), (mF u 0 0))))))))
section
variable {p : Program} {l : Launch} {e : Env} {s : State} {m : MethodId} {args : Array Value} {below : List Frame} {meth : Method} {c : Code}
variable {G : GX} {A : Nat → Prop} {ad : Nat → Nat}
set_option maxHeartbeats 4000000 in
set_option maxRecDepth 100000 in
theorem w_X4_count_50 (F : FX p m c cX4_count 4 s args yX4_count (some .int) RX4 meth) {z : Int32 × MS} : ∀ (n : Nat) (x2 : Int32) (x3 : Int32) (u : MS) (H : Heap) (locs : List Loc) (ls : Array Slot), WD G A s (mw G ad u) H locs → lv_has ls 4 [(0, .ref (ad 0)), (2, .int x2), (3, .int x3)] → f_X4_count_50 n x2 x3 u = some z → W p l e rmX4_count s m args below meth c H locs 0 0 (MQ below (QW G (mw G ad z.2) A (some (.int z.1))) args s 0 0 A) (F0 m 50 ls []) := by
  obtain ⟨⟨hx, hb, hml, hown, hts⟩, hr, hlocks⟩ := id F
  intro n
  induction n with
  | zero =>
    intro x2 x3 u H locs ls hw hl h
    rw [f_X4_count_50] at h
    cases h
  | succ n ih =>
    intro x2 x3 u H locs ls hw hl h
    rw [f_X4_count_50] at h
    refine lv_iload_n hx hb dX4_count_50 rfl (lv_at hl 2 rfl) ?_
    refine lv_bipush (v := 8) hx hb dX4_count_51 rfl ?_
    refine lv_icmp_ge (tgt := 84) hx hb dX4_count_53 rfl (fun c7 => ?_) (fun c7 => ?_)
    · replace h := itT h c7
      refine lv_iload_n hx hb dX4_count_84 rfl (lv_at hl 1 rfl) ?_
      cases h
      exact retW_i F hw dX4_count_85
    · replace h := itF h c7
      refine lv_iload_n hx hb dX4_count_56 rfl (lv_at hl 1 rfl) ?_
      refine lv_aload_n hx hb dX4_count_57 rfl (lv_at hl 0 rfl) ?_
      refine m_g2 F hw dX4_count_58 ?_
      refine lv_iload_n hx hb dX4_count_61 rfl (lv_at hl 2 rfl) ?_
      obtain ⟨g8, h⟩ := gd h
      refine m_l2 F hw g8 dX4_count_62 ?_
      refine lv_iconst (v := (-1)) hx hb dX4_count_63 rfl ?_
      refine lv_icmp_ne (tgt := 71) hx hb dX4_count_64 rfl (fun c9 => ?_) (fun c9 => ?_)
      · replace h := itF h c9
        refine lv_aload_n hx hb dX4_count_71 rfl (lv_at hl 0 rfl) ?_
        refine lv_iload_n hx hb dX4_count_72 rfl (lv_at hl 2 rfl) ?_
        obtain ⟨z10, e11, h⟩ := bnd h
        refine k_X4_thingsIn F hw e11 ⟨Nat.le_of_ble_eq_true rfl, Nat.le_of_ble_eq_true rfl⟩ ⟨Nat.zero_le _, Nat.zero_le _⟩ hl.1 (Nat.le_of_ble_eq_true rfl) dX4_count_73 ?_
        refine lv_iadd hx hb dX4_count_76 ?_
        refine lv_istore_n (lv' := [(2, .int (x2 + z10)), (0, .ref (ad 0)), (3, .int x3)]) hx hb dX4_count_77 rfl hl (by decide) rfl (fun ls hl => ?_)
        refine lv_iinc (v := (x3 + 1)) (lv' := [(3, .int (x3 + 1)), (2, .int (x2 + z10)), (0, .ref (ad 0))]) hx hb dX4_count_78 hl (k := 2) rfl rfl (by decide) rfl (fun ls hl => ?_)
        refine lv_goto (tgt := 50) hx hb dX4_count_81 rfl ?_
        exact ih _ _ _ _ _ _ hw (lv_sub hl [2, 1, 0] rfl) h
      · replace h := itT h c9
        refine lv_iconst (v := 0) hx hb dX4_count_67 rfl ?_
        refine lv_goto (tgt := 76) hx hb dX4_count_68 rfl ?_
        refine lv_iadd hx hb dX4_count_76 ?_
        refine lv_istore_n (lv' := [(2, .int (x2 + 0)), (0, .ref (ad 0)), (3, .int x3)]) hx hb dX4_count_77 rfl hl (by decide) rfl (fun ls hl => ?_)
        refine lv_iinc (v := (x3 + 1)) (lv' := [(3, .int (x3 + 1)), (2, .int (x2 + 0)), (0, .ref (ad 0))]) hx hb dX4_count_78 hl (k := 2) rfl rfl (by decide) rfl (fun ls hl => ?_)
        refine lv_goto (tgt := 50) hx hb dX4_count_81 rfl ?_
        exact ih _ _ _ _ _ _ hw (lv_sub hl [2, 1, 0] rfl) h
set_option maxHeartbeats 4000000 in
set_option maxRecDepth 100000 in
theorem w_X4_count_103 (F : FX p m c cX4_count 4 s args yX4_count (some .int) RX4 meth) {z : Int32 × MS} : ∀ (n : Nat) (x2 : Int32) (x3 : Int32) (u : MS) (H : Heap) (locs : List Loc) (ls : Array Slot), WD G A s (mw G ad u) H locs → lv_has ls 4 [(0, .ref (ad 0)), (2, .int x2), (3, .int x3)] → f_X4_count_103 n x2 x3 u = some z → W p l e rmX4_count s m args below meth c H locs 0 0 (MQ below (QW G (mw G ad z.2) A (some (.int z.1))) args s 0 0 A) (F0 m 103 ls []) := by
  obtain ⟨⟨hx, hb, hml, hown, hts⟩, hr, hlocks⟩ := id F
  intro n
  induction n with
  | zero =>
    intro x2 x3 u H locs ls hw hl h
    rw [f_X4_count_103] at h
    cases h
  | succ n ih =>
    intro x2 x3 u H locs ls hw hl h
    rw [f_X4_count_103] at h
    refine lv_iload_n hx hb dX4_count_103 rfl (lv_at hl 2 rfl) ?_
    refine lv_bipush (v := 20) hx hb dX4_count_104 rfl ?_
    refine lv_icmp_ge (tgt := 133) hx hb dX4_count_106 rfl (fun c12 => ?_) (fun c12 => ?_)
    · replace h := itT h c12
      refine lv_iload_n hx hb dX4_count_133 rfl (lv_at hl 1 rfl) ?_
      cases h
      exact retW_i F hw dX4_count_134
    · replace h := itF h c12
      refine lv_iload_n hx hb dX4_count_109 rfl (lv_at hl 1 rfl) ?_
      refine lv_aload_n hx hb dX4_count_110 rfl (lv_at hl 0 rfl) ?_
      refine m_g12 F hw dX4_count_111 ?_
      refine lv_iload_n hx hb dX4_count_114 rfl (lv_at hl 2 rfl) ?_
      obtain ⟨g13, h⟩ := gd h
      refine m_l12 F hw g13 dX4_count_115 ?_
      refine lv_iconst (v := (-1)) hx hb dX4_count_116 rfl ?_
      refine lv_icmp_eq (tgt := 124) hx hb dX4_count_117 rfl (fun c14 => ?_) (fun c14 => ?_)
      · replace h := itT h c14
        refine lv_iconst (v := 0) hx hb dX4_count_124 rfl ?_
        refine lv_iadd hx hb dX4_count_125 ?_
        refine lv_istore_n (lv' := [(2, .int (x2 + 0)), (0, .ref (ad 0)), (3, .int x3)]) hx hb dX4_count_126 rfl hl (by decide) rfl (fun ls hl => ?_)
        refine lv_iinc (v := (x3 + 1)) (lv' := [(3, .int (x3 + 1)), (2, .int (x2 + 0)), (0, .ref (ad 0))]) hx hb dX4_count_127 hl (k := 2) rfl rfl (by decide) rfl (fun ls hl => ?_)
        refine lv_goto (tgt := 103) hx hb dX4_count_130 rfl ?_
        exact ih _ _ _ _ _ _ hw (lv_sub hl [2, 1, 0] rfl) h
      · replace h := itF h c14
        refine lv_iconst (v := 1) hx hb dX4_count_120 rfl ?_
        refine lv_goto (tgt := 125) hx hb dX4_count_121 rfl ?_
        refine lv_iadd hx hb dX4_count_125 ?_
        refine lv_istore_n (lv' := [(2, .int (x2 + 1)), (0, .ref (ad 0)), (3, .int x3)]) hx hb dX4_count_126 rfl hl (by decide) rfl (fun ls hl => ?_)
        refine lv_iinc (v := (x3 + 1)) (lv' := [(3, .int (x3 + 1)), (2, .int (x2 + 1)), (0, .ref (ad 0))]) hx hb dX4_count_127 hl (k := 2) rfl rfl (by decide) rfl (fun ls hl => ?_)
        refine lv_goto (tgt := 103) hx hb dX4_count_130 rfl ?_
        exact ih _ _ _ _ _ _ hw (lv_sub hl [2, 1, 0] rfl) h
set_option maxHeartbeats 4000000 in
set_option maxRecDepth 100000 in
theorem w_X4_count_137 (F : FX p m c cX4_count 4 s args yX4_count (some .int) RX4 meth) {z : Int32 × MS} : ∀ (n : Nat) (x2 : Int32) (x3 : Int32) (u : MS) (H : Heap) (locs : List Loc) (ls : Array Slot), WD G A s (mw G ad u) H locs → lv_has ls 4 [(0, .ref (ad 0)), (2, .int x2), (3, .int x3)] → f_X4_count_137 n x2 x3 u = some z → W p l e rmX4_count s m args below meth c H locs 0 0 (MQ below (QW G (mw G ad z.2) A (some (.int z.1))) args s 0 0 A) (F0 m 137 ls []) := by
  obtain ⟨⟨hx, hb, hml, hown, hts⟩, hr, hlocks⟩ := id F
  intro n
  induction n with
  | zero =>
    intro x2 x3 u H locs ls hw hl h
    rw [f_X4_count_137] at h
    cases h
  | succ n ih =>
    intro x2 x3 u H locs ls hw hl h
    rw [f_X4_count_137] at h
    refine lv_iload_n hx hb dX4_count_137 rfl (lv_at hl 2 rfl) ?_
    refine lv_bipush (v := 8) hx hb dX4_count_138 rfl ?_
    refine lv_icmp_ge (tgt := 167) hx hb dX4_count_140 rfl (fun c15 => ?_) (fun c15 => ?_)
    · replace h := itT h c15
      refine lv_iload_n hx hb dX4_count_167 rfl (lv_at hl 1 rfl) ?_
      cases h
      exact retW_i F hw dX4_count_168
    · replace h := itF h c15
      refine lv_iload_n hx hb dX4_count_143 rfl (lv_at hl 1 rfl) ?_
      refine lv_aload_n hx hb dX4_count_144 rfl (lv_at hl 0 rfl) ?_
      refine m_g2 F hw dX4_count_145 ?_
      refine lv_iload_n hx hb dX4_count_148 rfl (lv_at hl 2 rfl) ?_
      obtain ⟨g16, h⟩ := gd h
      refine m_l2 F hw g16 dX4_count_149 ?_
      refine lv_iconst (v := (-1)) hx hb dX4_count_150 rfl ?_
      refine lv_icmp_eq (tgt := 158) hx hb dX4_count_151 rfl (fun c17 => ?_) (fun c17 => ?_)
      · replace h := itT h c17
        refine lv_iconst (v := 0) hx hb dX4_count_158 rfl ?_
        refine lv_iadd hx hb dX4_count_159 ?_
        refine lv_istore_n (lv' := [(2, .int (x2 + 0)), (0, .ref (ad 0)), (3, .int x3)]) hx hb dX4_count_160 rfl hl (by decide) rfl (fun ls hl => ?_)
        refine lv_iinc (v := (x3 + 1)) (lv' := [(3, .int (x3 + 1)), (2, .int (x2 + 0)), (0, .ref (ad 0))]) hx hb dX4_count_161 hl (k := 2) rfl rfl (by decide) rfl (fun ls hl => ?_)
        refine lv_goto (tgt := 137) hx hb dX4_count_164 rfl ?_
        exact ih _ _ _ _ _ _ hw (lv_sub hl [2, 1, 0] rfl) h
      · replace h := itF h c17
        refine lv_iconst (v := 1) hx hb dX4_count_154 rfl ?_
        refine lv_goto (tgt := 159) hx hb dX4_count_155 rfl ?_
        refine lv_iadd hx hb dX4_count_159 ?_
        refine lv_istore_n (lv' := [(2, .int (x2 + 1)), (0, .ref (ad 0)), (3, .int x3)]) hx hb dX4_count_160 rfl hl (by decide) rfl (fun ls hl => ?_)
        refine lv_iinc (v := (x3 + 1)) (lv' := [(3, .int (x3 + 1)), (2, .int (x2 + 1)), (0, .ref (ad 0))]) hx hb dX4_count_161 hl (k := 2) rfl rfl (by decide) rfl (fun ls hl => ?_)
        refine lv_goto (tgt := 137) hx hb dX4_count_164 rfl ?_
        exact ih _ _ _ _ _ _ hw (lv_sub hl [2, 1, 0] rfl) h
set_option maxHeartbeats 4000000 in
set_option maxRecDepth 100000 in
theorem w_X4_count_0 (F : FX p m c cX4_count 4 s args yX4_count (some .int) RX4 meth) {z : Int32 × MS} : ∀ (x1 : Int32) (u : MS) (H : Heap) (locs : List Loc) (ls : Array Slot), WD G A s (mw G ad u) H locs → lv_has ls 4 [(0, .ref (ad 0)), (1, .int x1)] → f_X4_count x1 u = some z → W p l e rmX4_count s m args below meth c H locs 0 0 (MQ below (QW G (mw G ad z.2) A (some (.int z.1))) args s 0 0 A) (F0 m 0 ls []) := by
  obtain ⟨⟨hx, hb, hml, hown, hts⟩, hr, hlocks⟩ := id F
  intro x1 u H locs ls hw hl h
  unfold f_X4_count at h
  refine lv_aload_n hx hb dX4_count_0 rfl (lv_at hl 0 rfl) ?_
  refine lv_iconst (v := 0) hx hb dX4_count_1 rfl ?_
  refine m_p0 F hw dX4_count_2 (fun H locs hw => ?_)
  refine lv_iconst (v := 0) hx hb dX4_count_5 rfl ?_
  refine lv_istore_n (lv' := [(2, .int 0), (0, .ref (ad 0)), (1, .int x1)]) hx hb dX4_count_6 rfl hl (by decide) rfl (fun ls hl => ?_)
  refine lv_iload_n hx hb dX4_count_7 rfl (lv_at hl 2 rfl) ?_
  by_cases c1 : x1 = 0
  · replace h := itT h c1
    refine lv_tableIn (tgt := 48) hx hb dX4_count_8 (by rw [c1]; decide) (by rw [c1]; decide) (by rw [c1]; rfl) rfl ?_
    refine lv_iconst (v := 0) hx hb dX4_count_48 rfl ?_
    refine lv_istore_n (lv' := [(3, .int 0), (2, .int 0), (0, .ref (ad 0)), (1, .int x1)]) hx hb dX4_count_49 rfl hl (by decide) rfl (fun ls hl => ?_)
    exact w_X4_count_50 F NF _ _ _ _ _ _ hw (lv_sub hl [2, 1, 0] rfl) h
  replace h := itF h c1
  by_cases c2 : x1 = 1
  · replace h := itT h c2
    refine lv_tableIn (tgt := 86) hx hb dX4_count_8 (by rw [c2]; decide) (by rw [c2]; decide) (by rw [c2]; rfl) rfl ?_
    refine lv_aload_n hx hb dX4_count_86 rfl (lv_at hl 1 rfl) ?_
    refine m_g1 F hw dX4_count_87 ?_
    cases h
    exact retW_i F hw dX4_count_90
  replace h := itF h c2
  by_cases c3 : x1 = 2
  · replace h := itT h c3
    refine lv_tableIn (tgt := 91) hx hb dX4_count_8 (by rw [c3]; decide) (by rw [c3]; decide) (by rw [c3]; rfl) rfl ?_
    refine lv_aload_n hx hb dX4_count_91 rfl (lv_at hl 1 rfl) ?_
    refine m_g15 F hw dX4_count_92 ?_
    cases h
    exact retW_i F hw dX4_count_95
  replace h := itF h c3
  by_cases c4 : x1 = 3
  · replace h := itT h c4
    refine lv_tableIn (tgt := 96) hx hb dX4_count_8 (by rw [c4]; decide) (by rw [c4]; decide) (by rw [c4]; rfl) rfl ?_
    refine lv_aload_n hx hb dX4_count_96 rfl (lv_at hl 1 rfl) ?_
    refine m_g19 F hw dX4_count_97 ?_
    cases h
    exact retW_i F hw dX4_count_100
  replace h := itF h c4
  by_cases c5 : x1 = 4
  · replace h := itT h c5
    refine lv_tableIn (tgt := 101) hx hb dX4_count_8 (by rw [c5]; decide) (by rw [c5]; decide) (by rw [c5]; rfl) rfl ?_
    refine lv_iconst (v := 0) hx hb dX4_count_101 rfl ?_
    refine lv_istore_n (lv' := [(3, .int 0), (2, .int 0), (0, .ref (ad 0)), (1, .int x1)]) hx hb dX4_count_102 rfl hl (by decide) rfl (fun ls hl => ?_)
    exact w_X4_count_103 F NF _ _ _ _ _ _ hw (lv_sub hl [2, 1, 0] rfl) h
  replace h := itF h c5
  by_cases c6 : x1 = 5
  · replace h := itT h c6
    refine lv_tableIn (tgt := 135) hx hb dX4_count_8 (by rw [c6]; decide) (by rw [c6]; decide) (by rw [c6]; rfl) rfl ?_
    refine lv_iconst (v := 0) hx hb dX4_count_135 rfl ?_
    refine lv_istore_n (lv' := [(3, .int 0), (2, .int 0), (0, .ref (ad 0)), (1, .int x1)]) hx hb dX4_count_136 rfl hl (by decide) rfl (fun ls hl => ?_)
    exact w_X4_count_137 F NF _ _ _ _ _ _ hw (lv_sub hl [2, 1, 0] rfl) h
  replace h := itF h c6
  refine lv_tableOut (tgt := 169) hx hb dX4_count_8 (by have q0 : (x1).toInt ≠ 0 := fun z => c1 (Int32.toInt_inj.mp (z.trans rfl)); have q1 : (x1).toInt ≠ 1 := fun z => c2 (Int32.toInt_inj.mp (z.trans rfl)); have q2 : (x1).toInt ≠ 2 := fun z => c3 (Int32.toInt_inj.mp (z.trans rfl)); have q3 : (x1).toInt ≠ 3 := fun z => c4 (Int32.toInt_inj.mp (z.trans rfl)); have q4 : (x1).toInt ≠ 4 := fun z => c5 (Int32.toInt_inj.mp (z.trans rfl)); have q5 : (x1).toInt ≠ 5 := fun z => c6 (Int32.toInt_inj.mp (z.trans rfl)); omega) rfl ?_
  refine lv_bipush (v := (-3)) hx hb dX4_count_169 rfl ?_
  cases h
  exact retW_i F hw dX4_count_171
end
theorem c_X4_count {l : Launch} {G : GX} {ad : Nat → Nat} {x1 : Int32} {u : MS} {z : Int32 × MS} (h : f_X4_count x1 u = some z) : MW l yX4_count cX4_count 4 (some .int) rmX4_count G (mw G ad u) (mw G ad z.2) [.ref (ad 0), .int x1] (some (.int z.1)) := MW.of (by decide) (Nat.le_of_ble_eq_true rfl) (fun p e s m below meth c ls F hw hl => w_X4_count_0 F _ _ _ _ _ hw hl h)
