/-! ===== X4_undo ===== -/
theorem dX4_undo_0 : decode cX4_undo 0 = .ok (.aload_n 0, 1) := by decide +kernel
theorem dX4_undo_1 : decode cX4_undo 1 = .ok (.iconst 0, 1) := by decide +kernel
theorem dX4_undo_2 : decode cX4_undo 2 = .ok (.putfield 64, 3) := by decide +kernel
theorem dX4_undo_5 : decode cX4_undo 5 = .ok (.aload_n 0, 1) := by decide +kernel
theorem dX4_undo_6 : decode cX4_undo 6 = .ok (.getfield 86, 3) := by decide +kernel
theorem dX4_undo_9 : decode cX4_undo 9 = .ok (.ifCond .ne 6, 3) := by decide +kernel
theorem dX4_undo_12 : decode cX4_undo 12 = .ok (.bipush (-4), 2) := by decide +kernel
theorem dX4_undo_14 : decode cX4_undo 14 = .ok (.ireturn, 1) := by decide +kernel
theorem dX4_undo_15 : decode cX4_undo 15 = .ok (.aload_n 0, 1) := by decide +kernel
theorem dX4_undo_16 : decode cX4_undo 16 = .ok (.aload_n 0, 1) := by decide +kernel
theorem dX4_undo_17 : decode cX4_undo 17 = .ok (.getfield 81, 3) := by decide +kernel
theorem dX4_undo_20 : decode cX4_undo 20 = .ok (.bipush 8, 2) := by decide +kernel
theorem dX4_undo_22 : decode cX4_undo 22 = .ok (.iadd, 1) := by decide +kernel
theorem dX4_undo_23 : decode cX4_undo 23 = .ok (.iconst 1, 1) := by decide +kernel
theorem dX4_undo_24 : decode cX4_undo 24 = .ok (.isub, 1) := by decide +kernel
theorem dX4_undo_25 : decode cX4_undo 25 = .ok (.bipush 8, 2) := by decide +kernel
theorem dX4_undo_27 : decode cX4_undo 27 = .ok (.irem, 1) := by decide +kernel
theorem dX4_undo_28 : decode cX4_undo 28 = .ok (.putfield 81, 3) := by decide +kernel
theorem dX4_undo_31 : decode cX4_undo 31 = .ok (.aload_n 0, 1) := by decide +kernel
theorem dX4_undo_32 : decode cX4_undo 32 = .ok (.dup, 1) := by decide +kernel
theorem dX4_undo_33 : decode cX4_undo 33 = .ok (.getfield 86, 3) := by decide +kernel
theorem dX4_undo_36 : decode cX4_undo 36 = .ok (.iconst 1, 1) := by decide +kernel
theorem dX4_undo_37 : decode cX4_undo 37 = .ok (.isub, 1) := by decide +kernel
theorem dX4_undo_38 : decode cX4_undo 38 = .ok (.putfield 86, 3) := by decide +kernel
theorem dX4_undo_41 : decode cX4_undo 41 = .ok (.aload_n 0, 1) := by decide +kernel
theorem dX4_undo_42 : decode cX4_undo 42 = .ok (.aload_n 0, 1) := by decide +kernel
theorem dX4_undo_43 : decode cX4_undo 43 = .ok (.getfield 81, 3) := by decide +kernel
theorem dX4_undo_46 : decode cX4_undo 46 = .ok (.invokevirtual 89, 3) := by decide +kernel
theorem dX4_undo_49 : decode cX4_undo 49 = .ok (.aload_n 0, 1) := by decide +kernel
theorem dX4_undo_50 : decode cX4_undo 50 = .ok (.getfield 86, 3) := by decide +kernel
theorem dX4_undo_53 : decode cX4_undo 53 = .ok (.ireturn, 1) := by decide +kernel
def rmX4_undo : Room := { frames := 2, cells := 0, slots := 0, locals := 45 }
noncomputable def f_X4_undo (u : MS) : Option (Int32 × MS) := (if ((mF u 0 0).1 19) = 0 then some ((-4), (mF u 0 0)) else (f_X4_load ((mF (mF (mF u 0 0) 18 (((((mF u 0 0).1 18) + 8) - 1) - ((((mF u 0 0).1 18) + 8) - 1) / 8 * 8)) 19 (((mF (mF u 0 0) 18 (((((mF u 0 0).1 18) + 8) - 1) - ((((mF u 0 0).1 18) + 8) - 1) / 8 * 8)).1 19) - 1)).1 18) (mF (mF (mF u 0 0) 18 (((((mF u 0 0).1 18) + 8) - 1) - ((((mF u 0 0).1 18) + 8) - 1) / 8 * 8)) 19 (((mF (mF u 0 0) 18 (((((mF u 0 0).1 18) + 8) - 1) - ((((mF u 0 0).1 18) + 8) - 1) / 8 * 8)).1 19) - 1))).bind (fun z2 => some ((z2.1 19), z2)))
section
variable {p : Program} {l : Launch} {e : Env} {s : State} {m : MethodId} {args : Array Value} {below : List Frame} {meth : Method} {c : Code}
variable {G : GX} {A : Nat → Prop} {ad : Nat → Nat}
set_option maxHeartbeats 4000000 in
set_option maxRecDepth 100000 in
theorem w_X4_undo_0 (F : FX p m c cX4_undo 1 s args yX4_undo (some .int) RX4 meth) {z : Int32 × MS} : ∀ (u : MS) (H : Heap) (locs : List Loc) (ls : Array Slot), WD G A s (mw G ad u) H locs → lv_has ls 1 [(0, .ref (ad 0))] → f_X4_undo u = some z → W p l e rmX4_undo s m args below meth c H locs 0 0 (MQ below (QW G (mw G ad z.2) A (some (.int z.1))) args s 0 0 A) (F0 m 0 ls []) := by
  obtain ⟨⟨hx, hb, hml, hown, hts⟩, hr, hlocks⟩ := id F
  intro u H locs ls hw hl h
  unfold f_X4_undo at h
  refine lv_aload_n hx hb dX4_undo_0 rfl (lv_at hl 0 rfl) ?_
  refine lv_iconst (v := 0) hx hb dX4_undo_1 rfl ?_
  refine m_p0 F hw dX4_undo_2 (fun H locs hw => ?_)
  refine lv_aload_n hx hb dX4_undo_5 rfl (lv_at hl 0 rfl) ?_
  refine m_g19 F hw dX4_undo_6 ?_
  refine lv_if_ne (tgt := 15) hx hb dX4_undo_9 rfl (fun c1 => ?_) (fun c1 => ?_)
  · replace h := itF h c1
    refine lv_aload_n hx hb dX4_undo_15 rfl (lv_at hl 0 rfl) ?_
    refine lv_aload_n hx hb dX4_undo_16 rfl (lv_at hl 0 rfl) ?_
    refine m_g18 F hw dX4_undo_17 ?_
    refine lv_bipush (v := 8) hx hb dX4_undo_20 rfl ?_
    refine lv_iadd hx hb dX4_undo_22 ?_
    refine lv_iconst (v := 1) hx hb dX4_undo_23 rfl ?_
    refine lv_isub hx hb dX4_undo_24 ?_
    refine lv_bipush (v := 8) hx hb dX4_undo_25 rfl ?_
    refine lv_irem hx hb dX4_undo_27 (by decide) ?_
    refine m_p18 F hw dX4_undo_28 (fun H locs hw => ?_)
    refine lv_aload_n hx hb dX4_undo_31 rfl (lv_at hl 0 rfl) ?_
    refine lv_dup hx hb dX4_undo_32 rfl ?_
    refine m_g19 F hw dX4_undo_33 ?_
    refine lv_iconst (v := 1) hx hb dX4_undo_36 rfl ?_
    refine lv_isub hx hb dX4_undo_37 ?_
    refine m_p19 F hw dX4_undo_38 (fun H locs hw => ?_)
    refine lv_aload_n hx hb dX4_undo_41 rfl (lv_at hl 0 rfl) ?_
    refine lv_aload_n hx hb dX4_undo_42 rfl (lv_at hl 0 rfl) ?_
    refine m_g18 F hw dX4_undo_43 ?_
    obtain ⟨z2, e3, h⟩ := bnd h
    refine k_X4_load F hw e3 ⟨Nat.le_of_ble_eq_true rfl, Nat.le_of_ble_eq_true rfl⟩ ⟨Nat.zero_le _, Nat.zero_le _⟩ hl.1 (Nat.le_of_ble_eq_true rfl) dX4_undo_46 (fun H locs hw => ?_)
    refine lv_aload_n hx hb dX4_undo_49 rfl (lv_at hl 0 rfl) ?_
    refine m_g19 F hw dX4_undo_50 ?_
    cases h
    exact retW_i F hw dX4_undo_53
  · replace h := itT h c1
    refine lv_bipush (v := (-4)) hx hb dX4_undo_12 rfl ?_
    cases h
    exact retW_i F hw dX4_undo_14
end
theorem c_X4_undo {l : Launch} {G : GX} {ad : Nat → Nat} {u : MS} {z : Int32 × MS} (h : f_X4_undo u = some z) : MW l yX4_undo cX4_undo 1 (some .int) rmX4_undo G (mw G ad u) (mw G ad z.2) [.ref (ad 0)] (some (.int z.1)) := MW.of (by decide) (Nat.le_of_ble_eq_true rfl) (fun p e s m below meth c ls F hw hl => w_X4_undo_0 F  _ _ _ _ hw hl h)
/-! ===== X4_row ===== -/
theorem dX4_row_0 : decode cX4_row 0 = .ok (.aload_n 0, 1) := by decide +kernel
theorem dX4_row_1 : decode cX4_row 1 = .ok (.iconst 0, 1) := by decide +kernel
theorem dX4_row_2 : decode cX4_row 2 = .ok (.putfield 64, 3) := by decide +kernel
theorem dX4_row_5 : decode cX4_row 5 = .ok (.iload_n 1, 1) := by decide +kernel
theorem dX4_row_6 : decode cX4_row 6 = .ok (.iconst 0, 1) := by decide +kernel
theorem dX4_row_7 : decode cX4_row 7 = .ok (.bipush 7, 2) := by decide +kernel
theorem dX4_row_9 : decode cX4_row 9 = .ok (.invokestatic 93, 3) := by decide +kernel
theorem dX4_row_12 : decode cX4_row 12 = .ok (.ifCond .eq 22, 3) := by decide +kernel
theorem dX4_row_15 : decode cX4_row 15 = .ok (.iload_n 2, 1) := by decide +kernel
theorem dX4_row_16 : decode cX4_row 16 = .ok (.iconst 0, 1) := by decide +kernel
theorem dX4_row_17 : decode cX4_row 17 = .ok (.iconst 3, 1) := by decide +kernel
theorem dX4_row_18 : decode cX4_row 18 = .ok (.invokestatic 93, 3) := by decide +kernel
theorem dX4_row_21 : decode cX4_row 21 = .ok (.ifCond .eq 13, 3) := by decide +kernel
theorem dX4_row_24 : decode cX4_row 24 = .ok (.iload_n 3, 1) := by decide +kernel
theorem dX4_row_25 : decode cX4_row 25 = .ok (.iconst 4, 1) := by decide +kernel
theorem dX4_row_26 : decode cX4_row 26 = .ok (.bipush 40, 2) := by decide +kernel
theorem dX4_row_28 : decode cX4_row 28 = .ok (.invokestatic 93, 3) := by decide +kernel
theorem dX4_row_31 : decode cX4_row 31 = .ok (.ifCond .ne 6, 3) := by decide +kernel
theorem dX4_row_34 : decode cX4_row 34 = .ok (.bipush (-3), 2) := by decide +kernel
theorem dX4_row_36 : decode cX4_row 36 = .ok (.ireturn, 1) := by decide +kernel
theorem dX4_row_37 : decode cX4_row 37 = .ok (.aload_n 0, 1) := by decide +kernel
theorem dX4_row_38 : decode cX4_row 38 = .ok (.getfield 7, 3) := by decide +kernel
theorem dX4_row_41 : decode cX4_row 41 = .ok (.iload_n 1, 1) := by decide +kernel
theorem dX4_row_42 : decode cX4_row 42 = .ok (.iaload, 1) := by decide +kernel
theorem dX4_row_43 : decode cX4_row 43 = .ok (.iconst (-1), 1) := by decide +kernel
theorem dX4_row_44 : decode cX4_row 44 = .ok (.if_icmp .eq 6, 3) := by decide +kernel
theorem dX4_row_47 : decode cX4_row 47 = .ok (.bipush (-4), 2) := by decide +kernel
theorem dX4_row_49 : decode cX4_row 49 = .ok (.ireturn, 1) := by decide +kernel
theorem dX4_row_50 : decode cX4_row 50 = .ok (.aload_n 0, 1) := by decide +kernel
theorem dX4_row_51 : decode cX4_row 51 = .ok (.bipush 8, 2) := by decide +kernel
theorem dX4_row_53 : decode cX4_row 53 = .ok (.invokevirtual 104, 3) := by decide +kernel
theorem dX4_row_56 : decode cX4_row 56 = .ok (.aload_n 0, 1) := by decide +kernel
theorem dX4_row_57 : decode cX4_row 57 = .ok (.invokevirtual 107, 3) := by decide +kernel
theorem dX4_row_60 : decode cX4_row 60 = .ok (.aload_n 0, 1) := by decide +kernel
theorem dX4_row_61 : decode cX4_row 61 = .ok (.getfield 7, 3) := by decide +kernel
theorem dX4_row_64 : decode cX4_row 64 = .ok (.iload_n 1, 1) := by decide +kernel
theorem dX4_row_65 : decode cX4_row 65 = .ok (.iload_n 2, 1) := by decide +kernel
theorem dX4_row_66 : decode cX4_row 66 = .ok (.iastore, 1) := by decide +kernel
theorem dX4_row_67 : decode cX4_row 67 = .ok (.aload_n 0, 1) := by decide +kernel
theorem dX4_row_68 : decode cX4_row 68 = .ok (.getfield 13, 3) := by decide +kernel
theorem dX4_row_71 : decode cX4_row 71 = .ok (.iload_n 1, 1) := by decide +kernel
theorem dX4_row_72 : decode cX4_row 72 = .ok (.iload_n 3, 1) := by decide +kernel
theorem dX4_row_73 : decode cX4_row 73 = .ok (.iastore, 1) := by decide +kernel
theorem dX4_row_74 : decode cX4_row 74 = .ok (.aload_n 0, 1) := by decide +kernel
theorem dX4_row_75 : decode cX4_row 75 = .ok (.getfield 16, 3) := by decide +kernel
theorem dX4_row_78 : decode cX4_row 78 = .ok (.iload_n 1, 1) := by decide +kernel
theorem dX4_row_79 : decode cX4_row 79 = .ok (.iconst 0, 1) := by decide +kernel
theorem dX4_row_80 : decode cX4_row 80 = .ok (.iastore, 1) := by decide +kernel
theorem dX4_row_81 : decode cX4_row 81 = .ok (.aload_n 0, 1) := by decide +kernel
theorem dX4_row_82 : decode cX4_row 82 = .ok (.getfield 22, 3) := by decide +kernel
theorem dX4_row_85 : decode cX4_row 85 = .ok (.iload_n 1, 1) := by decide +kernel
theorem dX4_row_86 : decode cX4_row 86 = .ok (.iconst 0, 1) := by decide +kernel
theorem dX4_row_87 : decode cX4_row 87 = .ok (.iastore, 1) := by decide +kernel
theorem dX4_row_88 : decode cX4_row 88 = .ok (.aload_n 0, 1) := by decide +kernel
theorem dX4_row_89 : decode cX4_row 89 = .ok (.getfield 19, 3) := by decide +kernel
theorem dX4_row_92 : decode cX4_row 92 = .ok (.iload_n 1, 1) := by decide +kernel
theorem dX4_row_93 : decode cX4_row 93 = .ok (.iconst 0, 1) := by decide +kernel
theorem dX4_row_94 : decode cX4_row 94 = .ok (.iastore, 1) := by decide +kernel
theorem dX4_row_95 : decode cX4_row 95 = .ok (.iconst 0, 1) := by decide +kernel
theorem dX4_row_96 : decode cX4_row 96 = .ok (.ireturn, 1) := by decide +kernel
def rmX4_row : Room := { frames := 2, cells := 0, slots := 0, locals := 45 }
noncomputable def f_X4_row (x1 : Int32) (x2 : Int32) (x3 : Int32) (u : MS) : Option (Int32 × MS) := (f_X4_in x1 0 7).bind (fun z1 => (if z1 = 0 then some ((-3), (mF u 0 0)) else (f_X4_in x2 0 3).bind (fun z4 => (if z4 = 0 then some ((-3), (mF u 0 0)) else (f_X4_in x3 4 40).bind (fun z7 => (if z7 = 0 then some ((-3), (mF u 0 0)) else (if ix x1 8 = true then (if ((mF u 0 0).2.1 2 (Int32.toNatClampNeg x1)) = ((-1) : Int32) then (f_X4_save 8 (mF u 0 0)).bind (fun z12 => (f_X4_keep z12).bind (fun z14 => (if ix x1 8 = true then (if ix x1 8 = true then (if ix x1 8 = true then (if ix x1 8 = true then (if ix x1 8 = true then some (0, (mA (mA (mA (mA (mA z14 2 (Int32.toNatClampNeg x1) x2) 3 (Int32.toNatClampNeg x1) x3) 4 (Int32.toNatClampNeg x1) 0) 6 (Int32.toNatClampNeg x1) 0) 5 (Int32.toNatClampNeg x1) 0)) else none) else none) else none) else none) else none))) else some ((-4), (mF u 0 0))) else none)))))))
section
variable {p : Program} {l : Launch} {e : Env} {s : State} {m : MethodId} {args : Array Value} {below : List Frame} {meth : Method} {c : Code}
variable {G : GX} {A : Nat → Prop} {ad : Nat → Nat}
set_option maxHeartbeats 4000000 in
set_option maxRecDepth 100000 in
theorem w_X4_row_0 (F : FX p m c cX4_row 4 s args yX4_row (some .int) RX4 meth) {z : Int32 × MS} : ∀ (x1 : Int32) (x2 : Int32) (x3 : Int32) (u : MS) (H : Heap) (locs : List Loc) (ls : Array Slot), WD G A s (mw G ad u) H locs → lv_has ls 4 [(0, .ref (ad 0)), (1, .int x1), (2, .int x2), (3, .int x3)] → f_X4_row x1 x2 x3 u = some z → W p l e rmX4_row s m args below meth c H locs 0 0 (MQ below (QW G (mw G ad z.2) A (some (.int z.1))) args s 0 0 A) (F0 m 0 ls []) := by
  obtain ⟨⟨hx, hb, hml, hown, hts⟩, hr, hlocks⟩ := id F
  intro x1 x2 x3 u H locs ls hw hl h
  unfold f_X4_row at h
  refine lv_aload_n hx hb dX4_row_0 rfl (lv_at hl 0 rfl) ?_
  refine lv_iconst (v := 0) hx hb dX4_row_1 rfl ?_
  refine m_p0 F hw dX4_row_2 (fun H locs hw => ?_)
  refine lv_iload_n hx hb dX4_row_5 rfl (lv_at hl 1 rfl) ?_
  refine lv_iconst (v := 0) hx hb dX4_row_6 rfl ?_
  refine lv_bipush (v := 7) hx hb dX4_row_7 rfl ?_
  obtain ⟨z1, e2, h⟩ := bnd h
  refine k_X4_in F hw e2 ⟨Nat.le_of_ble_eq_true rfl, Nat.le_of_ble_eq_true rfl⟩ ⟨Nat.zero_le _, Nat.zero_le _⟩ hl.1 (Nat.le_of_ble_eq_true rfl) dX4_row_9 ?_
  refine lv_if_eq (tgt := 34) hx hb dX4_row_12 rfl (fun c3 => ?_) (fun c3 => ?_)
  · replace h := itT h c3
    refine lv_bipush (v := (-3)) hx hb dX4_row_34 rfl ?_
    cases h
    exact retW_i F hw dX4_row_36
  · replace h := itF h c3
    refine lv_iload_n hx hb dX4_row_15 rfl (lv_at hl 2 rfl) ?_
    refine lv_iconst (v := 0) hx hb dX4_row_16 rfl ?_
    refine lv_iconst (v := 3) hx hb dX4_row_17 rfl ?_
    obtain ⟨z4, e5, h⟩ := bnd h
    refine k_X4_in F hw e5 ⟨Nat.le_of_ble_eq_true rfl, Nat.le_of_ble_eq_true rfl⟩ ⟨Nat.zero_le _, Nat.zero_le _⟩ hl.1 (Nat.le_of_ble_eq_true rfl) dX4_row_18 ?_
    refine lv_if_eq (tgt := 34) hx hb dX4_row_21 rfl (fun c6 => ?_) (fun c6 => ?_)
    · replace h := itT h c6
      refine lv_bipush (v := (-3)) hx hb dX4_row_34 rfl ?_
      cases h
      exact retW_i F hw dX4_row_36
    · replace h := itF h c6
      refine lv_iload_n hx hb dX4_row_24 rfl (lv_at hl 3 rfl) ?_
      refine lv_iconst (v := 4) hx hb dX4_row_25 rfl ?_
      refine lv_bipush (v := 40) hx hb dX4_row_26 rfl ?_
      obtain ⟨z7, e8, h⟩ := bnd h
      refine k_X4_in F hw e8 ⟨Nat.le_of_ble_eq_true rfl, Nat.le_of_ble_eq_true rfl⟩ ⟨Nat.zero_le _, Nat.zero_le _⟩ hl.1 (Nat.le_of_ble_eq_true rfl) dX4_row_28 ?_
      refine lv_if_ne (tgt := 37) hx hb dX4_row_31 rfl (fun c9 => ?_) (fun c9 => ?_)
      · replace h := itF h c9
        refine lv_aload_n hx hb dX4_row_37 rfl (lv_at hl 0 rfl) ?_
        refine m_g2 F hw dX4_row_38 ?_
        refine lv_iload_n hx hb dX4_row_41 rfl (lv_at hl 1 rfl) ?_
        obtain ⟨g10, h⟩ := gd h
        refine m_l2 F hw g10 dX4_row_42 ?_
        refine lv_iconst (v := (-1)) hx hb dX4_row_43 rfl ?_
        refine lv_icmp_eq (tgt := 50) hx hb dX4_row_44 rfl (fun c11 => ?_) (fun c11 => ?_)
        · replace h := itT h c11
          refine lv_aload_n hx hb dX4_row_50 rfl (lv_at hl 0 rfl) ?_
          refine lv_bipush (v := 8) hx hb dX4_row_51 rfl ?_
          obtain ⟨z12, e13, h⟩ := bnd h
          refine k_X4_save F hw e13 ⟨Nat.le_of_ble_eq_true rfl, Nat.le_of_ble_eq_true rfl⟩ ⟨Nat.zero_le _, Nat.zero_le _⟩ hl.1 (Nat.le_of_ble_eq_true rfl) dX4_row_53 (fun H locs hw => ?_)
          refine lv_aload_n hx hb dX4_row_56 rfl (lv_at hl 0 rfl) ?_
          obtain ⟨z14, e15, h⟩ := bnd h
          refine k_X4_keep F hw e15 ⟨Nat.le_of_ble_eq_true rfl, Nat.le_of_ble_eq_true rfl⟩ ⟨Nat.zero_le _, Nat.zero_le _⟩ hl.1 (Nat.le_of_ble_eq_true rfl) dX4_row_57 (fun H locs hw => ?_)
          refine lv_aload_n hx hb dX4_row_60 rfl (lv_at hl 0 rfl) ?_
          refine m_g2 F hw dX4_row_61 ?_
          refine lv_iload_n hx hb dX4_row_64 rfl (lv_at hl 1 rfl) ?_
          refine lv_iload_n hx hb dX4_row_65 rfl (lv_at hl 2 rfl) ?_
          obtain ⟨g16, h⟩ := gd h
          refine m_s2 F hw g16 dX4_row_66 (fun H locs hw => ?_)
          refine lv_aload_n hx hb dX4_row_67 rfl (lv_at hl 0 rfl) ?_
          refine m_g3 F hw dX4_row_68 ?_
          refine lv_iload_n hx hb dX4_row_71 rfl (lv_at hl 1 rfl) ?_
          refine lv_iload_n hx hb dX4_row_72 rfl (lv_at hl 3 rfl) ?_
          obtain ⟨g17, h⟩ := gd h
          refine m_s3 F hw g17 dX4_row_73 (fun H locs hw => ?_)
          refine lv_aload_n hx hb dX4_row_74 rfl (lv_at hl 0 rfl) ?_
          refine m_g4 F hw dX4_row_75 ?_
          refine lv_iload_n hx hb dX4_row_78 rfl (lv_at hl 1 rfl) ?_
          refine lv_iconst (v := 0) hx hb dX4_row_79 rfl ?_
          obtain ⟨g18, h⟩ := gd h
          refine m_s4 F hw g18 dX4_row_80 (fun H locs hw => ?_)
          refine lv_aload_n hx hb dX4_row_81 rfl (lv_at hl 0 rfl) ?_
          refine m_g6 F hw dX4_row_82 ?_
          refine lv_iload_n hx hb dX4_row_85 rfl (lv_at hl 1 rfl) ?_
          refine lv_iconst (v := 0) hx hb dX4_row_86 rfl ?_
          obtain ⟨g19, h⟩ := gd h
          refine m_s6 F hw g19 dX4_row_87 (fun H locs hw => ?_)
          refine lv_aload_n hx hb dX4_row_88 rfl (lv_at hl 0 rfl) ?_
          refine m_g5 F hw dX4_row_89 ?_
          refine lv_iload_n hx hb dX4_row_92 rfl (lv_at hl 1 rfl) ?_
          refine lv_iconst (v := 0) hx hb dX4_row_93 rfl ?_
          obtain ⟨g20, h⟩ := gd h
          refine m_s5 F hw g20 dX4_row_94 (fun H locs hw => ?_)
          refine lv_iconst (v := 0) hx hb dX4_row_95 rfl ?_
          cases h
          exact retW_i F hw dX4_row_96
        · replace h := itF h c11
          refine lv_bipush (v := (-4)) hx hb dX4_row_47 rfl ?_
          cases h
          exact retW_i F hw dX4_row_49
      · replace h := itT h c9
        refine lv_bipush (v := (-3)) hx hb dX4_row_34 rfl ?_
        cases h
        exact retW_i F hw dX4_row_36
end
theorem c_X4_row {l : Launch} {G : GX} {ad : Nat → Nat} {x1 : Int32} {x2 : Int32} {x3 : Int32} {u : MS} {z : Int32 × MS} (h : f_X4_row x1 x2 x3 u = some z) : MW l yX4_row cX4_row 4 (some .int) rmX4_row G (mw G ad u) (mw G ad z.2) [.ref (ad 0), .int x1, .int x2, .int x3] (some (.int z.1)) := MW.of (by decide) (Nat.le_of_ble_eq_true rfl) (fun p e s m below meth c ls F hw hl => w_X4_row_0 F _ _ _ _ _ _ _ hw hl h)
/-! ===== X4_dealt ===== -/
theorem dX4_dealt_0 : decode cX4_dealt 0 = .ok (.iconst 0, 1) := by decide +kernel
theorem dX4_dealt_1 : decode cX4_dealt 1 = .ok (.istore 8, 2) := by decide +kernel
theorem dX4_dealt_3 : decode cX4_dealt 3 = .ok (.iload 8, 2) := by decide +kernel
theorem dX4_dealt_5 : decode cX4_dealt 5 = .ok (.iload_n 3, 1) := by decide +kernel
theorem dX4_dealt_6 : decode cX4_dealt 6 = .ok (.if_icmp .ge 42, 3) := by decide +kernel
theorem dX4_dealt_9 : decode cX4_dealt 9 = .ok (.aload_n 0, 1) := by decide +kernel
theorem dX4_dealt_10 : decode cX4_dealt 10 = .ok (.getfield 58, 3) := by decide +kernel
theorem dX4_dealt_13 : decode cX4_dealt 13 = .ok (.iload_n 2, 1) := by decide +kernel
theorem dX4_dealt_14 : decode cX4_dealt 14 = .ok (.iload 8, 2) := by decide +kernel
theorem dX4_dealt_16 : decode cX4_dealt 16 = .ok (.iadd, 1) := by decide +kernel
theorem dX4_dealt_17 : decode cX4_dealt 17 = .ok (.lload 4, 2) := by decide +kernel
theorem dX4_dealt_19 : decode cX4_dealt 19 = .ok (.ldc2_w 110, 3) := by decide +kernel
theorem dX4_dealt_22 : decode cX4_dealt 22 = .ok (.iload 8, 2) := by decide +kernel
theorem dX4_dealt_24 : decode cX4_dealt 24 = .ok (.i2l, 1) := by decide +kernel
theorem dX4_dealt_25 : decode cX4_dealt 25 = .ok (.lmul, 1) := by decide +kernel
theorem dX4_dealt_26 : decode cX4_dealt 26 = .ok (.lconst 1, 1) := by decide +kernel
theorem dX4_dealt_27 : decode cX4_dealt 27 = .ok (.ladd, 1) := by decide +kernel
theorem dX4_dealt_28 : decode cX4_dealt 28 = .ok (.lconst 1, 1) := by decide +kernel
theorem dX4_dealt_29 : decode cX4_dealt 29 = .ok (.iload 6, 2) := by decide +kernel
theorem dX4_dealt_31 : decode cX4_dealt 31 = .ok (.lshl, 1) := by decide +kernel
theorem dX4_dealt_32 : decode cX4_dealt 32 = .ok (.lmul, 1) := by decide +kernel
theorem dX4_dealt_33 : decode cX4_dealt 33 = .ok (.ldc2_w 110, 3) := by decide +kernel
theorem dX4_dealt_36 : decode cX4_dealt 36 = .ok (.iload_n 3, 1) := by decide +kernel
theorem dX4_dealt_37 : decode cX4_dealt 37 = .ok (.i2l, 1) := by decide +kernel
theorem dX4_dealt_38 : decode cX4_dealt 38 = .ok (.lmul, 1) := by decide +kernel
theorem dX4_dealt_39 : decode cX4_dealt 39 = .ok (.ldiv, 1) := by decide +kernel
theorem dX4_dealt_40 : decode cX4_dealt 40 = .ok (.ladd, 1) := by decide +kernel
theorem dX4_dealt_41 : decode cX4_dealt 41 = .ok (.lastore, 1) := by decide +kernel
theorem dX4_dealt_42 : decode cX4_dealt 42 = .ok (.iinc 8 1, 3) := by decide +kernel
theorem dX4_dealt_45 : decode cX4_dealt 45 = .ok (.goto (-42), 3) := by decide +kernel
theorem dX4_dealt_48 : decode cX4_dealt 48 = .ok (.aload_n 0, 1) := by decide +kernel
theorem dX4_dealt_49 : decode cX4_dealt 49 = .ok (.dup, 1) := by decide +kernel
theorem dX4_dealt_50 : decode cX4_dealt 50 = .ok (.getfield 75, 3) := by decide +kernel
theorem dX4_dealt_53 : decode cX4_dealt 53 = .ok (.iload 7, 2) := by decide +kernel
theorem dX4_dealt_55 : decode cX4_dealt 55 = .ok (.iadd, 1) := by decide +kernel
theorem dX4_dealt_56 : decode cX4_dealt 56 = .ok (.putfield 75, 3) := by decide +kernel
theorem dX4_dealt_59 : decode cX4_dealt 59 = .ok (.aload_n 0, 1) := by decide +kernel
theorem dX4_dealt_60 : decode cX4_dealt 60 = .ok (.getfield 19, 3) := by decide +kernel
theorem dX4_dealt_63 : decode cX4_dealt 63 = .ok (.iload_n 1, 1) := by decide +kernel
theorem dX4_dealt_64 : decode cX4_dealt 64 = .ok (.iload_n 3, 1) := by decide +kernel
theorem dX4_dealt_65 : decode cX4_dealt 65 = .ok (.aload_n 0, 1) := by decide +kernel
theorem dX4_dealt_66 : decode cX4_dealt 66 = .ok (.getfield 19, 3) := by decide +kernel
theorem dX4_dealt_69 : decode cX4_dealt 69 = .ok (.iload_n 1, 1) := by decide +kernel
theorem dX4_dealt_70 : decode cX4_dealt 70 = .ok (.iaload, 1) := by decide +kernel
theorem dX4_dealt_71 : decode cX4_dealt 71 = .ok (.if_icmp .le 7, 3) := by decide +kernel
theorem dX4_dealt_74 : decode cX4_dealt 74 = .ok (.iload_n 3, 1) := by decide +kernel
theorem dX4_dealt_75 : decode cX4_dealt 75 = .ok (.goto 9, 3) := by decide +kernel
theorem dX4_dealt_78 : decode cX4_dealt 78 = .ok (.aload_n 0, 1) := by decide +kernel
theorem dX4_dealt_79 : decode cX4_dealt 79 = .ok (.getfield 19, 3) := by decide +kernel
theorem dX4_dealt_82 : decode cX4_dealt 82 = .ok (.iload_n 1, 1) := by decide +kernel
theorem dX4_dealt_83 : decode cX4_dealt 83 = .ok (.iaload, 1) := by decide +kernel
theorem dX4_dealt_84 : decode cX4_dealt 84 = .ok (.iastore, 1) := by decide +kernel
theorem dX4_dealt_85 : decode cX4_dealt 85 = .ok (.return_, 1) := by decide +kernel
def rmX4_dealt : Room := { frames := 0, cells := 0, slots := 0, locals := 0 }
noncomputable def f_X4_dealt_3 : Nat → Int32 → Int32 → Int32 → Int64 → Int32 → Int32 → Int32 → MS → Option (MS)
  | 0, _, _, _, _, _, _, _, _ => none
  | n + 1, x1, x2, x3, x4, x6, x7, x8, u => (if x3 ≤ x8 then (if ix x1 8 = true then (if x3 ≤ ((mF u 15 ((u.1 15) + x7)).2.1 5 (Int32.toNatClampNeg x1)) then (if ix x1 8 = true then (if ix x1 8 = true then some (mA (mF u 15 ((u.1 15) + x7)) 5 (Int32.toNatClampNeg x1) ((mF u 15 ((u.1 15) + x7)).2.1 5 (Int32.toNatClampNeg x1))) else none) else none) else (if ix x1 8 = true then some (mA (mF u 15 ((u.1 15) + x7)) 5 (Int32.toNatClampNeg x1) x3) else none)) else none) else (if ¬ (2 * (Int32.toInt64 x3)) = 0 then (if ix (x2 + x8) 601 = true then f_X4_dealt_3 n x1 x2 x3 x4 x6 x7 (x8 + 1) (mB u 21 (Int32.toNatClampNeg (x2 + x8)) (x4 + ((((2 * (Int32.toInt64 x8)) + 1) * ((1 : Int64) <<< (Int32.toInt64 x6 &&& 63))) / (2 * (Int32.toInt64 x3))))) else none) else none))
noncomputable def f_X4_dealt (x1 : Int32) (x2 : Int32) (x3 : Int32) (x4 : Int64) (x6 : Int32) (x7 : Int32) (u : MS) : Option (MS) := f_X4_dealt_3 NF x1 x2 x3 x4 x6 x7 0 u
section
variable {p : Program} {l : Launch} {e : Env} {s : State} {m : MethodId} {args : Array Value} {below : List Frame} {meth : Method} {c : Code}
variable {G : GX} {A : Nat → Prop} {ad : Nat → Nat}
set_option maxHeartbeats 4000000 in
set_option maxRecDepth 100000 in
theorem w_X4_dealt_3 (F : FX p m c cX4_dealt 9 s args yX4_dealt none RX4 meth) {z : MS} : ∀ (n : Nat) (x1 : Int32) (x2 : Int32) (x3 : Int32) (x4 : Int64) (x6 : Int32) (x7 : Int32) (x8 : Int32) (u : MS) (H : Heap) (locs : List Loc) (ls : Array Slot), WD G A s (mw G ad u) H locs → lv_has ls 9 [(0, .ref (ad 0)), (1, .int x1), (2, .int x2), (3, .int x3), (4, .long x4), (6, .int x6), (7, .int x7), (8, .int x8)] → f_X4_dealt_3 n x1 x2 x3 x4 x6 x7 x8 u = some z → W p l e rmX4_dealt s m args below meth c H locs 0 0 (MQ below (QW G (mw G ad z) A none) args s 0 0 A) (F0 m 3 ls []) := by
  obtain ⟨⟨hx, hb, hml, hown, hts⟩, hr, hlocks⟩ := id F
  intro n
  induction n with
  | zero =>
    intro x1 x2 x3 x4 x6 x7 x8 u H locs ls hw hl h
    rw [f_X4_dealt_3] at h
    cases h
  | succ n ih =>
    intro x1 x2 x3 x4 x6 x7 x8 u H locs ls hw hl h
    rw [f_X4_dealt_3] at h
    refine lv_iload hx hb dX4_dealt_3 (lv_at hl 7 rfl) ?_
    refine lv_iload_n hx hb dX4_dealt_5 rfl (lv_at hl 3 rfl) ?_
    refine lv_icmp_ge (tgt := 48) hx hb dX4_dealt_6 rfl (fun c1 => ?_) (fun c1 => ?_)
    · replace h := itT h c1
      refine lv_aload_n hx hb dX4_dealt_48 rfl (lv_at hl 0 rfl) ?_
      refine lv_dup hx hb dX4_dealt_49 rfl ?_
      refine m_g15 F hw dX4_dealt_50 ?_
      refine lv_iload hx hb dX4_dealt_53 (lv_at hl 6 rfl) ?_
      refine lv_iadd hx hb dX4_dealt_55 ?_
      refine m_p15 F hw dX4_dealt_56 (fun H locs hw => ?_)
      refine lv_aload_n hx hb dX4_dealt_59 rfl (lv_at hl 0 rfl) ?_
      refine m_g5 F hw dX4_dealt_60 ?_
      refine lv_iload_n hx hb dX4_dealt_63 rfl (lv_at hl 1 rfl) ?_
      refine lv_iload_n hx hb dX4_dealt_64 rfl (lv_at hl 3 rfl) ?_
      refine lv_aload_n hx hb dX4_dealt_65 rfl (lv_at hl 0 rfl) ?_
      refine m_g5 F hw dX4_dealt_66 ?_
      refine lv_iload_n hx hb dX4_dealt_69 rfl (lv_at hl 1 rfl) ?_
      obtain ⟨g2, h⟩ := gd h
      refine m_l5 F hw g2 dX4_dealt_70 ?_
      refine lv_icmp_le (tgt := 78) hx hb dX4_dealt_71 rfl (fun c3 => ?_) (fun c3 => ?_)
      · replace h := itT h c3
        refine lv_aload_n hx hb dX4_dealt_78 rfl (lv_at hl 0 rfl) ?_
        refine m_g5 F hw dX4_dealt_79 ?_
        refine lv_iload_n hx hb dX4_dealt_82 rfl (lv_at hl 1 rfl) ?_
        obtain ⟨g4, h⟩ := gd h
        refine m_l5 F hw g4 dX4_dealt_83 ?_
        obtain ⟨g5, h⟩ := gd h
        refine m_s5 F hw g5 dX4_dealt_84 (fun H locs hw => ?_)
        cases h
        exact retW_v F hw dX4_dealt_85
      · replace h := itF h c3
        refine lv_iload_n hx hb dX4_dealt_74 rfl (lv_at hl 3 rfl) ?_
        refine lv_goto (tgt := 84) hx hb dX4_dealt_75 rfl ?_
        obtain ⟨g6, h⟩ := gd h
        refine m_s5 F hw g6 dX4_dealt_84 (fun H locs hw => ?_)
        cases h
        exact retW_v F hw dX4_dealt_85
    · replace h := itF h c1
      refine lv_aload_n hx hb dX4_dealt_9 rfl (lv_at hl 0 rfl) ?_
      refine m_g21 F hw dX4_dealt_10 ?_
      refine lv_iload_n hx hb dX4_dealt_13 rfl (lv_at hl 2 rfl) ?_
      refine lv_iload hx hb dX4_dealt_14 (lv_at hl 7 rfl) ?_
      refine lv_iadd hx hb dX4_dealt_16 ?_
      refine lv_lload hx hb dX4_dealt_17 (lv_at hl 4 rfl) ?_
      refine lv_ldc2 (own := RX4) (v := 2) hx hb hown (F.tb (tw 675 (by decide +kernel) rfl)) dX4_dealt_19 ?_
      refine lv_iload hx hb dX4_dealt_22 (lv_at hl 7 rfl) ?_
      refine lv_i2l hx hb dX4_dealt_24 rfl ?_
      refine lv_lmul hx hb dX4_dealt_25 ?_
      refine lv_lconst (v := 1) hx hb dX4_dealt_26 rfl ?_
      refine lv_ladd hx hb dX4_dealt_27 ?_
      refine lv_lconst (v := 1) hx hb dX4_dealt_28 rfl ?_
      refine lv_iload hx hb dX4_dealt_29 (lv_at hl 5 rfl) ?_
      refine lv_lshl hx hb dX4_dealt_31 rfl ?_
      refine lv_lmul hx hb dX4_dealt_32 ?_
      refine lv_ldc2 (own := RX4) (v := 2) hx hb hown (F.tb (tw 675 (by decide +kernel) rfl)) dX4_dealt_33 ?_
      refine lv_iload_n hx hb dX4_dealt_36 rfl (lv_at hl 3 rfl) ?_
      refine lv_i2l hx hb dX4_dealt_37 rfl ?_
      refine lv_lmul hx hb dX4_dealt_38 ?_
      obtain ⟨g7, h⟩ := gd h
      refine lv_ldiv hx hb dX4_dealt_39 g7 ?_
      refine lv_ladd hx hb dX4_dealt_40 ?_
      obtain ⟨g8, h⟩ := gd h
      refine m_s21 F hw g8 dX4_dealt_41 (fun H locs hw => ?_)
      refine lv_iinc (v := (x8 + 1)) (lv' := [(8, .int (x8 + 1)), (0, .ref (ad 0)), (1, .int x1), (2, .int x2), (3, .int x3), (4, .long x4), (6, .int x6), (7, .int x7)]) hx hb dX4_dealt_42 hl (k := 7) rfl rfl (by decide) rfl (fun ls hl => ?_)
      refine lv_goto (tgt := 3) hx hb dX4_dealt_45 rfl ?_
      exact ih _ _ _ _ _ _ _ _ _ _ _ hw (lv_sub hl [1, 2, 3, 4, 5, 6, 7, 0] rfl) h
set_option maxHeartbeats 4000000 in
set_option maxRecDepth 100000 in
theorem w_X4_dealt_0 (F : FX p m c cX4_dealt 9 s args yX4_dealt none RX4 meth) {z : MS} : ∀ (x1 : Int32) (x2 : Int32) (x3 : Int32) (x4 : Int64) (x6 : Int32) (x7 : Int32) (u : MS) (H : Heap) (locs : List Loc) (ls : Array Slot), WD G A s (mw G ad u) H locs → lv_has ls 9 [(0, .ref (ad 0)), (1, .int x1), (2, .int x2), (3, .int x3), (4, .long x4), (6, .int x6), (7, .int x7)] → f_X4_dealt x1 x2 x3 x4 x6 x7 u = some z → W p l e rmX4_dealt s m args below meth c H locs 0 0 (MQ below (QW G (mw G ad z) A none) args s 0 0 A) (F0 m 0 ls []) := by
  obtain ⟨⟨hx, hb, hml, hown, hts⟩, hr, hlocks⟩ := id F
  intro x1 x2 x3 x4 x6 x7 u H locs ls hw hl h
  unfold f_X4_dealt at h
  refine lv_iconst (v := 0) hx hb dX4_dealt_0 rfl ?_
  refine lv_istore (lv' := [(8, .int 0), (0, .ref (ad 0)), (1, .int x1), (2, .int x2), (3, .int x3), (4, .long x4), (6, .int x6), (7, .int x7)]) hx hb dX4_dealt_1 hl (by decide) rfl (fun ls hl => ?_)
  exact w_X4_dealt_3 F NF _ _ _ _ _ _ _ _ _ _ _ hw (lv_sub hl [1, 2, 3, 4, 5, 6, 7, 0] rfl) h
end
theorem c_X4_dealt {l : Launch} {G : GX} {ad : Nat → Nat} {x1 : Int32} {x2 : Int32} {x3 : Int32} {x4 : Int64} {x6 : Int32} {x7 : Int32} {u : MS} {z : MS} (h : f_X4_dealt x1 x2 x3 x4 x6 x7 u = some z) : MW l yX4_dealt cX4_dealt 9 none rmX4_dealt G (mw G ad u) (mw G ad z) [.ref (ad 0), .int x1, .int x2, .int x3, .long x4, .int x6, .int x7] none := MW.of (by decide) (Nat.le_of_ble_eq_true rfl) (fun p e s m below meth c ls F hw hl => w_X4_dealt_0 F _ _ _ _ _ _ _ _ _ _ hw hl h)
theorem yv_X4_dealt : YV RX4 124 yX4_dealt cX4_dealt 9 none 6 := ⟨(tw 683 (by decide +kernel) rfl), (tw 6 (by decide +kernel) rfl), (tw 680 (by decide +kernel) rfl), (tw 682 (by decide +kernel) rfl), (tp 29 (by decide +kernel) rfl), by decide +kernel⟩
theorem k_X4_dealt {p : Program} {l : Launch} {e : Env} {R : Room} {s : State} {m : MethodId} {args : Array Value} {below : List Frame} {meth : Method} {c : Code} {H : Heap} {locs : List Loc} {cells slots : Nat} {Q : State → Prop} {G : GX} {A : Nat → Prop} {ad : Nat → Nat} {cc : ByteArray} {nL pc : Nat} {y0 : MethodName} {ret0 : Option FieldType} {ls : Array Slot} {rest : List Value} {u : MS} {x1 : Int32} {x2 : Int32} {x3 : Int32} {x4 : Int64} {x6 : Int32} {x7 : Int32} {z : MS} (F : FX p m c cc nL s args y0 ret0 RX4 meth) (hw : WD G A s (mw G ad u) H locs) (h : f_X4_dealt x1 x2 x3 x4 x6 x7 u = some z) (hR : rmX4_dealt.frames + 1 ≤ R.frames ∧ 8 + (9 + 11) + rmX4_dealt.locals ≤ R.locals) (hcs : cells ≤ R.cells ∧ slots ≤ R.slots) (hsz : ls.size = nL) (hW : (rest.map fun v => v.category).sum ≤ 8) (hdg : decode cc pc = .ok (.invokevirtual 124, 3)) (kk : ∀ (H : Heap) (locs : List Loc), WD G A s (mw G ad z) H locs → W p l e R s m args below meth c H locs cells slots Q (F0 m (pc + 3) ls (rest))) : W p l e R s m args below meth c H locs cells slots Q (F0 m pc ls (.int x7 :: .int x6 :: .long x4 :: .int x3 :: .int x2 :: .int x1 :: .ref (ad 0) :: rest)) := callW (runV F yv_X4_dealt (c_X4_dealt h) hw.1 hw.2.1 hw.2.2.1 rfl rfl rfl ⟨rfl, rfl⟩ hR hcs rfl hsz rfl hW hdg) hw.2.2.2 hw.2.2.1.own_in (fun H1 l1 hP _ hS => kk H1 l1 ⟨hw.1, hP, hw.2.2.1.addr rfl, hS⟩)
/-! ===== X4_open ===== -/
theorem dX4_open_0 : decode cX4_open 0 = .ok (.aload_n 0, 1) := by decide +kernel
theorem dX4_open_1 : decode cX4_open 1 = .ok (.getfield 112, 3) := by decide +kernel
theorem dX4_open_4 : decode cX4_open 4 = .ok (.istore_n 2, 1) := by decide +kernel
theorem dX4_open_5 : decode cX4_open 5 = .ok (.iload_n 2, 1) := by decide +kernel
theorem dX4_open_6 : decode cX4_open 6 = .ok (.iload_n 1, 1) := by decide +kernel
theorem dX4_open_7 : decode cX4_open 7 = .ok (.if_icmp .le 23, 3) := by decide +kernel
theorem dX4_open_10 : decode cX4_open 10 = .ok (.aload_n 0, 1) := by decide +kernel
theorem dX4_open_11 : decode cX4_open 11 = .ok (.getfield 58, 3) := by decide +kernel
theorem dX4_open_14 : decode cX4_open 14 = .ok (.iload_n 2, 1) := by decide +kernel
theorem dX4_open_15 : decode cX4_open 15 = .ok (.aload_n 0, 1) := by decide +kernel
theorem dX4_open_16 : decode cX4_open 16 = .ok (.getfield 58, 3) := by decide +kernel
theorem dX4_open_19 : decode cX4_open 19 = .ok (.iload_n 2, 1) := by decide +kernel
theorem dX4_open_20 : decode cX4_open 20 = .ok (.iconst 1, 1) := by decide +kernel
theorem dX4_open_21 : decode cX4_open 21 = .ok (.isub, 1) := by decide +kernel
theorem dX4_open_22 : decode cX4_open 22 = .ok (.laload, 1) := by decide +kernel
theorem dX4_open_23 : decode cX4_open 23 = .ok (.lastore, 1) := by decide +kernel
theorem dX4_open_24 : decode cX4_open 24 = .ok (.iinc 2 (-1), 3) := by decide +kernel
theorem dX4_open_27 : decode cX4_open 27 = .ok (.goto (-22), 3) := by decide +kernel
theorem dX4_open_30 : decode cX4_open 30 = .ok (.aload_n 0, 1) := by decide +kernel
theorem dX4_open_31 : decode cX4_open 31 = .ok (.dup, 1) := by decide +kernel
theorem dX4_open_32 : decode cX4_open 32 = .ok (.getfield 112, 3) := by decide +kernel
theorem dX4_open_35 : decode cX4_open 35 = .ok (.iconst 1, 1) := by decide +kernel
theorem dX4_open_36 : decode cX4_open 36 = .ok (.iadd, 1) := by decide +kernel
theorem dX4_open_37 : decode cX4_open 37 = .ok (.putfield 112, 3) := by decide +kernel
theorem dX4_open_40 : decode cX4_open 40 = .ok (.return_, 1) := by decide +kernel
def rmX4_open : Room := { frames := 0, cells := 0, slots := 0, locals := 0 }
noncomputable def f_X4_open_5 : Nat → Int32 → Int32 → MS → Option (MS)
  | 0, _, _, _ => none
  | n + 1, x1, x2, u => (if x2 ≤ x1 then some (mF u 22 ((u.1 22) + 1)) else (if ix (x2 - 1) 601 = true then (if ix x2 601 = true then f_X4_open_5 n x1 (x2 + (-1)) (mB u 21 (Int32.toNatClampNeg x2) (u.2.2 21 (Int32.toNatClampNeg (x2 - 1)))) else none) else none))
noncomputable def f_X4_open (x1 : Int32) (u : MS) : Option (MS) := f_X4_open_5 NF x1 (u.1 22) u
section
variable {p : Program} {l : Launch} {e : Env} {s : State} {m : MethodId} {args : Array Value} {below : List Frame} {meth : Method} {c : Code}
variable {G : GX} {A : Nat → Prop} {ad : Nat → Nat}
set_option maxHeartbeats 4000000 in
set_option maxRecDepth 100000 in
theorem w_X4_open_5 (F : FX p m c cX4_open 3 s args yX4_open none RX4 meth) {z : MS} : ∀ (n : Nat) (x1 : Int32) (x2 : Int32) (u : MS) (H : Heap) (locs : List Loc) (ls : Array Slot), WD G A s (mw G ad u) H locs → lv_has ls 3 [(0, .ref (ad 0)), (1, .int x1), (2, .int x2)] → f_X4_open_5 n x1 x2 u = some z → W p l e rmX4_open s m args below meth c H locs 0 0 (MQ below (QW G (mw G ad z) A none) args s 0 0 A) (F0 m 5 ls []) := by
  obtain ⟨⟨hx, hb, hml, hown, hts⟩, hr, hlocks⟩ := id F
  intro n
  induction n with
  | zero =>
    intro x1 x2 u H locs ls hw hl h
    rw [f_X4_open_5] at h
    cases h
  | succ n ih =>
    intro x1 x2 u H locs ls hw hl h
    rw [f_X4_open_5] at h
    refine lv_iload_n hx hb dX4_open_5 rfl (lv_at hl 2 rfl) ?_
    refine lv_iload_n hx hb dX4_open_6 rfl (lv_at hl 1 rfl) ?_
    refine lv_icmp_le (tgt := 30) hx hb dX4_open_7 rfl (fun c1 => ?_) (fun c1 => ?_)
    · replace h := itT h c1
      refine lv_aload_n hx hb dX4_open_30 rfl (lv_at hl 0 rfl) ?_
      refine lv_dup hx hb dX4_open_31 rfl ?_
      refine m_g22 F hw dX4_open_32 ?_
      refine lv_iconst (v := 1) hx hb dX4_open_35 rfl ?_
      refine lv_iadd hx hb dX4_open_36 ?_
      refine m_p22 F hw dX4_open_37 (fun H locs hw => ?_)
      cases h
      exact retW_v F hw dX4_open_40
    · replace h := itF h c1
      refine lv_aload_n hx hb dX4_open_10 rfl (lv_at hl 0 rfl) ?_
      refine m_g21 F hw dX4_open_11 ?_
      refine lv_iload_n hx hb dX4_open_14 rfl (lv_at hl 2 rfl) ?_
      refine lv_aload_n hx hb dX4_open_15 rfl (lv_at hl 0 rfl) ?_
      refine m_g21 F hw dX4_open_16 ?_
      refine lv_iload_n hx hb dX4_open_19 rfl (lv_at hl 2 rfl) ?_
      refine lv_iconst (v := 1) hx hb dX4_open_20 rfl ?_
      refine lv_isub hx hb dX4_open_21 ?_
      obtain ⟨g2, h⟩ := gd h
      refine m_l21 F hw g2 dX4_open_22 ?_
      obtain ⟨g3, h⟩ := gd h
      refine m_s21 F hw g3 dX4_open_23 (fun H locs hw => ?_)
      refine lv_iinc (v := (x2 + (-1))) (lv' := [(2, .int (x2 + (-1))), (0, .ref (ad 0)), (1, .int x1)]) hx hb dX4_open_24 hl (k := 2) rfl rfl (by decide) rfl (fun ls hl => ?_)
      refine lv_goto (tgt := 5) hx hb dX4_open_27 rfl ?_
      exact ih _ _ _ _ _ _ hw (lv_sub hl [1, 2, 0] rfl) h
set_option maxHeartbeats 4000000 in
set_option maxRecDepth 100000 in
theorem w_X4_open_0 (F : FX p m c cX4_open 3 s args yX4_open none RX4 meth) {z : MS} : ∀ (x1 : Int32) (u : MS) (H : Heap) (locs : List Loc) (ls : Array Slot), WD G A s (mw G ad u) H locs → lv_has ls 3 [(0, .ref (ad 0)), (1, .int x1)] → f_X4_open x1 u = some z → W p l e rmX4_open s m args below meth c H locs 0 0 (MQ below (QW G (mw G ad z) A none) args s 0 0 A) (F0 m 0 ls []) := by
  obtain ⟨⟨hx, hb, hml, hown, hts⟩, hr, hlocks⟩ := id F
  intro x1 u H locs ls hw hl h
  unfold f_X4_open at h
  refine lv_aload_n hx hb dX4_open_0 rfl (lv_at hl 0 rfl) ?_
  refine m_g22 F hw dX4_open_1 ?_
  refine lv_istore_n (lv' := [(2, .int (u.1 22)), (0, .ref (ad 0)), (1, .int x1)]) hx hb dX4_open_4 rfl hl (by decide) rfl (fun ls hl => ?_)
  exact w_X4_open_5 F NF _ _ _ _ _ _ hw (lv_sub hl [1, 2, 0] rfl) h
end
theorem c_X4_open {l : Launch} {G : GX} {ad : Nat → Nat} {x1 : Int32} {u : MS} {z : MS} (h : f_X4_open x1 u = some z) : MW l yX4_open cX4_open 3 none rmX4_open G (mw G ad u) (mw G ad z) [.ref (ad 0), .int x1] none := MW.of (by decide) (Nat.le_of_ble_eq_true rfl) (fun p e s m below meth c ls F hw hl => w_X4_open_0 F _ _ _ _ _ hw hl h)
theorem yv_X4_open : YV RX4 117 yX4_open cX4_open 3 none 1 := ⟨(tw 679 (by decide +kernel) rfl), (tw 6 (by decide +kernel) rfl), (tw 676 (by decide +kernel) rfl), (tw 678 (by decide +kernel) rfl), (tp 28 (by decide +kernel) rfl), by decide +kernel⟩
theorem k_X4_open {p : Program} {l : Launch} {e : Env} {R : Room} {s : State} {m : MethodId} {args : Array Value} {below : List Frame} {meth : Method} {c : Code} {H : Heap} {locs : List Loc} {cells slots : Nat} {Q : State → Prop} {G : GX} {A : Nat → Prop} {ad : Nat → Nat} {cc : ByteArray} {nL pc : Nat} {y0 : MethodName} {ret0 : Option FieldType} {ls : Array Slot} {rest : List Value} {u : MS} {x1 : Int32} {z : MS} (F : FX p m c cc nL s args y0 ret0 RX4 meth) (hw : WD G A s (mw G ad u) H locs) (h : f_X4_open x1 u = some z) (hR : rmX4_open.frames + 1 ≤ R.frames ∧ 8 + (3 + 11) + rmX4_open.locals ≤ R.locals) (hcs : cells ≤ R.cells ∧ slots ≤ R.slots) (hsz : ls.size = nL) (hW : (rest.map fun v => v.category).sum ≤ 8) (hdg : decode cc pc = .ok (.invokevirtual 117, 3)) (kk : ∀ (H : Heap) (locs : List Loc), WD G A s (mw G ad z) H locs → W p l e R s m args below meth c H locs cells slots Q (F0 m (pc + 3) ls (rest))) : W p l e R s m args below meth c H locs cells slots Q (F0 m pc ls (.int x1 :: .ref (ad 0) :: rest)) := callW (runV F yv_X4_open (c_X4_open h) hw.1 hw.2.1 hw.2.2.1 rfl rfl rfl ⟨rfl, rfl⟩ hR hcs rfl hsz rfl hW hdg) hw.2.2.2 hw.2.2.1.own_in (fun H1 l1 hP _ hS => kk H1 l1 ⟨hw.1, hP, hw.2.2.1.addr rfl, hS⟩)
/-! ===== X4_between ===== -/
theorem dX4_between_0 : decode cX4_between 0 = .ok (.iload_n 1, 1) := by decide +kernel
theorem dX4_between_1 : decode cX4_between 1 = .ok (.ifCond .ne 9, 3) := by decide +kernel
theorem dX4_between_4 : decode cX4_between 4 = .ok (.ldc2_w 115, 3) := by decide +kernel
theorem dX4_between_7 : decode cX4_between 7 = .ok (.goto 11, 3) := by decide +kernel
theorem dX4_between_10 : decode cX4_between 10 = .ok (.aload_n 0, 1) := by decide +kernel
theorem dX4_between_11 : decode cX4_between 11 = .ok (.getfield 58, 3) := by decide +kernel
theorem dX4_between_14 : decode cX4_between 14 = .ok (.iload_n 1, 1) := by decide +kernel
theorem dX4_between_15 : decode cX4_between 15 = .ok (.iconst 1, 1) := by decide +kernel
theorem dX4_between_16 : decode cX4_between 16 = .ok (.isub, 1) := by decide +kernel
theorem dX4_between_17 : decode cX4_between 17 = .ok (.laload, 1) := by decide +kernel
theorem dX4_between_18 : decode cX4_between 18 = .ok (.lstore 4, 2) := by decide +kernel
theorem dX4_between_20 : decode cX4_between 20 = .ok (.iload_n 1, 1) := by decide +kernel
theorem dX4_between_21 : decode cX4_between 21 = .ok (.aload_n 0, 1) := by decide +kernel
theorem dX4_between_22 : decode cX4_between 22 = .ok (.getfield 112, 3) := by decide +kernel
theorem dX4_between_25 : decode cX4_between 25 = .ok (.if_icmp .ne 7, 3) := by decide +kernel
theorem dX4_between_28 : decode cX4_between 28 = .ok (.lload_n 2, 1) := by decide +kernel
theorem dX4_between_29 : decode cX4_between 29 = .ok (.goto 9, 3) := by decide +kernel
theorem dX4_between_32 : decode cX4_between 32 = .ok (.aload_n 0, 1) := by decide +kernel
theorem dX4_between_33 : decode cX4_between 33 = .ok (.getfield 58, 3) := by decide +kernel
theorem dX4_between_36 : decode cX4_between 36 = .ok (.iload_n 1, 1) := by decide +kernel
theorem dX4_between_37 : decode cX4_between 37 = .ok (.laload, 1) := by decide +kernel
theorem dX4_between_38 : decode cX4_between 38 = .ok (.lstore 6, 2) := by decide +kernel
theorem dX4_between_40 : decode cX4_between 40 = .ok (.lload 6, 2) := by decide +kernel
theorem dX4_between_42 : decode cX4_between 42 = .ok (.lload 4, 2) := by decide +kernel
theorem dX4_between_44 : decode cX4_between 44 = .ok (.lsub, 1) := by decide +kernel
theorem dX4_between_45 : decode cX4_between 45 = .ok (.ldc2_w 110, 3) := by decide +kernel
theorem dX4_between_48 : decode cX4_between 48 = .ok (.lcmp, 1) := by decide +kernel
theorem dX4_between_49 : decode cX4_between 49 = .ok (.ifCond .ge 5, 3) := by decide +kernel
theorem dX4_between_52 : decode cX4_between 52 = .ok (.iconst 0, 1) := by decide +kernel
theorem dX4_between_53 : decode cX4_between 53 = .ok (.ireturn, 1) := by decide +kernel
theorem dX4_between_54 : decode cX4_between 54 = .ok (.aload_n 0, 1) := by decide +kernel
theorem dX4_between_55 : decode cX4_between 55 = .ok (.iload_n 1, 1) := by decide +kernel
theorem dX4_between_56 : decode cX4_between 56 = .ok (.invokevirtual 117, 3) := by decide +kernel
theorem dX4_between_59 : decode cX4_between 59 = .ok (.aload_n 0, 1) := by decide +kernel
theorem dX4_between_60 : decode cX4_between 60 = .ok (.getfield 58, 3) := by decide +kernel
theorem dX4_between_63 : decode cX4_between 63 = .ok (.iload_n 1, 1) := by decide +kernel
theorem dX4_between_64 : decode cX4_between 64 = .ok (.lload 4, 2) := by decide +kernel
theorem dX4_between_66 : decode cX4_between 66 = .ok (.lload 6, 2) := by decide +kernel
theorem dX4_between_68 : decode cX4_between 68 = .ok (.ladd, 1) := by decide +kernel
theorem dX4_between_69 : decode cX4_between 69 = .ok (.ldc2_w 110, 3) := by decide +kernel
theorem dX4_between_72 : decode cX4_between 72 = .ok (.ldiv, 1) := by decide +kernel
theorem dX4_between_73 : decode cX4_between 73 = .ok (.lastore, 1) := by decide +kernel
theorem dX4_between_74 : decode cX4_between 74 = .ok (.iconst 1, 1) := by decide +kernel
theorem dX4_between_75 : decode cX4_between 75 = .ok (.ireturn, 1) := by decide +kernel
def rmX4_between : Room := { frames := 1, cells := 0, slots := 0, locals := 22 }
noncomputable def f_X4_between_18 (x1 : Int32) (x2 : Int64) (t0 : Int64) (u : MS) : Option (Int32 × MS) := (if x1 = (u.1 22) then (if 0 ≤ (lg_cmp (x2 - t0) 2) then (f_X4_open x1 u).bind (fun z10 => (if ix x1 601 = true then some (1, (mB z10 21 (Int32.toNatClampNeg x1) ((t0 + x2) / 2))) else none)) else some (0, u)) else (if ix x1 601 = true then (if 0 ≤ (lg_cmp ((u.2.2 21 (Int32.toNatClampNeg x1)) - t0) 2) then (f_X4_open x1 u).bind (fun z6 => (if ix x1 601 = true then some (1, (mB z6 21 (Int32.toNatClampNeg x1) ((t0 + (u.2.2 21 (Int32.toNatClampNeg x1))) / 2))) else none)) else some (0, u)) else none))
noncomputable def f_X4_between (x1 : Int32) (x2 : Int64) (u : MS) : Option (Int32 × MS) := (if x1 = 0 then f_X4_between_18 x1 x2 (-1) u else (if ix (x1 - 1) 601 = true then f_X4_between_18 x1 x2 (u.2.2 21 (Int32.toNatClampNeg (x1 - 1))) u else none))
section
variable {p : Program} {l : Launch} {e : Env} {s : State} {m : MethodId} {args : Array Value} {below : List Frame} {meth : Method} {c : Code}
variable {G : GX} {A : Nat → Prop} {ad : Nat → Nat}
set_option maxHeartbeats 4000000 in
set_option maxRecDepth 100000 in
theorem w_X4_between_18 (F : FX p m c cX4_between 8 s args yX4_between (some .boolean) RX4 meth) {z : Int32 × MS} : ∀ (x1 : Int32) (x2 : Int64) (t0 : Int64) (u : MS) (H : Heap) (locs : List Loc) (ls : Array Slot), WD G A s (mw G ad u) H locs → lv_has ls 8 [(0, .ref (ad 0)), (1, .int x1), (2, .long x2)] → f_X4_between_18 x1 x2 t0 u = some z → W p l e rmX4_between s m args below meth c H locs 0 0 (MQ below (QW G (mw G ad z.2) A (some (.int z.1))) args s 0 0 A) (F0 m 18 ls [.long t0]) := by
  obtain ⟨⟨hx, hb, hml, hown, hts⟩, hr, hlocks⟩ := id F
  intro x1 x2 t0 u H locs ls hw hl h
  unfold f_X4_between_18 at h
  refine lv_lstore (lv' := [(4, .long t0), (0, .ref (ad 0)), (1, .int x1), (2, .long x2)]) hx hb dX4_between_18 hl (by decide) rfl (fun ls hl => ?_)
  refine lv_iload_n hx hb dX4_between_20 rfl (lv_at hl 2 rfl) ?_
  refine lv_aload_n hx hb dX4_between_21 rfl (lv_at hl 1 rfl) ?_
  refine m_g22 F hw dX4_between_22 ?_
  refine lv_icmp_ne (tgt := 32) hx hb dX4_between_25 rfl (fun c3 => ?_) (fun c3 => ?_)
  · replace h := itF h c3
    refine lv_aload_n hx hb dX4_between_32 rfl (lv_at hl 1 rfl) ?_
    refine m_g21 F hw dX4_between_33 ?_
    refine lv_iload_n hx hb dX4_between_36 rfl (lv_at hl 2 rfl) ?_
    obtain ⟨g4, h⟩ := gd h
    refine m_l21 F hw g4 dX4_between_37 ?_
    refine lv_lstore (lv' := [(6, .long (u.2.2 21 (Int32.toNatClampNeg x1))), (4, .long t0), (0, .ref (ad 0)), (1, .int x1), (2, .long x2)]) hx hb dX4_between_38 hl (by decide) rfl (fun ls hl => ?_)
    refine lv_lload hx hb dX4_between_40 (lv_at hl 0 rfl) ?_
    refine lv_lload hx hb dX4_between_42 (lv_at hl 1 rfl) ?_
    refine lv_lsub hx hb dX4_between_44 ?_
    refine lv_ldc2 (own := RX4) (v := 2) hx hb hown (F.tb (tw 675 (by decide +kernel) rfl)) dX4_between_45 ?_
    refine W.lcmp hx hb dX4_between_48 ?_
    refine lv_if_ge (tgt := 54) hx hb dX4_between_49 rfl (fun c5 => ?_) (fun c5 => ?_)
    · replace h := itT h c5
      refine lv_aload_n hx hb dX4_between_54 rfl (lv_at hl 2 rfl) ?_
      refine lv_iload_n hx hb dX4_between_55 rfl (lv_at hl 3 rfl) ?_
      obtain ⟨z6, e7, h⟩ := bnd h
      refine k_X4_open F hw e7 ⟨Nat.le_of_ble_eq_true rfl, Nat.le_of_ble_eq_true rfl⟩ ⟨Nat.zero_le _, Nat.zero_le _⟩ hl.1 (Nat.le_of_ble_eq_true rfl) dX4_between_56 (fun H locs hw => ?_)
      refine lv_aload_n hx hb dX4_between_59 rfl (lv_at hl 2 rfl) ?_
      refine m_g21 F hw dX4_between_60 ?_
      refine lv_iload_n hx hb dX4_between_63 rfl (lv_at hl 3 rfl) ?_
      refine lv_lload hx hb dX4_between_64 (lv_at hl 1 rfl) ?_
      refine lv_lload hx hb dX4_between_66 (lv_at hl 0 rfl) ?_
      refine lv_ladd hx hb dX4_between_68 ?_
      refine lv_ldc2 (own := RX4) (v := 2) hx hb hown (F.tb (tw 675 (by decide +kernel) rfl)) dX4_between_69 ?_
      refine lv_ldiv hx hb dX4_between_72 (by decide) ?_
      obtain ⟨g8, h⟩ := gd h
      refine m_s21 F hw g8 dX4_between_73 (fun H locs hw => ?_)
      refine lv_iconst (v := 1) hx hb dX4_between_74 rfl ?_
      cases h
      exact retW_z F hw narrow_b1 dX4_between_75
    · replace h := itF h c5
      refine lv_iconst (v := 0) hx hb dX4_between_52 rfl ?_
      cases h
      exact retW_z F hw narrow_b0 dX4_between_53
  · replace h := itT h c3
    refine lv_lload_n hx hb dX4_between_28 rfl (lv_at hl 3 rfl) ?_
    refine lv_goto (tgt := 38) hx hb dX4_between_29 rfl ?_
    refine lv_lstore (lv' := [(6, .long x2), (4, .long t0), (0, .ref (ad 0)), (1, .int x1), (2, .long x2)]) hx hb dX4_between_38 hl (by decide) rfl (fun ls hl => ?_)
    refine lv_lload hx hb dX4_between_40 (lv_at hl 0 rfl) ?_
    refine lv_lload hx hb dX4_between_42 (lv_at hl 1 rfl) ?_
    refine lv_lsub hx hb dX4_between_44 ?_
    refine lv_ldc2 (own := RX4) (v := 2) hx hb hown (F.tb (tw 675 (by decide +kernel) rfl)) dX4_between_45 ?_
    refine W.lcmp hx hb dX4_between_48 ?_
    refine lv_if_ge (tgt := 54) hx hb dX4_between_49 rfl (fun c9 => ?_) (fun c9 => ?_)
    · replace h := itT h c9
      refine lv_aload_n hx hb dX4_between_54 rfl (lv_at hl 2 rfl) ?_
      refine lv_iload_n hx hb dX4_between_55 rfl (lv_at hl 3 rfl) ?_
      obtain ⟨z10, e11, h⟩ := bnd h
      refine k_X4_open F hw e11 ⟨Nat.le_of_ble_eq_true rfl, Nat.le_of_ble_eq_true rfl⟩ ⟨Nat.zero_le _, Nat.zero_le _⟩ hl.1 (Nat.le_of_ble_eq_true rfl) dX4_between_56 (fun H locs hw => ?_)
      refine lv_aload_n hx hb dX4_between_59 rfl (lv_at hl 2 rfl) ?_
      refine m_g21 F hw dX4_between_60 ?_
      refine lv_iload_n hx hb dX4_between_63 rfl (lv_at hl 3 rfl) ?_
      refine lv_lload hx hb dX4_between_64 (lv_at hl 1 rfl) ?_
      refine lv_lload hx hb dX4_between_66 (lv_at hl 0 rfl) ?_
      refine lv_ladd hx hb dX4_between_68 ?_
      refine lv_ldc2 (own := RX4) (v := 2) hx hb hown (F.tb (tw 675 (by decide +kernel) rfl)) dX4_between_69 ?_
      refine lv_ldiv hx hb dX4_between_72 (by decide) ?_
      obtain ⟨g12, h⟩ := gd h
      refine m_s21 F hw g12 dX4_between_73 (fun H locs hw => ?_)
      refine lv_iconst (v := 1) hx hb dX4_between_74 rfl ?_
      cases h
      exact retW_z F hw narrow_b1 dX4_between_75
    · replace h := itF h c9
      refine lv_iconst (v := 0) hx hb dX4_between_52 rfl ?_
      cases h
      exact retW_z F hw narrow_b0 dX4_between_53
set_option maxHeartbeats 4000000 in
set_option maxRecDepth 100000 in
theorem w_X4_between_0 (F : FX p m c cX4_between 8 s args yX4_between (some .boolean) RX4 meth) {z : Int32 × MS} : ∀ (x1 : Int32) (x2 : Int64) (u : MS) (H : Heap) (locs : List Loc) (ls : Array Slot), WD G A s (mw G ad u) H locs → lv_has ls 8 [(0, .ref (ad 0)), (1, .int x1), (2, .long x2)] → f_X4_between x1 x2 u = some z → W p l e rmX4_between s m args below meth c H locs 0 0 (MQ below (QW G (mw G ad z.2) A (some (.int z.1))) args s 0 0 A) (F0 m 0 ls []) := by
  obtain ⟨⟨hx, hb, hml, hown, hts⟩, hr, hlocks⟩ := id F
  intro x1 x2 u H locs ls hw hl h
  unfold f_X4_between at h
  refine lv_iload_n hx hb dX4_between_0 rfl (lv_at hl 1 rfl) ?_
  refine lv_if_ne (tgt := 10) hx hb dX4_between_1 rfl (fun c1 => ?_) (fun c1 => ?_)
  · replace h := itF h c1
    refine lv_aload_n hx hb dX4_between_10 rfl (lv_at hl 0 rfl) ?_
    refine m_g21 F hw dX4_between_11 ?_
    refine lv_iload_n hx hb dX4_between_14 rfl (lv_at hl 1 rfl) ?_
    refine lv_iconst (v := 1) hx hb dX4_between_15 rfl ?_
    refine lv_isub hx hb dX4_between_16 ?_
    obtain ⟨g2, h⟩ := gd h
    refine m_l21 F hw g2 dX4_between_17 ?_
    exact w_X4_between_18 F _ _ _ _ _ _ _ hw (lv_sub hl [0, 1, 2] rfl) h
  · replace h := itT h c1
    refine lv_ldc2 (own := RX4) (v := (-1)) hx hb hown (F.tb (tw 674 (by decide +kernel) rfl)) dX4_between_4 ?_
    refine lv_goto (tgt := 18) hx hb dX4_between_7 rfl ?_
    exact w_X4_between_18 F _ _ _ _ _ _ _ hw (lv_sub hl [0, 1, 2] rfl) h
end
theorem c_X4_between {l : Launch} {G : GX} {ad : Nat → Nat} {x1 : Int32} {x2 : Int64} {u : MS} {z : Int32 × MS} (h : f_X4_between x1 x2 u = some z) : MW l yX4_between cX4_between 8 (some .boolean) rmX4_between G (mw G ad u) (mw G ad z.2) [.ref (ad 0), .int x1, .long x2] (some (.int z.1)) := MW.of (by decide) (Nat.le_of_ble_eq_true rfl) (fun p e s m below meth c ls F hw hl => w_X4_between_0 F _ _ _ _ _ _ hw hl h)
theorem yv_X4_between : YV RX4 120 yX4_between cX4_between 8 (some .boolean) 2 := ⟨(tw 673 (by decide +kernel) rfl), (tw 6 (by decide +kernel) rfl), (tw 670 (by decide +kernel) rfl), (tw 672 (by decide +kernel) rfl), (tp 27 (by decide +kernel) rfl), by decide +kernel⟩
theorem k_X4_between {p : Program} {l : Launch} {e : Env} {R : Room} {s : State} {m : MethodId} {args : Array Value} {below : List Frame} {meth : Method} {c : Code} {H : Heap} {locs : List Loc} {cells slots : Nat} {Q : State → Prop} {G : GX} {A : Nat → Prop} {ad : Nat → Nat} {cc : ByteArray} {nL pc : Nat} {y0 : MethodName} {ret0 : Option FieldType} {ls : Array Slot} {rest : List Value} {u : MS} {x1 : Int32} {x2 : Int64} {z : Int32 × MS} (F : FX p m c cc nL s args y0 ret0 RX4 meth) (hw : WD G A s (mw G ad u) H locs) (h : f_X4_between x1 x2 u = some z) (hR : rmX4_between.frames + 1 ≤ R.frames ∧ 8 + (8 + 11) + rmX4_between.locals ≤ R.locals) (hcs : cells ≤ R.cells ∧ slots ≤ R.slots) (hsz : ls.size = nL) (hW : (rest.map fun v => v.category).sum ≤ 8) (hdg : decode cc pc = .ok (.invokevirtual 120, 3)) (kk : ∀ (H : Heap) (locs : List Loc), WD G A s (mw G ad z.2) H locs → W p l e R s m args below meth c H locs cells slots Q (F0 m (pc + 3) ls (.int z.1 :: rest))) : W p l e R s m args below meth c H locs cells slots Q (F0 m pc ls (.long x2 :: .int x1 :: .ref (ad 0) :: rest)) := callW (runV F yv_X4_between (c_X4_between h) hw.1 hw.2.1 hw.2.2.1 rfl rfl rfl ⟨rfl, rfl⟩ hR hcs rfl hsz rfl hW hdg) hw.2.2.2 hw.2.2.1.own_in (fun H1 l1 hP _ hS => kk H1 l1 ⟨hw.1, hP, hw.2.2.1.addr rfl, hS⟩)
/-! ===== X4_tight ===== -/
theorem dX4_tight_0 : decode cX4_tight 0 = .ok (.aload_n 0, 1) := by decide +kernel
theorem dX4_tight_1 : decode cX4_tight 1 = .ok (.getfield 13, 3) := by decide +kernel
theorem dX4_tight_4 : decode cX4_tight 4 = .ok (.iload_n 1, 1) := by decide +kernel
theorem dX4_tight_5 : decode cX4_tight 5 = .ok (.iaload, 1) := by decide +kernel
theorem dX4_tight_6 : decode cX4_tight 6 = .ok (.istore_n 3, 1) := by decide +kernel
theorem dX4_tight_7 : decode cX4_tight 7 = .ok (.aload_n 0, 1) := by decide +kernel
theorem dX4_tight_8 : decode cX4_tight 8 = .ok (.iload_n 2, 1) := by decide +kernel
theorem dX4_tight_9 : decode cX4_tight 9 = .ok (.lconst 1, 1) := by decide +kernel
theorem dX4_tight_10 : decode cX4_tight 10 = .ok (.iload_n 3, 1) := by decide +kernel
theorem dX4_tight_11 : decode cX4_tight 11 = .ok (.lshl, 1) := by decide +kernel
theorem dX4_tight_12 : decode cX4_tight 12 = .ok (.invokevirtual 120, 3) := by decide +kernel
theorem dX4_tight_15 : decode cX4_tight 15 = .ok (.ifCond .eq 5, 3) := by decide +kernel
theorem dX4_tight_18 : decode cX4_tight 18 = .ok (.iconst 1, 1) := by decide +kernel
theorem dX4_tight_19 : decode cX4_tight 19 = .ok (.ireturn, 1) := by decide +kernel
theorem dX4_tight_20 : decode cX4_tight 20 = .ok (.aload_n 0, 1) := by decide +kernel
theorem dX4_tight_21 : decode cX4_tight 21 = .ok (.getfield 112, 3) := by decide +kernel
theorem dX4_tight_24 : decode cX4_tight 24 = .ok (.i2l, 1) := by decide +kernel
theorem dX4_tight_25 : decode cX4_tight 25 = .ok (.lconst 1, 1) := by decide +kernel
theorem dX4_tight_26 : decode cX4_tight 26 = .ok (.iload_n 3, 1) := by decide +kernel
theorem dX4_tight_27 : decode cX4_tight 27 = .ok (.lshl, 1) := by decide +kernel
theorem dX4_tight_28 : decode cX4_tight 28 = .ok (.lcmp, 1) := by decide +kernel
theorem dX4_tight_29 : decode cX4_tight 29 = .ok (.ifCond .ne 5, 3) := by decide +kernel
theorem dX4_tight_32 : decode cX4_tight 32 = .ok (.iconst 0, 1) := by decide +kernel
theorem dX4_tight_33 : decode cX4_tight 33 = .ok (.ireturn, 1) := by decide +kernel
theorem dX4_tight_34 : decode cX4_tight 34 = .ok (.aload_n 0, 1) := by decide +kernel
theorem dX4_tight_35 : decode cX4_tight 35 = .ok (.iload_n 2, 1) := by decide +kernel
theorem dX4_tight_36 : decode cX4_tight 36 = .ok (.invokevirtual 117, 3) := by decide +kernel
theorem dX4_tight_39 : decode cX4_tight 39 = .ok (.aload_n 0, 1) := by decide +kernel
theorem dX4_tight_40 : decode cX4_tight 40 = .ok (.iload_n 1, 1) := by decide +kernel
theorem dX4_tight_41 : decode cX4_tight 41 = .ok (.iconst 0, 1) := by decide +kernel
theorem dX4_tight_42 : decode cX4_tight 42 = .ok (.aload_n 0, 1) := by decide +kernel
theorem dX4_tight_43 : decode cX4_tight 43 = .ok (.getfield 112, 3) := by decide +kernel
theorem dX4_tight_46 : decode cX4_tight 46 = .ok (.lconst 0, 1) := by decide +kernel
theorem dX4_tight_47 : decode cX4_tight 47 = .ok (.iload_n 3, 1) := by decide +kernel
theorem dX4_tight_48 : decode cX4_tight 48 = .ok (.aload_n 0, 1) := by decide +kernel
theorem dX4_tight_49 : decode cX4_tight 49 = .ok (.getfield 112, 3) := by decide +kernel
theorem dX4_tight_52 : decode cX4_tight 52 = .ok (.iconst 1, 1) := by decide +kernel
theorem dX4_tight_53 : decode cX4_tight 53 = .ok (.isub, 1) := by decide +kernel
theorem dX4_tight_54 : decode cX4_tight 54 = .ok (.invokevirtual 124, 3) := by decide +kernel
theorem dX4_tight_57 : decode cX4_tight 57 = .ok (.iconst 1, 1) := by decide +kernel
theorem dX4_tight_58 : decode cX4_tight 58 = .ok (.ireturn, 1) := by decide +kernel
def rmX4_tight : Room := { frames := 2, cells := 0, slots := 0, locals := 49 }
noncomputable def f_X4_tight (x1 : Int32) (x2 : Int32) (u : MS) : Option (Int32 × MS) := (if ix x1 8 = true then (f_X4_between x2 ((1 : Int64) <<< (Int32.toInt64 (u.2.1 3 (Int32.toNatClampNeg x1)) &&& 63)) u).bind (fun z2 => (if z2.1 = 0 then (if (lg_cmp (Int32.toInt64 (z2.2.1 22)) ((1 : Int64) <<< (Int32.toInt64 (u.2.1 3 (Int32.toNatClampNeg x1)) &&& 63))) = 0 then some (0, z2.2) else (f_X4_open x2 z2.2).bind (fun z6 => (f_X4_dealt x1 0 (z6.1 22) 0 (u.2.1 3 (Int32.toNatClampNeg x1)) ((z6.1 22) - 1) z6).bind (fun z8 => some (1, z8)))) else some (1, z2.2))) else none)
section
variable {p : Program} {l : Launch} {e : Env} {s : State} {m : MethodId} {args : Array Value} {below : List Frame} {meth : Method} {c : Code}
variable {G : GX} {A : Nat → Prop} {ad : Nat → Nat}
set_option maxHeartbeats 4000000 in
set_option maxRecDepth 100000 in
theorem w_X4_tight_0 (F : FX p m c cX4_tight 4 s args yX4_tight (some .boolean) RX4 meth) {z : Int32 × MS} : ∀ (x1 : Int32) (x2 : Int32) (u : MS) (H : Heap) (locs : List Loc) (ls : Array Slot), WD G A s (mw G ad u) H locs → lv_has ls 4 [(0, .ref (ad 0)), (1, .int x1), (2, .int x2)] → f_X4_tight x1 x2 u = some z → W p l e rmX4_tight s m args below meth c H locs 0 0 (MQ below (QW G (mw G ad z.2) A (some (.int z.1))) args s 0 0 A) (F0 m 0 ls []) := by
  obtain ⟨⟨hx, hb, hml, hown, hts⟩, hr, hlocks⟩ := id F
  intro x1 x2 u H locs ls hw hl h
  unfold f_X4_tight at h
  refine lv_aload_n hx hb dX4_tight_0 rfl (lv_at hl 0 rfl) ?_
  refine m_g3 F hw dX4_tight_1 ?_
  refine lv_iload_n hx hb dX4_tight_4 rfl (lv_at hl 1 rfl) ?_
  obtain ⟨g1, h⟩ := gd h
  refine m_l3 F hw g1 dX4_tight_5 ?_
  refine lv_istore_n (lv' := [(3, .int (u.2.1 3 (Int32.toNatClampNeg x1))), (0, .ref (ad 0)), (1, .int x1), (2, .int x2)]) hx hb dX4_tight_6 rfl hl (by decide) rfl (fun ls hl => ?_)
  refine lv_aload_n hx hb dX4_tight_7 rfl (lv_at hl 1 rfl) ?_
  refine lv_iload_n hx hb dX4_tight_8 rfl (lv_at hl 3 rfl) ?_
  refine lv_lconst (v := 1) hx hb dX4_tight_9 rfl ?_
  refine lv_iload_n hx hb dX4_tight_10 rfl (lv_at hl 0 rfl) ?_
  refine lv_lshl hx hb dX4_tight_11 rfl ?_
  obtain ⟨z2, e3, h⟩ := bnd h
  refine k_X4_between F hw e3 ⟨Nat.le_of_ble_eq_true rfl, Nat.le_of_ble_eq_true rfl⟩ ⟨Nat.zero_le _, Nat.zero_le _⟩ hl.1 (Nat.le_of_ble_eq_true rfl) dX4_tight_12 (fun H locs hw => ?_)
  refine lv_if_eq (tgt := 20) hx hb dX4_tight_15 rfl (fun c4 => ?_) (fun c4 => ?_)
  · replace h := itT h c4
    refine lv_aload_n hx hb dX4_tight_20 rfl (lv_at hl 1 rfl) ?_
    refine m_g22 F hw dX4_tight_21 ?_
    refine lv_i2l hx hb dX4_tight_24 rfl ?_
    refine lv_lconst (v := 1) hx hb dX4_tight_25 rfl ?_
    refine lv_iload_n hx hb dX4_tight_26 rfl (lv_at hl 0 rfl) ?_
    refine lv_lshl hx hb dX4_tight_27 rfl ?_
    refine W.lcmp hx hb dX4_tight_28 ?_
    refine lv_if_ne (tgt := 34) hx hb dX4_tight_29 rfl (fun c5 => ?_) (fun c5 => ?_)
    · replace h := itF h c5
      refine lv_aload_n hx hb dX4_tight_34 rfl (lv_at hl 1 rfl) ?_
      refine lv_iload_n hx hb dX4_tight_35 rfl (lv_at hl 3 rfl) ?_
      obtain ⟨z6, e7, h⟩ := bnd h
      refine k_X4_open F hw e7 ⟨Nat.le_of_ble_eq_true rfl, Nat.le_of_ble_eq_true rfl⟩ ⟨Nat.zero_le _, Nat.zero_le _⟩ hl.1 (Nat.le_of_ble_eq_true rfl) dX4_tight_36 (fun H locs hw => ?_)
      refine lv_aload_n hx hb dX4_tight_39 rfl (lv_at hl 1 rfl) ?_
      refine lv_iload_n hx hb dX4_tight_40 rfl (lv_at hl 2 rfl) ?_
      refine lv_iconst (v := 0) hx hb dX4_tight_41 rfl ?_
      refine lv_aload_n hx hb dX4_tight_42 rfl (lv_at hl 1 rfl) ?_
      refine m_g22 F hw dX4_tight_43 ?_
      refine lv_lconst (v := 0) hx hb dX4_tight_46 rfl ?_
      refine lv_iload_n hx hb dX4_tight_47 rfl (lv_at hl 0 rfl) ?_
      refine lv_aload_n hx hb dX4_tight_48 rfl (lv_at hl 1 rfl) ?_
      refine m_g22 F hw dX4_tight_49 ?_
      refine lv_iconst (v := 1) hx hb dX4_tight_52 rfl ?_
      refine lv_isub hx hb dX4_tight_53 ?_
      obtain ⟨z8, e9, h⟩ := bnd h
      refine k_X4_dealt F hw e9 ⟨Nat.le_of_ble_eq_true rfl, Nat.le_of_ble_eq_true rfl⟩ ⟨Nat.zero_le _, Nat.zero_le _⟩ hl.1 (Nat.le_of_ble_eq_true rfl) dX4_tight_54 (fun H locs hw => ?_)
      refine lv_iconst (v := 1) hx hb dX4_tight_57 rfl ?_
      cases h
      exact retW_z F hw narrow_b1 dX4_tight_58
    · replace h := itT h c5
      refine lv_iconst (v := 0) hx hb dX4_tight_32 rfl ?_
      cases h
      exact retW_z F hw narrow_b0 dX4_tight_33
  · replace h := itF h c4
    refine lv_iconst (v := 1) hx hb dX4_tight_18 rfl ?_
    cases h
    exact retW_z F hw narrow_b1 dX4_tight_19
end
theorem c_X4_tight {l : Launch} {G : GX} {ad : Nat → Nat} {x1 : Int32} {x2 : Int32} {u : MS} {z : Int32 × MS} (h : f_X4_tight x1 x2 u = some z) : MW l yX4_tight cX4_tight 4 (some .boolean) rmX4_tight G (mw G ad u) (mw G ad z.2) [.ref (ad 0), .int x1, .int x2] (some (.int z.1)) := MW.of (by decide) (Nat.le_of_ble_eq_true rfl) (fun p e s m below meth c ls F hw hl => w_X4_tight_0 F _ _ _ _ _ _ hw hl h)
theorem yv_X4_tight : YV RX4 128 yX4_tight cX4_tight 4 (some .boolean) 2 := ⟨(tw 716 (by decide +kernel) rfl), (tw 6 (by decide +kernel) rfl), (tw 713 (by decide +kernel) rfl), (tw 715 (by decide +kernel) rfl), (tp 37 (by decide +kernel) rfl), by decide +kernel⟩
theorem k_X4_tight {p : Program} {l : Launch} {e : Env} {R : Room} {s : State} {m : MethodId} {args : Array Value} {below : List Frame} {meth : Method} {c : Code} {H : Heap} {locs : List Loc} {cells slots : Nat} {Q : State → Prop} {G : GX} {A : Nat → Prop} {ad : Nat → Nat} {cc : ByteArray} {nL pc : Nat} {y0 : MethodName} {ret0 : Option FieldType} {ls : Array Slot} {rest : List Value} {u : MS} {x1 : Int32} {x2 : Int32} {z : Int32 × MS} (F : FX p m c cc nL s args y0 ret0 RX4 meth) (hw : WD G A s (mw G ad u) H locs) (h : f_X4_tight x1 x2 u = some z) (hR : rmX4_tight.frames + 1 ≤ R.frames ∧ 8 + (4 + 11) + rmX4_tight.locals ≤ R.locals) (hcs : cells ≤ R.cells ∧ slots ≤ R.slots) (hsz : ls.size = nL) (hW : (rest.map fun v => v.category).sum ≤ 8) (hdg : decode cc pc = .ok (.invokevirtual 128, 3)) (kk : ∀ (H : Heap) (locs : List Loc), WD G A s (mw G ad z.2) H locs → W p l e R s m args below meth c H locs cells slots Q (F0 m (pc + 3) ls (.int z.1 :: rest))) : W p l e R s m args below meth c H locs cells slots Q (F0 m pc ls (.int x2 :: .int x1 :: .ref (ad 0) :: rest)) := callW (runV F yv_X4_tight (c_X4_tight h) hw.1 hw.2.1 hw.2.2.1 rfl rfl rfl ⟨rfl, rfl⟩ hR hcs rfl hsz rfl hW hdg) hw.2.2.2 hw.2.2.1.own_in (fun H1 l1 hP _ hS => kk H1 l1 ⟨hw.1, hP, hw.2.2.1.addr rfl, hS⟩)
/-! ===== X4_spread ===== -/
theorem dX4_spread_0 : decode cX4_spread 0 = .ok (.aload_n 0, 1) := by decide +kernel
theorem dX4_spread_1 : decode cX4_spread 1 = .ok (.getfield 13, 3) := by decide +kernel
theorem dX4_spread_4 : decode cX4_spread 4 = .ok (.iload_n 1, 1) := by decide +kernel
theorem dX4_spread_5 : decode cX4_spread 5 = .ok (.iaload, 1) := by decide +kernel
theorem dX4_spread_6 : decode cX4_spread 6 = .ok (.istore_n 3, 1) := by decide +kernel
theorem dX4_spread_7 : decode cX4_spread 7 = .ok (.aload_n 0, 1) := by decide +kernel
theorem dX4_spread_8 : decode cX4_spread 8 = .ok (.iload_n 2, 1) := by decide +kernel
theorem dX4_spread_9 : decode cX4_spread 9 = .ok (.lconst 1, 1) := by decide +kernel
theorem dX4_spread_10 : decode cX4_spread 10 = .ok (.iload_n 3, 1) := by decide +kernel
theorem dX4_spread_11 : decode cX4_spread 11 = .ok (.lshl, 1) := by decide +kernel
theorem dX4_spread_12 : decode cX4_spread 12 = .ok (.invokevirtual 120, 3) := by decide +kernel
theorem dX4_spread_15 : decode cX4_spread 15 = .ok (.ifCond .eq 5, 3) := by decide +kernel
theorem dX4_spread_18 : decode cX4_spread 18 = .ok (.iconst 1, 1) := by decide +kernel
theorem dX4_spread_19 : decode cX4_spread 19 = .ok (.ireturn, 1) := by decide +kernel
theorem dX4_spread_20 : decode cX4_spread 20 = .ok (.aload_n 0, 1) := by decide +kernel
theorem dX4_spread_21 : decode cX4_spread 21 = .ok (.getfield 58, 3) := by decide +kernel
theorem dX4_spread_24 : decode cX4_spread 24 = .ok (.iload_n 2, 1) := by decide +kernel
theorem dX4_spread_25 : decode cX4_spread 25 = .ok (.ifCond .le 9, 3) := by decide +kernel
theorem dX4_spread_28 : decode cX4_spread 28 = .ok (.iload_n 2, 1) := by decide +kernel
theorem dX4_spread_29 : decode cX4_spread 29 = .ok (.iconst 1, 1) := by decide +kernel
theorem dX4_spread_30 : decode cX4_spread 30 = .ok (.isub, 1) := by decide +kernel
theorem dX4_spread_31 : decode cX4_spread 31 = .ok (.goto 4, 3) := by decide +kernel
theorem dX4_spread_34 : decode cX4_spread 34 = .ok (.iconst 0, 1) := by decide +kernel
theorem dX4_spread_35 : decode cX4_spread 35 = .ok (.laload, 1) := by decide +kernel
theorem dX4_spread_36 : decode cX4_spread 36 = .ok (.lstore 4, 2) := by decide +kernel
theorem dX4_spread_38 : decode cX4_spread 38 = .ok (.iconst 1, 1) := by decide +kernel
theorem dX4_spread_39 : decode cX4_spread 39 = .ok (.istore 6, 2) := by decide +kernel
theorem dX4_spread_41 : decode cX4_spread 41 = .ok (.iload 6, 2) := by decide +kernel
theorem dX4_spread_43 : decode cX4_spread 43 = .ok (.iload_n 3, 1) := by decide +kernel
theorem dX4_spread_44 : decode cX4_spread 44 = .ok (.if_icmp .gt 160, 3) := by decide +kernel
theorem dX4_spread_47 : decode cX4_spread 47 = .ok (.lload 4, 2) := by decide +kernel
theorem dX4_spread_49 : decode cX4_spread 49 = .ok (.iload 6, 2) := by decide +kernel
theorem dX4_spread_51 : decode cX4_spread 51 = .ok (.lshr, 1) := by decide +kernel
theorem dX4_spread_52 : decode cX4_spread 52 = .ok (.iload 6, 2) := by decide +kernel
theorem dX4_spread_54 : decode cX4_spread 54 = .ok (.lshl, 1) := by decide +kernel
theorem dX4_spread_55 : decode cX4_spread 55 = .ok (.lstore 7, 2) := by decide +kernel
theorem dX4_spread_57 : decode cX4_spread 57 = .ok (.iconst 0, 1) := by decide +kernel
theorem dX4_spread_58 : decode cX4_spread 58 = .ok (.istore 9, 2) := by decide +kernel
theorem dX4_spread_60 : decode cX4_spread 60 = .ok (.iconst 1, 1) := by decide +kernel
theorem dX4_spread_61 : decode cX4_spread 61 = .ok (.istore 10, 2) := by decide +kernel
theorem dX4_spread_63 : decode cX4_spread 63 = .ok (.iconst 0, 1) := by decide +kernel
theorem dX4_spread_64 : decode cX4_spread 64 = .ok (.istore 11, 2) := by decide +kernel
theorem dX4_spread_66 : decode cX4_spread 66 = .ok (.iload 11, 2) := by decide +kernel
theorem dX4_spread_68 : decode cX4_spread 68 = .ok (.aload_n 0, 1) := by decide +kernel
theorem dX4_spread_69 : decode cX4_spread 69 = .ok (.getfield 112, 3) := by decide +kernel
theorem dX4_spread_72 : decode cX4_spread 72 = .ok (.if_icmp .ge 73, 3) := by decide +kernel
theorem dX4_spread_75 : decode cX4_spread 75 = .ok (.aload_n 0, 1) := by decide +kernel
theorem dX4_spread_76 : decode cX4_spread 76 = .ok (.getfield 58, 3) := by decide +kernel
theorem dX4_spread_79 : decode cX4_spread 79 = .ok (.iload 11, 2) := by decide +kernel
theorem dX4_spread_81 : decode cX4_spread 81 = .ok (.laload, 1) := by decide +kernel
theorem dX4_spread_82 : decode cX4_spread 82 = .ok (.iload 6, 2) := by decide +kernel
theorem dX4_spread_84 : decode cX4_spread 84 = .ok (.lshr, 1) := by decide +kernel
theorem dX4_spread_85 : decode cX4_spread 85 = .ok (.iload 6, 2) := by decide +kernel
theorem dX4_spread_87 : decode cX4_spread 87 = .ok (.lshl, 1) := by decide +kernel
theorem dX4_spread_88 : decode cX4_spread 88 = .ok (.lload 7, 2) := by decide +kernel
theorem dX4_spread_90 : decode cX4_spread 90 = .ok (.lcmp, 1) := by decide +kernel
theorem dX4_spread_91 : decode cX4_spread 91 = .ok (.ifCond .ne 7, 3) := by decide +kernel
theorem dX4_spread_94 : decode cX4_spread 94 = .ok (.iconst 1, 1) := by decide +kernel
theorem dX4_spread_95 : decode cX4_spread 95 = .ok (.goto 4, 3) := by decide +kernel
theorem dX4_spread_98 : decode cX4_spread 98 = .ok (.iconst 0, 1) := by decide +kernel
theorem dX4_spread_99 : decode cX4_spread 99 = .ok (.istore 12, 2) := by decide +kernel
theorem dX4_spread_101 : decode cX4_spread 101 = .ok (.iload 9, 2) := by decide +kernel
theorem dX4_spread_103 : decode cX4_spread 103 = .ok (.aload_n 0, 1) := by decide +kernel
theorem dX4_spread_104 : decode cX4_spread 104 = .ok (.getfield 58, 3) := by decide +kernel
theorem dX4_spread_107 : decode cX4_spread 107 = .ok (.iload 11, 2) := by decide +kernel
theorem dX4_spread_109 : decode cX4_spread 109 = .ok (.laload, 1) := by decide +kernel
theorem dX4_spread_110 : decode cX4_spread 110 = .ok (.lload 7, 2) := by decide +kernel
theorem dX4_spread_112 : decode cX4_spread 112 = .ok (.lcmp, 1) := by decide +kernel
theorem dX4_spread_113 : decode cX4_spread 113 = .ok (.ifCond .ge 7, 3) := by decide +kernel
theorem dX4_spread_116 : decode cX4_spread 116 = .ok (.iconst 1, 1) := by decide +kernel
theorem dX4_spread_117 : decode cX4_spread 117 = .ok (.goto 4, 3) := by decide +kernel
theorem dX4_spread_120 : decode cX4_spread 120 = .ok (.iconst 0, 1) := by decide +kernel
theorem dX4_spread_121 : decode cX4_spread 121 = .ok (.iadd, 1) := by decide +kernel
theorem dX4_spread_122 : decode cX4_spread 122 = .ok (.istore 9, 2) := by decide +kernel
theorem dX4_spread_124 : decode cX4_spread 124 = .ok (.iload 10, 2) := by decide +kernel
theorem dX4_spread_126 : decode cX4_spread 126 = .ok (.iload 12, 2) := by decide +kernel
theorem dX4_spread_128 : decode cX4_spread 128 = .ok (.ifCond .eq 7, 3) := by decide +kernel
theorem dX4_spread_131 : decode cX4_spread 131 = .ok (.iconst 1, 1) := by decide +kernel
theorem dX4_spread_132 : decode cX4_spread 132 = .ok (.goto 4, 3) := by decide +kernel
theorem dX4_spread_135 : decode cX4_spread 135 = .ok (.iconst 0, 1) := by decide +kernel
theorem dX4_spread_136 : decode cX4_spread 136 = .ok (.iadd, 1) := by decide +kernel
theorem dX4_spread_137 : decode cX4_spread 137 = .ok (.istore 10, 2) := by decide +kernel
theorem dX4_spread_139 : decode cX4_spread 139 = .ok (.iinc 11 1, 3) := by decide +kernel
theorem dX4_spread_142 : decode cX4_spread 142 = .ok (.goto (-76), 3) := by decide +kernel
theorem dX4_spread_145 : decode cX4_spread 145 = .ok (.iload 10, 2) := by decide +kernel
theorem dX4_spread_147 : decode cX4_spread 147 = .ok (.i2l, 1) := by decide +kernel
theorem dX4_spread_148 : decode cX4_spread 148 = .ok (.ldc2_w 110, 3) := by decide +kernel
theorem dX4_spread_151 : decode cX4_spread 151 = .ok (.lmul, 1) := by decide +kernel
theorem dX4_spread_152 : decode cX4_spread 152 = .ok (.iload_n 3, 1) := by decide +kernel
theorem dX4_spread_153 : decode cX4_spread 153 = .ok (.i2l, 1) := by decide +kernel
theorem dX4_spread_154 : decode cX4_spread 154 = .ok (.lmul, 1) := by decide +kernel
theorem dX4_spread_155 : decode cX4_spread 155 = .ok (.lconst 1, 1) := by decide +kernel
theorem dX4_spread_156 : decode cX4_spread 156 = .ok (.iload 6, 2) := by decide +kernel
theorem dX4_spread_158 : decode cX4_spread 158 = .ok (.lshl, 1) := by decide +kernel
theorem dX4_spread_159 : decode cX4_spread 159 = .ok (.ldc2_w 110, 3) := by decide +kernel
theorem dX4_spread_162 : decode cX4_spread 162 = .ok (.iload_n 3, 1) := by decide +kernel
theorem dX4_spread_163 : decode cX4_spread 163 = .ok (.i2l, 1) := by decide +kernel
theorem dX4_spread_164 : decode cX4_spread 164 = .ok (.lmul, 1) := by decide +kernel
theorem dX4_spread_165 : decode cX4_spread 165 = .ok (.iload 6, 2) := by decide +kernel
theorem dX4_spread_167 : decode cX4_spread 167 = .ok (.i2l, 1) := by decide +kernel
theorem dX4_spread_168 : decode cX4_spread 168 = .ok (.lsub, 1) := by decide +kernel
theorem dX4_spread_169 : decode cX4_spread 169 = .ok (.lmul, 1) := by decide +kernel
theorem dX4_spread_170 : decode cX4_spread 170 = .ok (.lcmp, 1) := by decide +kernel
theorem dX4_spread_171 : decode cX4_spread 171 = .ok (.ifCond .gt 27, 3) := by decide +kernel
theorem dX4_spread_174 : decode cX4_spread 174 = .ok (.aload_n 0, 1) := by decide +kernel
theorem dX4_spread_175 : decode cX4_spread 175 = .ok (.iload_n 2, 1) := by decide +kernel
theorem dX4_spread_176 : decode cX4_spread 176 = .ok (.invokevirtual 117, 3) := by decide +kernel
theorem dX4_spread_179 : decode cX4_spread 179 = .ok (.aload_n 0, 1) := by decide +kernel
theorem dX4_spread_180 : decode cX4_spread 180 = .ok (.iload_n 1, 1) := by decide +kernel
theorem dX4_spread_181 : decode cX4_spread 181 = .ok (.iload 9, 2) := by decide +kernel
theorem dX4_spread_183 : decode cX4_spread 183 = .ok (.iload 10, 2) := by decide +kernel
theorem dX4_spread_185 : decode cX4_spread 185 = .ok (.lload 7, 2) := by decide +kernel
theorem dX4_spread_187 : decode cX4_spread 187 = .ok (.iload 6, 2) := by decide +kernel
theorem dX4_spread_189 : decode cX4_spread 189 = .ok (.iload 10, 2) := by decide +kernel
theorem dX4_spread_191 : decode cX4_spread 191 = .ok (.iconst 1, 1) := by decide +kernel
theorem dX4_spread_192 : decode cX4_spread 192 = .ok (.isub, 1) := by decide +kernel
theorem dX4_spread_193 : decode cX4_spread 193 = .ok (.invokevirtual 124, 3) := by decide +kernel
theorem dX4_spread_196 : decode cX4_spread 196 = .ok (.iconst 1, 1) := by decide +kernel
theorem dX4_spread_197 : decode cX4_spread 197 = .ok (.ireturn, 1) := by decide +kernel
theorem dX4_spread_198 : decode cX4_spread 198 = .ok (.iinc 6 1, 3) := by decide +kernel
theorem dX4_spread_201 : decode cX4_spread 201 = .ok (.goto (-160), 3) := by decide +kernel
theorem dX4_spread_204 : decode cX4_spread 204 = .ok (.iconst 0, 1) := by decide +kernel
theorem dX4_spread_205 : decode cX4_spread 205 = .ok (.ireturn, 1) := by decide +kernel
def rmX4_spread : Room := { frames := 2, cells := 0, slots := 0, locals := 49 }
noncomputable def f_X4_spread_99 (k_41 : Int32 → Int32 → Int32 → Int64 → Int32 → MS → Option (Int32 × MS)) (k_66 : Int32 → Int32 → Int32 → Int64 → Int32 → Int64 → Int32 → Int32 → Int32 → MS → Option (Int32 × MS)) (x1 : Int32) (x2 : Int32) (x3 : Int32) (x4 : Int64) (x6 : Int32) (x7 : Int64) (x9 : Int32) (x10 : Int32) (x11 : Int32) (t0 : Int32) (u : MS) : Option (Int32 × MS) := (if ix x11 601 = true then (if 0 ≤ (lg_cmp (u.2.2 21 (Int32.toNatClampNeg x11)) x7) then (if t0 = 0 then k_66 x1 x2 x3 x4 x6 x7 (x9 + 0) (x10 + 0) (x11 + 1) u else k_66 x1 x2 x3 x4 x6 x7 (x9 + 0) (x10 + 1) (x11 + 1) u) else (if t0 = 0 then k_66 x1 x2 x3 x4 x6 x7 (x9 + 1) (x10 + 0) (x11 + 1) u else k_66 x1 x2 x3 x4 x6 x7 (x9 + 1) (x10 + 1) (x11 + 1) u)) else none)
noncomputable def f_X4_spread_66 (k_41 : Int32 → Int32 → Int32 → Int64 → Int32 → MS → Option (Int32 × MS)) : Nat → Int32 → Int32 → Int32 → Int64 → Int32 → Int64 → Int32 → Int32 → Int32 → MS → Option (Int32 × MS)
  | 0, _, _, _, _, _, _, _, _, _, _ => none
  | n + 1, x1, x2, x3, x4, x6, x7, x9, x10, x11, u => (if (u.1 22) ≤ x11 then (if 0 < (lg_cmp (((Int32.toInt64 x10) * 2) * (Int32.toInt64 x3)) (((1 : Int64) <<< (Int32.toInt64 x6 &&& 63)) * ((2 * (Int32.toInt64 x3)) - (Int32.toInt64 x6)))) then k_41 x1 x2 x3 x4 (x6 + 1) u else (f_X4_open x2 u).bind (fun z11 => (f_X4_dealt x1 x9 x10 x7 x6 (x10 - 1) z11).bind (fun z13 => some (1, z13)))) else (if ix x11 601 = true then (if (lg_cmp (((u.2.2 21 (Int32.toNatClampNeg x11)) >>> (Int32.toInt64 x6 &&& 63)) <<< (Int32.toInt64 x6 &&& 63)) x7) = 0 then f_X4_spread_99 k_41 (f_X4_spread_66 k_41 n) x1 x2 x3 x4 x6 x7 x9 x10 x11 1 u else f_X4_spread_99 k_41 (f_X4_spread_66 k_41 n) x1 x2 x3 x4 x6 x7 x9 x10 x11 0 u) else none))
noncomputable def f_X4_spread_41 : Nat → Int32 → Int32 → Int32 → Int64 → Int32 → MS → Option (Int32 × MS)
  | 0, _, _, _, _, _, _ => none
  | n + 1, x1, x2, x3, x4, x6, u => (if x3 < x6 then some (0, u) else f_X4_spread_66 (f_X4_spread_41 n) NF x1 x2 x3 x4 x6 ((x4 >>> (Int32.toInt64 x6 &&& 63)) <<< (Int32.toInt64 x6 &&& 63)) 0 1 0 u)
noncomputable def f_X4_spread (x1 : Int32) (x2 : Int32) (u : MS) : Option (Int32 × MS) := (if ix x1 8 = true then (f_X4_between x2 ((1 : Int64) <<< (Int32.toInt64 (u.2.1 3 (Int32.toNatClampNeg x1)) &&& 63)) u).bind (fun z2 => (if z2.1 = 0 then (if x2 ≤ 0 then (if ix 0 601 = true then f_X4_spread_41 NF x1 x2 (u.2.1 3 (Int32.toNatClampNeg x1)) (z2.2.2.2 21 (Int32.toNatClampNeg 0)) 1 z2.2 else none) else (if ix (x2 - 1) 601 = true then f_X4_spread_41 NF x1 x2 (u.2.1 3 (Int32.toNatClampNeg x1)) (z2.2.2.2 21 (Int32.toNatClampNeg (x2 - 1))) 1 z2.2 else none)) else some (1, z2.2))) else none)
section
variable {p : Program} {l : Launch} {e : Env} {s : State} {m : MethodId} {args : Array Value} {below : List Frame} {meth : Method} {c : Code}
variable {G : GX} {A : Nat → Prop} {ad : Nat → Nat}
set_option maxHeartbeats 4000000 in
set_option maxRecDepth 100000 in
theorem w_X4_spread_99 (F : FX p m c cX4_spread 13 s args yX4_spread (some .boolean) RX4 meth) {z : Int32 × MS} (k_41 : Int32 → Int32 → Int32 → Int64 → Int32 → MS → Option (Int32 × MS)) (hk_41 : ∀ (x1 : Int32) (x2 : Int32) (x3 : Int32) (x4 : Int64) (x6 : Int32) (u : MS) (H : Heap) (locs : List Loc) (ls : Array Slot), WD G A s (mw G ad u) H locs → lv_has ls 13 [(0, .ref (ad 0)), (1, .int x1), (2, .int x2), (3, .int x3), (4, .long x4), (6, .int x6)] → k_41 x1 x2 x3 x4 x6 u = some z → W p l e rmX4_spread s m args below meth c H locs 0 0 (MQ below (QW G (mw G ad z.2) A (some (.int z.1))) args s 0 0 A) (F0 m 41 ls [])) (k_66 : Int32 → Int32 → Int32 → Int64 → Int32 → Int64 → Int32 → Int32 → Int32 → MS → Option (Int32 × MS)) (hk_66 : ∀ (x1 : Int32) (x2 : Int32) (x3 : Int32) (x4 : Int64) (x6 : Int32) (x7 : Int64) (x9 : Int32) (x10 : Int32) (x11 : Int32) (u : MS) (H : Heap) (locs : List Loc) (ls : Array Slot), WD G A s (mw G ad u) H locs → lv_has ls 13 [(0, .ref (ad 0)), (1, .int x1), (2, .int x2), (3, .int x3), (4, .long x4), (6, .int x6), (7, .long x7), (9, .int x9), (10, .int x10), (11, .int x11)] → k_66 x1 x2 x3 x4 x6 x7 x9 x10 x11 u = some z → W p l e rmX4_spread s m args below meth c H locs 0 0 (MQ below (QW G (mw G ad z.2) A (some (.int z.1))) args s 0 0 A) (F0 m 66 ls [])) : ∀ (x1 : Int32) (x2 : Int32) (x3 : Int32) (x4 : Int64) (x6 : Int32) (x7 : Int64) (x9 : Int32) (x10 : Int32) (x11 : Int32) (t0 : Int32) (u : MS) (H : Heap) (locs : List Loc) (ls : Array Slot), WD G A s (mw G ad u) H locs → lv_has ls 13 [(0, .ref (ad 0)), (1, .int x1), (2, .int x2), (3, .int x3), (4, .long x4), (6, .int x6), (7, .long x7), (9, .int x9), (10, .int x10), (11, .int x11)] → f_X4_spread_99 k_41 k_66 x1 x2 x3 x4 x6 x7 x9 x10 x11 t0 u = some z → W p l e rmX4_spread s m args below meth c H locs 0 0 (MQ below (QW G (mw G ad z.2) A (some (.int z.1))) args s 0 0 A) (F0 m 99 ls [.int t0]) := by
  obtain ⟨⟨hx, hb, hml, hown, hts⟩, hr, hlocks⟩ := id F
  intro x1 x2 x3 x4 x6 x7 x9 x10 x11 t0 u H locs ls hw hl h
  unfold f_X4_spread_99 at h
  refine lv_istore (lv' := [(12, .int t0), (0, .ref (ad 0)), (1, .int x1), (2, .int x2), (3, .int x3), (4, .long x4), (6, .int x6), (7, .long x7), (9, .int x9), (10, .int x10), (11, .int x11)]) hx hb dX4_spread_99 hl (by decide) rfl (fun ls hl => ?_)
  refine lv_iload hx hb dX4_spread_101 (lv_at hl 8 rfl) ?_
  refine lv_aload_n hx hb dX4_spread_103 rfl (lv_at hl 1 rfl) ?_
  refine m_g21 F hw dX4_spread_104 ?_
  refine lv_iload hx hb dX4_spread_107 (lv_at hl 10 rfl) ?_
  obtain ⟨g17, h⟩ := gd h
  refine m_l21 F hw g17 dX4_spread_109 ?_
  refine lv_lload hx hb dX4_spread_110 (lv_at hl 7 rfl) ?_
  refine W.lcmp hx hb dX4_spread_112 ?_
  refine lv_if_ge (tgt := 120) hx hb dX4_spread_113 rfl (fun c18 => ?_) (fun c18 => ?_)
  · replace h := itT h c18
    refine lv_iconst (v := 0) hx hb dX4_spread_120 rfl ?_
    refine lv_iadd hx hb dX4_spread_121 ?_
    refine lv_istore (lv' := [(9, .int (x9 + 0)), (12, .int t0), (0, .ref (ad 0)), (1, .int x1), (2, .int x2), (3, .int x3), (4, .long x4), (6, .int x6), (7, .long x7), (10, .int x10), (11, .int x11)]) hx hb dX4_spread_122 hl (by decide) rfl (fun ls hl => ?_)
    refine lv_iload hx hb dX4_spread_124 (lv_at hl 9 rfl) ?_
    refine lv_iload hx hb dX4_spread_126 (lv_at hl 1 rfl) ?_
    refine lv_if_eq (tgt := 135) hx hb dX4_spread_128 rfl (fun c19 => ?_) (fun c19 => ?_)
    · replace h := itT h c19
      refine lv_iconst (v := 0) hx hb dX4_spread_135 rfl ?_
      refine lv_iadd hx hb dX4_spread_136 ?_
      refine lv_istore (lv' := [(10, .int (x10 + 0)), (9, .int (x9 + 0)), (12, .int t0), (0, .ref (ad 0)), (1, .int x1), (2, .int x2), (3, .int x3), (4, .long x4), (6, .int x6), (7, .long x7), (11, .int x11)]) hx hb dX4_spread_137 hl (by decide) rfl (fun ls hl => ?_)
      refine lv_iinc (v := (x11 + 1)) (lv' := [(11, .int (x11 + 1)), (10, .int (x10 + 0)), (9, .int (x9 + 0)), (12, .int t0), (0, .ref (ad 0)), (1, .int x1), (2, .int x2), (3, .int x3), (4, .long x4), (6, .int x6), (7, .long x7)]) hx hb dX4_spread_139 hl (k := 10) rfl rfl (by decide) rfl (fun ls hl => ?_)
      refine lv_goto (tgt := 66) hx hb dX4_spread_142 rfl ?_
      exact hk_66 _ _ _ _ _ _ _ _ _ _ _ _ _ hw (lv_sub hl [4, 5, 6, 7, 8, 9, 10, 2, 1, 0] rfl) h
    · replace h := itF h c19
      refine lv_iconst (v := 1) hx hb dX4_spread_131 rfl ?_
      refine lv_goto (tgt := 136) hx hb dX4_spread_132 rfl ?_
      refine lv_iadd hx hb dX4_spread_136 ?_
      refine lv_istore (lv' := [(10, .int (x10 + 1)), (9, .int (x9 + 0)), (12, .int t0), (0, .ref (ad 0)), (1, .int x1), (2, .int x2), (3, .int x3), (4, .long x4), (6, .int x6), (7, .long x7), (11, .int x11)]) hx hb dX4_spread_137 hl (by decide) rfl (fun ls hl => ?_)
      refine lv_iinc (v := (x11 + 1)) (lv' := [(11, .int (x11 + 1)), (10, .int (x10 + 1)), (9, .int (x9 + 0)), (12, .int t0), (0, .ref (ad 0)), (1, .int x1), (2, .int x2), (3, .int x3), (4, .long x4), (6, .int x6), (7, .long x7)]) hx hb dX4_spread_139 hl (k := 10) rfl rfl (by decide) rfl (fun ls hl => ?_)
      refine lv_goto (tgt := 66) hx hb dX4_spread_142 rfl ?_
      exact hk_66 _ _ _ _ _ _ _ _ _ _ _ _ _ hw (lv_sub hl [4, 5, 6, 7, 8, 9, 10, 2, 1, 0] rfl) h
  · replace h := itF h c18
    refine lv_iconst (v := 1) hx hb dX4_spread_116 rfl ?_
    refine lv_goto (tgt := 121) hx hb dX4_spread_117 rfl ?_
    refine lv_iadd hx hb dX4_spread_121 ?_
    refine lv_istore (lv' := [(9, .int (x9 + 1)), (12, .int t0), (0, .ref (ad 0)), (1, .int x1), (2, .int x2), (3, .int x3), (4, .long x4), (6, .int x6), (7, .long x7), (10, .int x10), (11, .int x11)]) hx hb dX4_spread_122 hl (by decide) rfl (fun ls hl => ?_)
    refine lv_iload hx hb dX4_spread_124 (lv_at hl 9 rfl) ?_
    refine lv_iload hx hb dX4_spread_126 (lv_at hl 1 rfl) ?_
    refine lv_if_eq (tgt := 135) hx hb dX4_spread_128 rfl (fun c20 => ?_) (fun c20 => ?_)
    · replace h := itT h c20
      refine lv_iconst (v := 0) hx hb dX4_spread_135 rfl ?_
      refine lv_iadd hx hb dX4_spread_136 ?_
      refine lv_istore (lv' := [(10, .int (x10 + 0)), (9, .int (x9 + 1)), (12, .int t0), (0, .ref (ad 0)), (1, .int x1), (2, .int x2), (3, .int x3), (4, .long x4), (6, .int x6), (7, .long x7), (11, .int x11)]) hx hb dX4_spread_137 hl (by decide) rfl (fun ls hl => ?_)
      refine lv_iinc (v := (x11 + 1)) (lv' := [(11, .int (x11 + 1)), (10, .int (x10 + 0)), (9, .int (x9 + 1)), (12, .int t0), (0, .ref (ad 0)), (1, .int x1), (2, .int x2), (3, .int x3), (4, .long x4), (6, .int x6), (7, .long x7)]) hx hb dX4_spread_139 hl (k := 10) rfl rfl (by decide) rfl (fun ls hl => ?_)
      refine lv_goto (tgt := 66) hx hb dX4_spread_142 rfl ?_
      exact hk_66 _ _ _ _ _ _ _ _ _ _ _ _ _ hw (lv_sub hl [4, 5, 6, 7, 8, 9, 10, 2, 1, 0] rfl) h
    · replace h := itF h c20
      refine lv_iconst (v := 1) hx hb dX4_spread_131 rfl ?_
      refine lv_goto (tgt := 136) hx hb dX4_spread_132 rfl ?_
      refine lv_iadd hx hb dX4_spread_136 ?_
      refine lv_istore (lv' := [(10, .int (x10 + 1)), (9, .int (x9 + 1)), (12, .int t0), (0, .ref (ad 0)), (1, .int x1), (2, .int x2), (3, .int x3), (4, .long x4), (6, .int x6), (7, .long x7), (11, .int x11)]) hx hb dX4_spread_137 hl (by decide) rfl (fun ls hl => ?_)
      refine lv_iinc (v := (x11 + 1)) (lv' := [(11, .int (x11 + 1)), (10, .int (x10 + 1)), (9, .int (x9 + 1)), (12, .int t0), (0, .ref (ad 0)), (1, .int x1), (2, .int x2), (3, .int x3), (4, .long x4), (6, .int x6), (7, .long x7)]) hx hb dX4_spread_139 hl (k := 10) rfl rfl (by decide) rfl (fun ls hl => ?_)
      refine lv_goto (tgt := 66) hx hb dX4_spread_142 rfl ?_
      exact hk_66 _ _ _ _ _ _ _ _ _ _ _ _ _ hw (lv_sub hl [4, 5, 6, 7, 8, 9, 10, 2, 1, 0] rfl) h
set_option maxHeartbeats 4000000 in
set_option maxRecDepth 100000 in
theorem w_X4_spread_66 (F : FX p m c cX4_spread 13 s args yX4_spread (some .boolean) RX4 meth) {z : Int32 × MS} (k_41 : Int32 → Int32 → Int32 → Int64 → Int32 → MS → Option (Int32 × MS)) (hk_41 : ∀ (x1 : Int32) (x2 : Int32) (x3 : Int32) (x4 : Int64) (x6 : Int32) (u : MS) (H : Heap) (locs : List Loc) (ls : Array Slot), WD G A s (mw G ad u) H locs → lv_has ls 13 [(0, .ref (ad 0)), (1, .int x1), (2, .int x2), (3, .int x3), (4, .long x4), (6, .int x6)] → k_41 x1 x2 x3 x4 x6 u = some z → W p l e rmX4_spread s m args below meth c H locs 0 0 (MQ below (QW G (mw G ad z.2) A (some (.int z.1))) args s 0 0 A) (F0 m 41 ls [])) : ∀ (n : Nat) (x1 : Int32) (x2 : Int32) (x3 : Int32) (x4 : Int64) (x6 : Int32) (x7 : Int64) (x9 : Int32) (x10 : Int32) (x11 : Int32) (u : MS) (H : Heap) (locs : List Loc) (ls : Array Slot), WD G A s (mw G ad u) H locs → lv_has ls 13 [(0, .ref (ad 0)), (1, .int x1), (2, .int x2), (3, .int x3), (4, .long x4), (6, .int x6), (7, .long x7), (9, .int x9), (10, .int x10), (11, .int x11)] → f_X4_spread_66 k_41 n x1 x2 x3 x4 x6 x7 x9 x10 x11 u = some z → W p l e rmX4_spread s m args below meth c H locs 0 0 (MQ below (QW G (mw G ad z.2) A (some (.int z.1))) args s 0 0 A) (F0 m 66 ls []) := by
  obtain ⟨⟨hx, hb, hml, hown, hts⟩, hr, hlocks⟩ := id F
  intro n
  induction n with
  | zero =>
    intro x1 x2 x3 x4 x6 x7 x9 x10 x11 u H locs ls hw hl h
    rw [f_X4_spread_66] at h
    cases h
  | succ n ih =>
    intro x1 x2 x3 x4 x6 x7 x9 x10 x11 u H locs ls hw hl h
    rw [f_X4_spread_66] at h
    refine lv_iload hx hb dX4_spread_66 (lv_at hl 9 rfl) ?_
    refine lv_aload_n hx hb dX4_spread_68 rfl (lv_at hl 0 rfl) ?_
    refine m_g22 F hw dX4_spread_69 ?_
    refine lv_icmp_ge (tgt := 145) hx hb dX4_spread_72 rfl (fun c9 => ?_) (fun c9 => ?_)
    · replace h := itT h c9
      refine lv_iload hx hb dX4_spread_145 (lv_at hl 8 rfl) ?_
      refine lv_i2l hx hb dX4_spread_147 rfl ?_
      refine lv_ldc2 (own := RX4) (v := 2) hx hb hown (F.tb (tw 675 (by decide +kernel) rfl)) dX4_spread_148 ?_
      refine lv_lmul hx hb dX4_spread_151 ?_
      refine lv_iload_n hx hb dX4_spread_152 rfl (lv_at hl 3 rfl) ?_
      refine lv_i2l hx hb dX4_spread_153 rfl ?_
      refine lv_lmul hx hb dX4_spread_154 ?_
      refine lv_lconst (v := 1) hx hb dX4_spread_155 rfl ?_
      refine lv_iload hx hb dX4_spread_156 (lv_at hl 5 rfl) ?_
      refine lv_lshl hx hb dX4_spread_158 rfl ?_
      refine lv_ldc2 (own := RX4) (v := 2) hx hb hown (F.tb (tw 675 (by decide +kernel) rfl)) dX4_spread_159 ?_
      refine lv_iload_n hx hb dX4_spread_162 rfl (lv_at hl 3 rfl) ?_
      refine lv_i2l hx hb dX4_spread_163 rfl ?_
      refine lv_lmul hx hb dX4_spread_164 ?_
      refine lv_iload hx hb dX4_spread_165 (lv_at hl 5 rfl) ?_
      refine lv_i2l hx hb dX4_spread_167 rfl ?_
      refine lv_lsub hx hb dX4_spread_168 ?_
      refine lv_lmul hx hb dX4_spread_169 ?_
      refine W.lcmp hx hb dX4_spread_170 ?_
      refine lv_if_gt (tgt := 198) hx hb dX4_spread_171 rfl (fun c10 => ?_) (fun c10 => ?_)
      · replace h := itT h c10
        refine lv_iinc (v := (x6 + 1)) (lv' := [(6, .int (x6 + 1)), (0, .ref (ad 0)), (1, .int x1), (2, .int x2), (3, .int x3), (4, .long x4), (7, .long x7), (9, .int x9), (10, .int x10), (11, .int x11)]) hx hb dX4_spread_198 hl (k := 5) rfl rfl (by decide) rfl (fun ls hl => ?_)
        refine lv_goto (tgt := 41) hx hb dX4_spread_201 rfl ?_
        exact hk_41 _ _ _ _ _ _ _ _ _ hw (lv_sub hl [1, 2, 3, 4, 5, 0] rfl) h
      · replace h := itF h c10
        refine lv_aload_n hx hb dX4_spread_174 rfl (lv_at hl 0 rfl) ?_
        refine lv_iload_n hx hb dX4_spread_175 rfl (lv_at hl 2 rfl) ?_
        obtain ⟨z11, e12, h⟩ := bnd h
        refine k_X4_open F hw e12 ⟨Nat.le_of_ble_eq_true rfl, Nat.le_of_ble_eq_true rfl⟩ ⟨Nat.zero_le _, Nat.zero_le _⟩ hl.1 (Nat.le_of_ble_eq_true rfl) dX4_spread_176 (fun H locs hw => ?_)
        refine lv_aload_n hx hb dX4_spread_179 rfl (lv_at hl 0 rfl) ?_
        refine lv_iload_n hx hb dX4_spread_180 rfl (lv_at hl 1 rfl) ?_
        refine lv_iload hx hb dX4_spread_181 (lv_at hl 7 rfl) ?_
        refine lv_iload hx hb dX4_spread_183 (lv_at hl 8 rfl) ?_
        refine lv_lload hx hb dX4_spread_185 (lv_at hl 6 rfl) ?_
        refine lv_iload hx hb dX4_spread_187 (lv_at hl 5 rfl) ?_
        refine lv_iload hx hb dX4_spread_189 (lv_at hl 8 rfl) ?_
        refine lv_iconst (v := 1) hx hb dX4_spread_191 rfl ?_
        refine lv_isub hx hb dX4_spread_192 ?_
        obtain ⟨z13, e14, h⟩ := bnd h
        refine k_X4_dealt F hw e14 ⟨Nat.le_of_ble_eq_true rfl, Nat.le_of_ble_eq_true rfl⟩ ⟨Nat.zero_le _, Nat.zero_le _⟩ hl.1 (Nat.le_of_ble_eq_true rfl) dX4_spread_193 (fun H locs hw => ?_)
        refine lv_iconst (v := 1) hx hb dX4_spread_196 rfl ?_
        cases h
        exact retW_z F hw narrow_b1 dX4_spread_197
    · replace h := itF h c9
      refine lv_aload_n hx hb dX4_spread_75 rfl (lv_at hl 0 rfl) ?_
      refine m_g21 F hw dX4_spread_76 ?_
      refine lv_iload hx hb dX4_spread_79 (lv_at hl 9 rfl) ?_
      obtain ⟨g15, h⟩ := gd h
      refine m_l21 F hw g15 dX4_spread_81 ?_
      refine lv_iload hx hb dX4_spread_82 (lv_at hl 5 rfl) ?_
      refine lv_lshr hx hb dX4_spread_84 rfl ?_
      refine lv_iload hx hb dX4_spread_85 (lv_at hl 5 rfl) ?_
      refine lv_lshl hx hb dX4_spread_87 rfl ?_
      refine lv_lload hx hb dX4_spread_88 (lv_at hl 6 rfl) ?_
      refine W.lcmp hx hb dX4_spread_90 ?_
      refine lv_if_ne (tgt := 98) hx hb dX4_spread_91 rfl (fun c16 => ?_) (fun c16 => ?_)
      · replace h := itF h c16
        refine lv_iconst (v := 0) hx hb dX4_spread_98 rfl ?_
        exact w_X4_spread_99 F k_41 hk_41 (f_X4_spread_66 k_41 n) (fun x1 x2 x3 x4 x6 x7 x9 x10 x11 u H locs ls hw hl h => ih x1 x2 x3 x4 x6 x7 x9 x10 x11 u H locs ls hw hl h) _ _ _ _ _ _ _ _ _ _ _ _ _ _ hw (lv_sub hl [0, 1, 2, 3, 4, 5, 6, 7, 8, 9] rfl) h
      · replace h := itT h c16
        refine lv_iconst (v := 1) hx hb dX4_spread_94 rfl ?_
        refine lv_goto (tgt := 99) hx hb dX4_spread_95 rfl ?_
        exact w_X4_spread_99 F k_41 hk_41 (f_X4_spread_66 k_41 n) (fun x1 x2 x3 x4 x6 x7 x9 x10 x11 u H locs ls hw hl h => ih x1 x2 x3 x4 x6 x7 x9 x10 x11 u H locs ls hw hl h) _ _ _ _ _ _ _ _ _ _ _ _ _ _ hw (lv_sub hl [0, 1, 2, 3, 4, 5, 6, 7, 8, 9] rfl) h
set_option maxHeartbeats 4000000 in
set_option maxRecDepth 100000 in
theorem w_X4_spread_41 (F : FX p m c cX4_spread 13 s args yX4_spread (some .boolean) RX4 meth) {z : Int32 × MS} : ∀ (n : Nat) (x1 : Int32) (x2 : Int32) (x3 : Int32) (x4 : Int64) (x6 : Int32) (u : MS) (H : Heap) (locs : List Loc) (ls : Array Slot), WD G A s (mw G ad u) H locs → lv_has ls 13 [(0, .ref (ad 0)), (1, .int x1), (2, .int x2), (3, .int x3), (4, .long x4), (6, .int x6)] → f_X4_spread_41 n x1 x2 x3 x4 x6 u = some z → W p l e rmX4_spread s m args below meth c H locs 0 0 (MQ below (QW G (mw G ad z.2) A (some (.int z.1))) args s 0 0 A) (F0 m 41 ls []) := by
  obtain ⟨⟨hx, hb, hml, hown, hts⟩, hr, hlocks⟩ := id F
  intro n
  induction n with
  | zero =>
    intro x1 x2 x3 x4 x6 u H locs ls hw hl h
    rw [f_X4_spread_41] at h
    cases h
  | succ n ih =>
    intro x1 x2 x3 x4 x6 u H locs ls hw hl h
    rw [f_X4_spread_41] at h
    refine lv_iload hx hb dX4_spread_41 (lv_at hl 5 rfl) ?_
    refine lv_iload_n hx hb dX4_spread_43 rfl (lv_at hl 3 rfl) ?_
    refine lv_icmp_gt (tgt := 204) hx hb dX4_spread_44 rfl (fun c8 => ?_) (fun c8 => ?_)
    · replace h := itT h c8
      refine lv_iconst (v := 0) hx hb dX4_spread_204 rfl ?_
      cases h
      exact retW_z F hw narrow_b0 dX4_spread_205
    · replace h := itF h c8
      refine lv_lload hx hb dX4_spread_47 (lv_at hl 4 rfl) ?_
      refine lv_iload hx hb dX4_spread_49 (lv_at hl 5 rfl) ?_
      refine lv_lshr hx hb dX4_spread_51 rfl ?_
      refine lv_iload hx hb dX4_spread_52 (lv_at hl 5 rfl) ?_
      refine lv_lshl hx hb dX4_spread_54 rfl ?_
      refine lv_lstore (lv' := [(7, .long ((x4 >>> (Int32.toInt64 x6 &&& 63)) <<< (Int32.toInt64 x6 &&& 63))), (0, .ref (ad 0)), (1, .int x1), (2, .int x2), (3, .int x3), (4, .long x4), (6, .int x6)]) hx hb dX4_spread_55 hl (by decide) rfl (fun ls hl => ?_)
      refine lv_iconst (v := 0) hx hb dX4_spread_57 rfl ?_
      refine lv_istore (lv' := [(9, .int 0), (7, .long ((x4 >>> (Int32.toInt64 x6 &&& 63)) <<< (Int32.toInt64 x6 &&& 63))), (0, .ref (ad 0)), (1, .int x1), (2, .int x2), (3, .int x3), (4, .long x4), (6, .int x6)]) hx hb dX4_spread_58 hl (by decide) rfl (fun ls hl => ?_)
      refine lv_iconst (v := 1) hx hb dX4_spread_60 rfl ?_
      refine lv_istore (lv' := [(10, .int 1), (9, .int 0), (7, .long ((x4 >>> (Int32.toInt64 x6 &&& 63)) <<< (Int32.toInt64 x6 &&& 63))), (0, .ref (ad 0)), (1, .int x1), (2, .int x2), (3, .int x3), (4, .long x4), (6, .int x6)]) hx hb dX4_spread_61 hl (by decide) rfl (fun ls hl => ?_)
      refine lv_iconst (v := 0) hx hb dX4_spread_63 rfl ?_
      refine lv_istore (lv' := [(11, .int 0), (10, .int 1), (9, .int 0), (7, .long ((x4 >>> (Int32.toInt64 x6 &&& 63)) <<< (Int32.toInt64 x6 &&& 63))), (0, .ref (ad 0)), (1, .int x1), (2, .int x2), (3, .int x3), (4, .long x4), (6, .int x6)]) hx hb dX4_spread_64 hl (by decide) rfl (fun ls hl => ?_)
      exact w_X4_spread_66 F (f_X4_spread_41 n) (fun x1 x2 x3 x4 x6 u H locs ls hw hl h => ih x1 x2 x3 x4 x6 u H locs ls hw hl h) NF _ _ _ _ _ _ _ _ _ _ _ _ _ hw (lv_sub hl [4, 5, 6, 7, 8, 9, 3, 2, 1, 0] rfl) h
set_option maxHeartbeats 4000000 in
set_option maxRecDepth 100000 in
theorem w_X4_spread_0 (F : FX p m c cX4_spread 13 s args yX4_spread (some .boolean) RX4 meth) {z : Int32 × MS} : ∀ (x1 : Int32) (x2 : Int32) (u : MS) (H : Heap) (locs : List Loc) (ls : Array Slot), WD G A s (mw G ad u) H locs → lv_has ls 13 [(0, .ref (ad 0)), (1, .int x1), (2, .int x2)] → f_X4_spread x1 x2 u = some z → W p l e rmX4_spread s m args below meth c H locs 0 0 (MQ below (QW G (mw G ad z.2) A (some (.int z.1))) args s 0 0 A) (F0 m 0 ls []) := by
  obtain ⟨⟨hx, hb, hml, hown, hts⟩, hr, hlocks⟩ := id F
  intro x1 x2 u H locs ls hw hl h
  unfold f_X4_spread at h
  refine lv_aload_n hx hb dX4_spread_0 rfl (lv_at hl 0 rfl) ?_
  refine m_g3 F hw dX4_spread_1 ?_
  refine lv_iload_n hx hb dX4_spread_4 rfl (lv_at hl 1 rfl) ?_
  obtain ⟨g1, h⟩ := gd h
  refine m_l3 F hw g1 dX4_spread_5 ?_
  refine lv_istore_n (lv' := [(3, .int (u.2.1 3 (Int32.toNatClampNeg x1))), (0, .ref (ad 0)), (1, .int x1), (2, .int x2)]) hx hb dX4_spread_6 rfl hl (by decide) rfl (fun ls hl => ?_)
  refine lv_aload_n hx hb dX4_spread_7 rfl (lv_at hl 1 rfl) ?_
  refine lv_iload_n hx hb dX4_spread_8 rfl (lv_at hl 3 rfl) ?_
  refine lv_lconst (v := 1) hx hb dX4_spread_9 rfl ?_
  refine lv_iload_n hx hb dX4_spread_10 rfl (lv_at hl 0 rfl) ?_
  refine lv_lshl hx hb dX4_spread_11 rfl ?_
  obtain ⟨z2, e3, h⟩ := bnd h
  refine k_X4_between F hw e3 ⟨Nat.le_of_ble_eq_true rfl, Nat.le_of_ble_eq_true rfl⟩ ⟨Nat.zero_le _, Nat.zero_le _⟩ hl.1 (Nat.le_of_ble_eq_true rfl) dX4_spread_12 (fun H locs hw => ?_)
  refine lv_if_eq (tgt := 20) hx hb dX4_spread_15 rfl (fun c4 => ?_) (fun c4 => ?_)
  · replace h := itT h c4
    refine lv_aload_n hx hb dX4_spread_20 rfl (lv_at hl 1 rfl) ?_
    refine m_g21 F hw dX4_spread_21 ?_
    refine lv_iload_n hx hb dX4_spread_24 rfl (lv_at hl 3 rfl) ?_
    refine lv_if_le (tgt := 34) hx hb dX4_spread_25 rfl (fun c5 => ?_) (fun c5 => ?_)
    · replace h := itT h c5
      refine lv_iconst (v := 0) hx hb dX4_spread_34 rfl ?_
      obtain ⟨g6, h⟩ := gd h
      refine m_l21 F hw g6 dX4_spread_35 ?_
      refine lv_lstore (lv' := [(4, .long (z2.2.2.2 21 (Int32.toNatClampNeg 0))), (3, .int (u.2.1 3 (Int32.toNatClampNeg x1))), (0, .ref (ad 0)), (1, .int x1), (2, .int x2)]) hx hb dX4_spread_36 hl (by decide) rfl (fun ls hl => ?_)
      refine lv_iconst (v := 1) hx hb dX4_spread_38 rfl ?_
      refine lv_istore (lv' := [(6, .int 1), (4, .long (z2.2.2.2 21 (Int32.toNatClampNeg 0))), (3, .int (u.2.1 3 (Int32.toNatClampNeg x1))), (0, .ref (ad 0)), (1, .int x1), (2, .int x2)]) hx hb dX4_spread_39 hl (by decide) rfl (fun ls hl => ?_)
      exact w_X4_spread_41 F NF _ _ _ _ _ _ _ _ _ hw (lv_sub hl [3, 4, 5, 2, 1, 0] rfl) h
    · replace h := itF h c5
      refine lv_iload_n hx hb dX4_spread_28 rfl (lv_at hl 3 rfl) ?_
      refine lv_iconst (v := 1) hx hb dX4_spread_29 rfl ?_
      refine lv_isub hx hb dX4_spread_30 ?_
      refine lv_goto (tgt := 35) hx hb dX4_spread_31 rfl ?_
      obtain ⟨g7, h⟩ := gd h
      refine m_l21 F hw g7 dX4_spread_35 ?_
      refine lv_lstore (lv' := [(4, .long (z2.2.2.2 21 (Int32.toNatClampNeg (x2 - 1)))), (3, .int (u.2.1 3 (Int32.toNatClampNeg x1))), (0, .ref (ad 0)), (1, .int x1), (2, .int x2)]) hx hb dX4_spread_36 hl (by decide) rfl (fun ls hl => ?_)
      refine lv_iconst (v := 1) hx hb dX4_spread_38 rfl ?_
      refine lv_istore (lv' := [(6, .int 1), (4, .long (z2.2.2.2 21 (Int32.toNatClampNeg (x2 - 1)))), (3, .int (u.2.1 3 (Int32.toNatClampNeg x1))), (0, .ref (ad 0)), (1, .int x1), (2, .int x2)]) hx hb dX4_spread_39 hl (by decide) rfl (fun ls hl => ?_)
      exact w_X4_spread_41 F NF _ _ _ _ _ _ _ _ _ hw (lv_sub hl [3, 4, 5, 2, 1, 0] rfl) h
  · replace h := itF h c4
    refine lv_iconst (v := 1) hx hb dX4_spread_18 rfl ?_
    cases h
    exact retW_z F hw narrow_b1 dX4_spread_19
end
theorem c_X4_spread {l : Launch} {G : GX} {ad : Nat → Nat} {x1 : Int32} {x2 : Int32} {u : MS} {z : Int32 × MS} (h : f_X4_spread x1 x2 u = some z) : MW l yX4_spread cX4_spread 13 (some .boolean) rmX4_spread G (mw G ad u) (mw G ad z.2) [.ref (ad 0), .int x1, .int x2] (some (.int z.1)) := MW.of (by decide) (Nat.le_of_ble_eq_true rfl) (fun p e s m below meth c ls F hw hl => w_X4_spread_0 F _ _ _ _ _ _ hw hl h)
theorem yv_X4_spread : YV RX4 132 yX4_spread cX4_spread 13 (some .boolean) 2 := ⟨(tw 669 (by decide +kernel) rfl), (tw 6 (by decide +kernel) rfl), (tw 666 (by decide +kernel) rfl), (tw 668 (by decide +kernel) rfl), (tp 26 (by decide +kernel) rfl), by decide +kernel⟩
theorem k_X4_spread {p : Program} {l : Launch} {e : Env} {R : Room} {s : State} {m : MethodId} {args : Array Value} {below : List Frame} {meth : Method} {c : Code} {H : Heap} {locs : List Loc} {cells slots : Nat} {Q : State → Prop} {G : GX} {A : Nat → Prop} {ad : Nat → Nat} {cc : ByteArray} {nL pc : Nat} {y0 : MethodName} {ret0 : Option FieldType} {ls : Array Slot} {rest : List Value} {u : MS} {x1 : Int32} {x2 : Int32} {z : Int32 × MS} (F : FX p m c cc nL s args y0 ret0 RX4 meth) (hw : WD G A s (mw G ad u) H locs) (h : f_X4_spread x1 x2 u = some z) (hR : rmX4_spread.frames + 1 ≤ R.frames ∧ 8 + (13 + 11) + rmX4_spread.locals ≤ R.locals) (hcs : cells ≤ R.cells ∧ slots ≤ R.slots) (hsz : ls.size = nL) (hW : (rest.map fun v => v.category).sum ≤ 8) (hdg : decode cc pc = .ok (.invokevirtual 132, 3)) (kk : ∀ (H : Heap) (locs : List Loc), WD G A s (mw G ad z.2) H locs → W p l e R s m args below meth c H locs cells slots Q (F0 m (pc + 3) ls (.int z.1 :: rest))) : W p l e R s m args below meth c H locs cells slots Q (F0 m pc ls (.int x2 :: .int x1 :: .ref (ad 0) :: rest)) := callW (runV F yv_X4_spread (c_X4_spread h) hw.1 hw.2.1 hw.2.2.1 rfl rfl rfl ⟨rfl, rfl⟩ hR hcs rfl hsz rfl hW hdg) hw.2.2.2 hw.2.2.1.own_in (fun H1 l1 hP _ hS => kk H1 l1 ⟨hw.1, hP, hw.2.2.1.addr rfl, hS⟩)
/-! ===== X4_shift ===== -/
theorem dX4_shift_0 : decode cX4_shift 0 = .ok (.aload_n 0, 1) := by decide +kernel
theorem dX4_shift_1 : decode cX4_shift 1 = .ok (.getfield 16, 3) := by decide +kernel
theorem dX4_shift_4 : decode cX4_shift 4 = .ok (.iload_n 1, 1) := by decide +kernel
theorem dX4_shift_5 : decode cX4_shift 5 = .ok (.iaload, 1) := by decide +kernel
theorem dX4_shift_6 : decode cX4_shift 6 = .ok (.istore 4, 2) := by decide +kernel
theorem dX4_shift_8 : decode cX4_shift 8 = .ok (.iload 4, 2) := by decide +kernel
theorem dX4_shift_10 : decode cX4_shift 10 = .ok (.iload_n 2, 1) := by decide +kernel
theorem dX4_shift_11 : decode cX4_shift 11 = .ok (.if_icmp .le 37, 3) := by decide +kernel
theorem dX4_shift_14 : decode cX4_shift 14 = .ok (.aload_n 0, 1) := by decide +kernel
theorem dX4_shift_15 : decode cX4_shift 15 = .ok (.getfield 25, 3) := by decide +kernel
theorem dX4_shift_18 : decode cX4_shift 18 = .ok (.sipush 600, 3) := by decide +kernel
theorem dX4_shift_21 : decode cX4_shift 21 = .ok (.iload_n 1, 1) := by decide +kernel
theorem dX4_shift_22 : decode cX4_shift 22 = .ok (.imul, 1) := by decide +kernel
theorem dX4_shift_23 : decode cX4_shift 23 = .ok (.iload 4, 2) := by decide +kernel
theorem dX4_shift_25 : decode cX4_shift 25 = .ok (.iadd, 1) := by decide +kernel
theorem dX4_shift_26 : decode cX4_shift 26 = .ok (.aload_n 0, 1) := by decide +kernel
theorem dX4_shift_27 : decode cX4_shift 27 = .ok (.getfield 25, 3) := by decide +kernel
theorem dX4_shift_30 : decode cX4_shift 30 = .ok (.sipush 600, 3) := by decide +kernel
theorem dX4_shift_33 : decode cX4_shift 33 = .ok (.iload_n 1, 1) := by decide +kernel
theorem dX4_shift_34 : decode cX4_shift 34 = .ok (.imul, 1) := by decide +kernel
theorem dX4_shift_35 : decode cX4_shift 35 = .ok (.iload 4, 2) := by decide +kernel
theorem dX4_shift_37 : decode cX4_shift 37 = .ok (.iadd, 1) := by decide +kernel
theorem dX4_shift_38 : decode cX4_shift 38 = .ok (.iconst 1, 1) := by decide +kernel
theorem dX4_shift_39 : decode cX4_shift 39 = .ok (.isub, 1) := by decide +kernel
theorem dX4_shift_40 : decode cX4_shift 40 = .ok (.iaload, 1) := by decide +kernel
theorem dX4_shift_41 : decode cX4_shift 41 = .ok (.iastore, 1) := by decide +kernel
theorem dX4_shift_42 : decode cX4_shift 42 = .ok (.iinc 4 (-1), 3) := by decide +kernel
theorem dX4_shift_45 : decode cX4_shift 45 = .ok (.goto (-37), 3) := by decide +kernel
theorem dX4_shift_48 : decode cX4_shift 48 = .ok (.aload_n 0, 1) := by decide +kernel
theorem dX4_shift_49 : decode cX4_shift 49 = .ok (.getfield 25, 3) := by decide +kernel
theorem dX4_shift_52 : decode cX4_shift 52 = .ok (.sipush 600, 3) := by decide +kernel
theorem dX4_shift_55 : decode cX4_shift 55 = .ok (.iload_n 1, 1) := by decide +kernel
theorem dX4_shift_56 : decode cX4_shift 56 = .ok (.imul, 1) := by decide +kernel
theorem dX4_shift_57 : decode cX4_shift 57 = .ok (.iload_n 2, 1) := by decide +kernel
theorem dX4_shift_58 : decode cX4_shift 58 = .ok (.iadd, 1) := by decide +kernel
theorem dX4_shift_59 : decode cX4_shift 59 = .ok (.iload_n 3, 1) := by decide +kernel
theorem dX4_shift_60 : decode cX4_shift 60 = .ok (.iastore, 1) := by decide +kernel
theorem dX4_shift_61 : decode cX4_shift 61 = .ok (.aload_n 0, 1) := by decide +kernel
theorem dX4_shift_62 : decode cX4_shift 62 = .ok (.getfield 16, 3) := by decide +kernel
theorem dX4_shift_65 : decode cX4_shift 65 = .ok (.iload_n 1, 1) := by decide +kernel
theorem dX4_shift_66 : decode cX4_shift 66 = .ok (.dup2, 1) := by decide +kernel
theorem dX4_shift_67 : decode cX4_shift 67 = .ok (.iaload, 1) := by decide +kernel
theorem dX4_shift_68 : decode cX4_shift 68 = .ok (.iconst 1, 1) := by decide +kernel
theorem dX4_shift_69 : decode cX4_shift 69 = .ok (.iadd, 1) := by decide +kernel
theorem dX4_shift_70 : decode cX4_shift 70 = .ok (.iastore, 1) := by decide +kernel
theorem dX4_shift_71 : decode cX4_shift 71 = .ok (.return_, 1) := by decide +kernel
def rmX4_shift : Room := { frames := 0, cells := 0, slots := 0, locals := 0 }
noncomputable def f_X4_shift_8 : Nat → Int32 → Int32 → Int32 → Int32 → MS → Option (MS)
  | 0, _, _, _, _, _ => none
  | n + 1, x1, x2, x3, x4, u => (if x4 ≤ x2 then (if ix ((600 * x1) + x2) 4800 = true then (if ix x1 8 = true then (if ix x1 8 = true then some (mA (mA u 7 (Int32.toNatClampNeg ((600 * x1) + x2)) x3) 4 (Int32.toNatClampNeg x1) (((mA u 7 (Int32.toNatClampNeg ((600 * x1) + x2)) x3).2.1 4 (Int32.toNatClampNeg x1)) + 1)) else none) else none) else none) else (if ix (((600 * x1) + x4) - 1) 4800 = true then (if ix ((600 * x1) + x4) 4800 = true then f_X4_shift_8 n x1 x2 x3 (x4 + (-1)) (mA u 7 (Int32.toNatClampNeg ((600 * x1) + x4)) (u.2.1 7 (Int32.toNatClampNeg (((600 * x1) + x4) - 1)))) else none) else none))
noncomputable def f_X4_shift (x1 : Int32) (x2 : Int32) (x3 : Int32) (u : MS) : Option (MS) := (if ix x1 8 = true then f_X4_shift_8 NF x1 x2 x3 (u.2.1 4 (Int32.toNatClampNeg x1)) u else none)
section
variable {p : Program} {l : Launch} {e : Env} {s : State} {m : MethodId} {args : Array Value} {below : List Frame} {meth : Method} {c : Code}
variable {G : GX} {A : Nat → Prop} {ad : Nat → Nat}
set_option maxHeartbeats 4000000 in
set_option maxRecDepth 100000 in
theorem w_X4_shift_8 (F : FX p m c cX4_shift 5 s args yX4_shift none RX4 meth) {z : MS} : ∀ (n : Nat) (x1 : Int32) (x2 : Int32) (x3 : Int32) (x4 : Int32) (u : MS) (H : Heap) (locs : List Loc) (ls : Array Slot), WD G A s (mw G ad u) H locs → lv_has ls 5 [(0, .ref (ad 0)), (1, .int x1), (2, .int x2), (3, .int x3), (4, .int x4)] → f_X4_shift_8 n x1 x2 x3 x4 u = some z → W p l e rmX4_shift s m args below meth c H locs 0 0 (MQ below (QW G (mw G ad z) A none) args s 0 0 A) (F0 m 8 ls []) := by
  obtain ⟨⟨hx, hb, hml, hown, hts⟩, hr, hlocks⟩ := id F
  intro n
  induction n with
  | zero =>
    intro x1 x2 x3 x4 u H locs ls hw hl h
    rw [f_X4_shift_8] at h
    cases h
  | succ n ih =>
    intro x1 x2 x3 x4 u H locs ls hw hl h
    rw [f_X4_shift_8] at h
    refine lv_iload hx hb dX4_shift_8 (lv_at hl 4 rfl) ?_
    refine lv_iload_n hx hb dX4_shift_10 rfl (lv_at hl 2 rfl) ?_
    refine lv_icmp_le (tgt := 48) hx hb dX4_shift_11 rfl (fun c2 => ?_) (fun c2 => ?_)
    · replace h := itT h c2
      refine lv_aload_n hx hb dX4_shift_48 rfl (lv_at hl 0 rfl) ?_
      refine m_g7 F hw dX4_shift_49 ?_
      refine lv_sipush (v := 600) hx hb dX4_shift_52 rfl ?_
      refine lv_iload_n hx hb dX4_shift_55 rfl (lv_at hl 1 rfl) ?_
      refine lv_imul hx hb dX4_shift_56 ?_
      refine lv_iload_n hx hb dX4_shift_57 rfl (lv_at hl 2 rfl) ?_
      refine lv_iadd hx hb dX4_shift_58 ?_
      refine lv_iload_n hx hb dX4_shift_59 rfl (lv_at hl 3 rfl) ?_
      obtain ⟨g3, h⟩ := gd h
      refine m_s7 F hw g3 dX4_shift_60 (fun H locs hw => ?_)
      refine lv_aload_n hx hb dX4_shift_61 rfl (lv_at hl 0 rfl) ?_
      refine m_g4 F hw dX4_shift_62 ?_
      refine lv_iload_n hx hb dX4_shift_65 rfl (lv_at hl 1 rfl) ?_
      refine lv_dup2_11 hx hb dX4_shift_66 rfl rfl ?_
      obtain ⟨g4, h⟩ := gd h
      refine m_l4 F hw g4 dX4_shift_67 ?_
      refine lv_iconst (v := 1) hx hb dX4_shift_68 rfl ?_
      refine lv_iadd hx hb dX4_shift_69 ?_
      obtain ⟨g5, h⟩ := gd h
      refine m_s4 F hw g5 dX4_shift_70 (fun H locs hw => ?_)
      cases h
      exact retW_v F hw dX4_shift_71
    · replace h := itF h c2
      refine lv_aload_n hx hb dX4_shift_14 rfl (lv_at hl 0 rfl) ?_
      refine m_g7 F hw dX4_shift_15 ?_
      refine lv_sipush (v := 600) hx hb dX4_shift_18 rfl ?_
      refine lv_iload_n hx hb dX4_shift_21 rfl (lv_at hl 1 rfl) ?_
      refine lv_imul hx hb dX4_shift_22 ?_
      refine lv_iload hx hb dX4_shift_23 (lv_at hl 4 rfl) ?_
      refine lv_iadd hx hb dX4_shift_25 ?_
      refine lv_aload_n hx hb dX4_shift_26 rfl (lv_at hl 0 rfl) ?_
      refine m_g7 F hw dX4_shift_27 ?_
      refine lv_sipush (v := 600) hx hb dX4_shift_30 rfl ?_
      refine lv_iload_n hx hb dX4_shift_33 rfl (lv_at hl 1 rfl) ?_
      refine lv_imul hx hb dX4_shift_34 ?_
      refine lv_iload hx hb dX4_shift_35 (lv_at hl 4 rfl) ?_
      refine lv_iadd hx hb dX4_shift_37 ?_
      refine lv_iconst (v := 1) hx hb dX4_shift_38 rfl ?_
      refine lv_isub hx hb dX4_shift_39 ?_
      obtain ⟨g6, h⟩ := gd h
      refine m_l7 F hw g6 dX4_shift_40 ?_
      obtain ⟨g7, h⟩ := gd h
      refine m_s7 F hw g7 dX4_shift_41 (fun H locs hw => ?_)
      refine lv_iinc (v := (x4 + (-1))) (lv' := [(4, .int (x4 + (-1))), (0, .ref (ad 0)), (1, .int x1), (2, .int x2), (3, .int x3)]) hx hb dX4_shift_42 hl (k := 4) rfl rfl (by decide) rfl (fun ls hl => ?_)
      refine lv_goto (tgt := 8) hx hb dX4_shift_45 rfl ?_
      exact ih _ _ _ _ _ _ _ _ hw (lv_sub hl [1, 2, 3, 4, 0] rfl) h
set_option maxHeartbeats 4000000 in
set_option maxRecDepth 100000 in
theorem w_X4_shift_0 (F : FX p m c cX4_shift 5 s args yX4_shift none RX4 meth) {z : MS} : ∀ (x1 : Int32) (x2 : Int32) (x3 : Int32) (u : MS) (H : Heap) (locs : List Loc) (ls : Array Slot), WD G A s (mw G ad u) H locs → lv_has ls 5 [(0, .ref (ad 0)), (1, .int x1), (2, .int x2), (3, .int x3)] → f_X4_shift x1 x2 x3 u = some z → W p l e rmX4_shift s m args below meth c H locs 0 0 (MQ below (QW G (mw G ad z) A none) args s 0 0 A) (F0 m 0 ls []) := by
  obtain ⟨⟨hx, hb, hml, hown, hts⟩, hr, hlocks⟩ := id F
  intro x1 x2 x3 u H locs ls hw hl h
  unfold f_X4_shift at h
  refine lv_aload_n hx hb dX4_shift_0 rfl (lv_at hl 0 rfl) ?_
  refine m_g4 F hw dX4_shift_1 ?_
  refine lv_iload_n hx hb dX4_shift_4 rfl (lv_at hl 1 rfl) ?_
  obtain ⟨g1, h⟩ := gd h
  refine m_l4 F hw g1 dX4_shift_5 ?_
  refine lv_istore (lv' := [(4, .int (u.2.1 4 (Int32.toNatClampNeg x1))), (0, .ref (ad 0)), (1, .int x1), (2, .int x2), (3, .int x3)]) hx hb dX4_shift_6 hl (by decide) rfl (fun ls hl => ?_)
  exact w_X4_shift_8 F NF _ _ _ _ _ _ _ _ hw (lv_sub hl [1, 2, 3, 4, 0] rfl) h
end
theorem c_X4_shift {l : Launch} {G : GX} {ad : Nat → Nat} {x1 : Int32} {x2 : Int32} {x3 : Int32} {u : MS} {z : MS} (h : f_X4_shift x1 x2 x3 u = some z) : MW l yX4_shift cX4_shift 5 none rmX4_shift G (mw G ad u) (mw G ad z) [.ref (ad 0), .int x1, .int x2, .int x3] none := MW.of (by decide) (Nat.le_of_ble_eq_true rfl) (fun p e s m below meth c ls F hw hl => w_X4_shift_0 F _ _ _ _ _ _ _ hw hl h)
theorem yv_X4_shift : YV RX4 135 yX4_shift cX4_shift 5 none 3 := ⟨(tw 687 (by decide +kernel) rfl), (tw 6 (by decide +kernel) rfl), (tw 684 (by decide +kernel) rfl), (tw 686 (by decide +kernel) rfl), (tp 30 (by decide +kernel) rfl), by decide +kernel⟩
theorem k_X4_shift {p : Program} {l : Launch} {e : Env} {R : Room} {s : State} {m : MethodId} {args : Array Value} {below : List Frame} {meth : Method} {c : Code} {H : Heap} {locs : List Loc} {cells slots : Nat} {Q : State → Prop} {G : GX} {A : Nat → Prop} {ad : Nat → Nat} {cc : ByteArray} {nL pc : Nat} {y0 : MethodName} {ret0 : Option FieldType} {ls : Array Slot} {rest : List Value} {u : MS} {x1 : Int32} {x2 : Int32} {x3 : Int32} {z : MS} (F : FX p m c cc nL s args y0 ret0 RX4 meth) (hw : WD G A s (mw G ad u) H locs) (h : f_X4_shift x1 x2 x3 u = some z) (hR : rmX4_shift.frames + 1 ≤ R.frames ∧ 8 + (5 + 11) + rmX4_shift.locals ≤ R.locals) (hcs : cells ≤ R.cells ∧ slots ≤ R.slots) (hsz : ls.size = nL) (hW : (rest.map fun v => v.category).sum ≤ 8) (hdg : decode cc pc = .ok (.invokevirtual 135, 3)) (kk : ∀ (H : Heap) (locs : List Loc), WD G A s (mw G ad z) H locs → W p l e R s m args below meth c H locs cells slots Q (F0 m (pc + 3) ls (rest))) : W p l e R s m args below meth c H locs cells slots Q (F0 m pc ls (.int x3 :: .int x2 :: .int x1 :: .ref (ad 0) :: rest)) := callW (runV F yv_X4_shift (c_X4_shift h) hw.1 hw.2.1 hw.2.2.1 rfl rfl rfl ⟨rfl, rfl⟩ hR hcs rfl hsz rfl hW hdg) hw.2.2.2 hw.2.2.1.own_in (fun H1 l1 hP _ hS => kk H1 l1 ⟨hw.1, hP, hw.2.2.1.addr rfl, hS⟩)
/-! ===== X4_comeByLabel ===== -/
theorem dX4_comeByLabel_0 : decode cX4_comeByLabel 0 = .ok (.aload_n 0, 1) := by decide +kernel
theorem dX4_comeByLabel_1 : decode cX4_comeByLabel 1 = .ok (.aload_n 0, 1) := by decide +kernel
theorem dX4_comeByLabel_2 : decode cX4_comeByLabel 2 = .ok (.getfield 16, 3) := by decide +kernel
theorem dX4_comeByLabel_5 : decode cX4_comeByLabel 5 = .ok (.iload_n 1, 1) := by decide +kernel
theorem dX4_comeByLabel_6 : decode cX4_comeByLabel 6 = .ok (.iaload, 1) := by decide +kernel
theorem dX4_comeByLabel_7 : decode cX4_comeByLabel 7 = .ok (.putfield 112, 3) := by decide +kernel
theorem dX4_comeByLabel_10 : decode cX4_comeByLabel 10 = .ok (.iconst 0, 1) := by decide +kernel
theorem dX4_comeByLabel_11 : decode cX4_comeByLabel 11 = .ok (.istore 4, 2) := by decide +kernel
theorem dX4_comeByLabel_13 : decode cX4_comeByLabel 13 = .ok (.iload 4, 2) := by decide +kernel
theorem dX4_comeByLabel_15 : decode cX4_comeByLabel 15 = .ok (.aload_n 0, 1) := by decide +kernel
theorem dX4_comeByLabel_16 : decode cX4_comeByLabel 16 = .ok (.getfield 112, 3) := by decide +kernel
theorem dX4_comeByLabel_19 : decode cX4_comeByLabel 19 = .ok (.if_icmp .ge 34, 3) := by decide +kernel
theorem dX4_comeByLabel_22 : decode cX4_comeByLabel 22 = .ok (.aload_n 0, 1) := by decide +kernel
theorem dX4_comeByLabel_23 : decode cX4_comeByLabel 23 = .ok (.getfield 58, 3) := by decide +kernel
theorem dX4_comeByLabel_26 : decode cX4_comeByLabel 26 = .ok (.iload 4, 2) := by decide +kernel
theorem dX4_comeByLabel_28 : decode cX4_comeByLabel 28 = .ok (.aload_n 0, 1) := by decide +kernel
theorem dX4_comeByLabel_29 : decode cX4_comeByLabel 29 = .ok (.getfield 35, 3) := by decide +kernel
theorem dX4_comeByLabel_32 : decode cX4_comeByLabel 32 = .ok (.aload_n 0, 1) := by decide +kernel
theorem dX4_comeByLabel_33 : decode cX4_comeByLabel 33 = .ok (.getfield 25, 3) := by decide +kernel
theorem dX4_comeByLabel_36 : decode cX4_comeByLabel 36 = .ok (.sipush 600, 3) := by decide +kernel
theorem dX4_comeByLabel_39 : decode cX4_comeByLabel 39 = .ok (.iload_n 1, 1) := by decide +kernel
theorem dX4_comeByLabel_40 : decode cX4_comeByLabel 40 = .ok (.imul, 1) := by decide +kernel
theorem dX4_comeByLabel_41 : decode cX4_comeByLabel 41 = .ok (.iload 4, 2) := by decide +kernel
theorem dX4_comeByLabel_43 : decode cX4_comeByLabel 43 = .ok (.iadd, 1) := by decide +kernel
theorem dX4_comeByLabel_44 : decode cX4_comeByLabel 44 = .ok (.iaload, 1) := by decide +kernel
theorem dX4_comeByLabel_45 : decode cX4_comeByLabel 45 = .ok (.laload, 1) := by decide +kernel
theorem dX4_comeByLabel_46 : decode cX4_comeByLabel 46 = .ok (.lastore, 1) := by decide +kernel
theorem dX4_comeByLabel_47 : decode cX4_comeByLabel 47 = .ok (.iinc 4 1, 3) := by decide +kernel
theorem dX4_comeByLabel_50 : decode cX4_comeByLabel 50 = .ok (.goto (-37), 3) := by decide +kernel
theorem dX4_comeByLabel_53 : decode cX4_comeByLabel 53 = .ok (.aload_n 0, 1) := by decide +kernel
theorem dX4_comeByLabel_54 : decode cX4_comeByLabel 54 = .ok (.getfield 7, 3) := by decide +kernel
theorem dX4_comeByLabel_57 : decode cX4_comeByLabel 57 = .ok (.iload_n 1, 1) := by decide +kernel
theorem dX4_comeByLabel_58 : decode cX4_comeByLabel 58 = .ok (.iaload, 1) := by decide +kernel
theorem dX4_comeByLabel_59 : decode cX4_comeByLabel 59 = .ok (.ifCond .ne 12, 3) := by decide +kernel
theorem dX4_comeByLabel_62 : decode cX4_comeByLabel 62 = .ok (.aload_n 0, 1) := by decide +kernel
theorem dX4_comeByLabel_63 : decode cX4_comeByLabel 63 = .ok (.iload_n 1, 1) := by decide +kernel
theorem dX4_comeByLabel_64 : decode cX4_comeByLabel 64 = .ok (.iload_n 2, 1) := by decide +kernel
theorem dX4_comeByLabel_65 : decode cX4_comeByLabel 65 = .ok (.invokevirtual 128, 3) := by decide +kernel
theorem dX4_comeByLabel_68 : decode cX4_comeByLabel 68 = .ok (.goto 9, 3) := by decide +kernel
theorem dX4_comeByLabel_71 : decode cX4_comeByLabel 71 = .ok (.aload_n 0, 1) := by decide +kernel
theorem dX4_comeByLabel_72 : decode cX4_comeByLabel 72 = .ok (.iload_n 1, 1) := by decide +kernel
theorem dX4_comeByLabel_73 : decode cX4_comeByLabel 73 = .ok (.iload_n 2, 1) := by decide +kernel
theorem dX4_comeByLabel_74 : decode cX4_comeByLabel 74 = .ok (.invokevirtual 132, 3) := by decide +kernel
theorem dX4_comeByLabel_77 : decode cX4_comeByLabel 77 = .ok (.istore 4, 2) := by decide +kernel
theorem dX4_comeByLabel_79 : decode cX4_comeByLabel 79 = .ok (.iload 4, 2) := by decide +kernel
theorem dX4_comeByLabel_81 : decode cX4_comeByLabel 81 = .ok (.ifCond .eq 53, 3) := by decide +kernel
theorem dX4_comeByLabel_84 : decode cX4_comeByLabel 84 = .ok (.aload_n 0, 1) := by decide +kernel
theorem dX4_comeByLabel_85 : decode cX4_comeByLabel 85 = .ok (.iload_n 1, 1) := by decide +kernel
theorem dX4_comeByLabel_86 : decode cX4_comeByLabel 86 = .ok (.iload_n 2, 1) := by decide +kernel
theorem dX4_comeByLabel_87 : decode cX4_comeByLabel 87 = .ok (.iload_n 3, 1) := by decide +kernel
theorem dX4_comeByLabel_88 : decode cX4_comeByLabel 88 = .ok (.invokevirtual 135, 3) := by decide +kernel
theorem dX4_comeByLabel_91 : decode cX4_comeByLabel 91 = .ok (.iconst 0, 1) := by decide +kernel
theorem dX4_comeByLabel_92 : decode cX4_comeByLabel 92 = .ok (.istore 5, 2) := by decide +kernel
theorem dX4_comeByLabel_94 : decode cX4_comeByLabel 94 = .ok (.iload 5, 2) := by decide +kernel
theorem dX4_comeByLabel_96 : decode cX4_comeByLabel 96 = .ok (.aload_n 0, 1) := by decide +kernel
theorem dX4_comeByLabel_97 : decode cX4_comeByLabel 97 = .ok (.getfield 112, 3) := by decide +kernel
theorem dX4_comeByLabel_100 : decode cX4_comeByLabel 100 = .ok (.if_icmp .ge 34, 3) := by decide +kernel
theorem dX4_comeByLabel_103 : decode cX4_comeByLabel 103 = .ok (.aload_n 0, 1) := by decide +kernel
theorem dX4_comeByLabel_104 : decode cX4_comeByLabel 104 = .ok (.getfield 35, 3) := by decide +kernel
theorem dX4_comeByLabel_107 : decode cX4_comeByLabel 107 = .ok (.aload_n 0, 1) := by decide +kernel
theorem dX4_comeByLabel_108 : decode cX4_comeByLabel 108 = .ok (.getfield 25, 3) := by decide +kernel
theorem dX4_comeByLabel_111 : decode cX4_comeByLabel 111 = .ok (.sipush 600, 3) := by decide +kernel
theorem dX4_comeByLabel_114 : decode cX4_comeByLabel 114 = .ok (.iload_n 1, 1) := by decide +kernel
theorem dX4_comeByLabel_115 : decode cX4_comeByLabel 115 = .ok (.imul, 1) := by decide +kernel
theorem dX4_comeByLabel_116 : decode cX4_comeByLabel 116 = .ok (.iload 5, 2) := by decide +kernel
theorem dX4_comeByLabel_118 : decode cX4_comeByLabel 118 = .ok (.iadd, 1) := by decide +kernel
theorem dX4_comeByLabel_119 : decode cX4_comeByLabel 119 = .ok (.iaload, 1) := by decide +kernel
theorem dX4_comeByLabel_120 : decode cX4_comeByLabel 120 = .ok (.aload_n 0, 1) := by decide +kernel
theorem dX4_comeByLabel_121 : decode cX4_comeByLabel 121 = .ok (.getfield 58, 3) := by decide +kernel
theorem dX4_comeByLabel_124 : decode cX4_comeByLabel 124 = .ok (.iload 5, 2) := by decide +kernel
theorem dX4_comeByLabel_126 : decode cX4_comeByLabel 126 = .ok (.laload, 1) := by decide +kernel
theorem dX4_comeByLabel_127 : decode cX4_comeByLabel 127 = .ok (.lastore, 1) := by decide +kernel
theorem dX4_comeByLabel_128 : decode cX4_comeByLabel 128 = .ok (.iinc 5 1, 3) := by decide +kernel
theorem dX4_comeByLabel_131 : decode cX4_comeByLabel 131 = .ok (.goto (-37), 3) := by decide +kernel
theorem dX4_comeByLabel_134 : decode cX4_comeByLabel 134 = .ok (.iload 4, 2) := by decide +kernel
theorem dX4_comeByLabel_136 : decode cX4_comeByLabel 136 = .ok (.ireturn, 1) := by decide +kernel
def rmX4_comeByLabel : Room := { frames := 3, cells := 0, slots := 0, locals := 81 }
noncomputable def f_X4_comeByLabel_94 : Nat → Int32 → Int32 → Int32 → MS → Option (Int32 × MS)
  | 0, _, _, _, _ => none
  | n + 1, x1, x4, x5, u => (if (u.1 22) ≤ x5 then (if zb x4 = true then some (x4, u) else none) else (if ix ((600 * x1) + x5) 4800 = true then (if ix x5 601 = true then (if ix (u.2.1 7 (Int32.toNatClampNeg ((600 * x1) + x5))) 600 = true then f_X4_comeByLabel_94 n x1 x4 (x5 + 1) (mB u 10 (Int32.toNatClampNeg (u.2.1 7 (Int32.toNatClampNeg ((600 * x1) + x5)))) (u.2.2 21 (Int32.toNatClampNeg x5))) else none) else none) else none))
noncomputable def f_X4_comeByLabel_13 : Nat → Int32 → Int32 → Int32 → Int32 → MS → Option (Int32 × MS)
  | 0, _, _, _, _, _ => none
  | n + 1, x1, x2, x3, x4, u => (if (u.1 22) ≤ x4 then (if ix x1 8 = true then (if (u.2.1 2 (Int32.toNatClampNeg x1)) = 0 then (f_X4_tight x1 x2 u).bind (fun z11 => (if z11.1 = 0 then (if zb z11.1 = true then some (z11.1, z11.2) else none) else (f_X4_shift x1 x2 x3 z11.2).bind (fun z15 => f_X4_comeByLabel_94 NF x1 z11.1 0 z15))) else (f_X4_spread x1 x2 u).bind (fun z5 => (if z5.1 = 0 then (if zb z5.1 = true then some (z5.1, z5.2) else none) else (f_X4_shift x1 x2 x3 z5.2).bind (fun z9 => f_X4_comeByLabel_94 NF x1 z5.1 0 z9)))) else none) else (if ix ((600 * x1) + x4) 4800 = true then (if ix (u.2.1 7 (Int32.toNatClampNeg ((600 * x1) + x4))) 600 = true then (if ix x4 601 = true then f_X4_comeByLabel_13 n x1 x2 x3 (x4 + 1) (mB u 21 (Int32.toNatClampNeg x4) (u.2.2 10 (Int32.toNatClampNeg (u.2.1 7 (Int32.toNatClampNeg ((600 * x1) + x4)))))) else none) else none) else none))
noncomputable def f_X4_comeByLabel (x1 : Int32) (x2 : Int32) (x3 : Int32) (u : MS) : Option (Int32 × MS) := (if ix x1 8 = true then f_X4_comeByLabel_13 NF x1 x2 x3 0 (mF u 22 (u.2.1 4 (Int32.toNatClampNeg x1))) else none)
section
variable {p : Program} {l : Launch} {e : Env} {s : State} {m : MethodId} {args : Array Value} {below : List Frame} {meth : Method} {c : Code}
variable {G : GX} {A : Nat → Prop} {ad : Nat → Nat}
set_option maxHeartbeats 4000000 in
set_option maxRecDepth 100000 in
theorem w_X4_comeByLabel_94 (F : FX p m c cX4_comeByLabel 6 s args yX4_comeByLabel (some .boolean) RX4 meth) {z : Int32 × MS} : ∀ (n : Nat) (x1 : Int32) (x4 : Int32) (x5 : Int32) (u : MS) (H : Heap) (locs : List Loc) (ls : Array Slot), WD G A s (mw G ad u) H locs → lv_has ls 6 [(0, .ref (ad 0)), (1, .int x1), (4, .int x4), (5, .int x5)] → f_X4_comeByLabel_94 n x1 x4 x5 u = some z → W p l e rmX4_comeByLabel s m args below meth c H locs 0 0 (MQ below (QW G (mw G ad z.2) A (some (.int z.1))) args s 0 0 A) (F0 m 94 ls []) := by
  obtain ⟨⟨hx, hb, hml, hown, hts⟩, hr, hlocks⟩ := id F
  intro n
  induction n with
  | zero =>
    intro x1 x4 x5 u H locs ls hw hl h
    rw [f_X4_comeByLabel_94] at h
    cases h
  | succ n ih =>
    intro x1 x4 x5 u H locs ls hw hl h
    rw [f_X4_comeByLabel_94] at h
    refine lv_iload hx hb dX4_comeByLabel_94 (lv_at hl 3 rfl) ?_
    refine lv_aload_n hx hb dX4_comeByLabel_96 rfl (lv_at hl 0 rfl) ?_
    refine m_g22 F hw dX4_comeByLabel_97 ?_
    refine lv_icmp_ge (tgt := 134) hx hb dX4_comeByLabel_100 rfl (fun c20 => ?_) (fun c20 => ?_)
    · replace h := itT h c20
      refine lv_iload hx hb dX4_comeByLabel_134 (lv_at hl 2 rfl) ?_
      obtain ⟨g21, h⟩ := gd h
      cases h
      exact retW_z F hw (zb_ok g21) dX4_comeByLabel_136
    · replace h := itF h c20
      refine lv_aload_n hx hb dX4_comeByLabel_103 rfl (lv_at hl 0 rfl) ?_
      refine m_g10 F hw dX4_comeByLabel_104 ?_
      refine lv_aload_n hx hb dX4_comeByLabel_107 rfl (lv_at hl 0 rfl) ?_
      refine m_g7 F hw dX4_comeByLabel_108 ?_
      refine lv_sipush (v := 600) hx hb dX4_comeByLabel_111 rfl ?_
      refine lv_iload_n hx hb dX4_comeByLabel_114 rfl (lv_at hl 1 rfl) ?_
      refine lv_imul hx hb dX4_comeByLabel_115 ?_
      refine lv_iload hx hb dX4_comeByLabel_116 (lv_at hl 3 rfl) ?_
      refine lv_iadd hx hb dX4_comeByLabel_118 ?_
      obtain ⟨g22, h⟩ := gd h
      refine m_l7 F hw g22 dX4_comeByLabel_119 ?_
      refine lv_aload_n hx hb dX4_comeByLabel_120 rfl (lv_at hl 0 rfl) ?_
      refine m_g21 F hw dX4_comeByLabel_121 ?_
      refine lv_iload hx hb dX4_comeByLabel_124 (lv_at hl 3 rfl) ?_
      obtain ⟨g23, h⟩ := gd h
      refine m_l21 F hw g23 dX4_comeByLabel_126 ?_
      obtain ⟨g24, h⟩ := gd h
      refine m_s10 F hw g24 dX4_comeByLabel_127 (fun H locs hw => ?_)
      refine lv_iinc (v := (x5 + 1)) (lv' := [(5, .int (x5 + 1)), (0, .ref (ad 0)), (1, .int x1), (4, .int x4)]) hx hb dX4_comeByLabel_128 hl (k := 3) rfl rfl (by decide) rfl (fun ls hl => ?_)
      refine lv_goto (tgt := 94) hx hb dX4_comeByLabel_131 rfl ?_
      exact ih _ _ _ _ _ _ _ hw (lv_sub hl [1, 2, 3, 0] rfl) h
set_option maxHeartbeats 4000000 in
set_option maxRecDepth 100000 in
theorem w_X4_comeByLabel_13 (F : FX p m c cX4_comeByLabel 6 s args yX4_comeByLabel (some .boolean) RX4 meth) {z : Int32 × MS} : ∀ (n : Nat) (x1 : Int32) (x2 : Int32) (x3 : Int32) (x4 : Int32) (u : MS) (H : Heap) (locs : List Loc) (ls : Array Slot), WD G A s (mw G ad u) H locs → lv_has ls 6 [(0, .ref (ad 0)), (1, .int x1), (2, .int x2), (3, .int x3), (4, .int x4)] → f_X4_comeByLabel_13 n x1 x2 x3 x4 u = some z → W p l e rmX4_comeByLabel s m args below meth c H locs 0 0 (MQ below (QW G (mw G ad z.2) A (some (.int z.1))) args s 0 0 A) (F0 m 13 ls []) := by
  obtain ⟨⟨hx, hb, hml, hown, hts⟩, hr, hlocks⟩ := id F
  intro n
  induction n with
  | zero =>
    intro x1 x2 x3 x4 u H locs ls hw hl h
    rw [f_X4_comeByLabel_13] at h
    cases h
  | succ n ih =>
    intro x1 x2 x3 x4 u H locs ls hw hl h
    rw [f_X4_comeByLabel_13] at h
    refine lv_iload hx hb dX4_comeByLabel_13 (lv_at hl 4 rfl) ?_
    refine lv_aload_n hx hb dX4_comeByLabel_15 rfl (lv_at hl 0 rfl) ?_
    refine m_g22 F hw dX4_comeByLabel_16 ?_
    refine lv_icmp_ge (tgt := 53) hx hb dX4_comeByLabel_19 rfl (fun c2 => ?_) (fun c2 => ?_)
    · replace h := itT h c2
      refine lv_aload_n hx hb dX4_comeByLabel_53 rfl (lv_at hl 0 rfl) ?_
      refine m_g2 F hw dX4_comeByLabel_54 ?_
      refine lv_iload_n hx hb dX4_comeByLabel_57 rfl (lv_at hl 1 rfl) ?_
      obtain ⟨g3, h⟩ := gd h
      refine m_l2 F hw g3 dX4_comeByLabel_58 ?_
      refine lv_if_ne (tgt := 71) hx hb dX4_comeByLabel_59 rfl (fun c4 => ?_) (fun c4 => ?_)
      · replace h := itF h c4
        refine lv_aload_n hx hb dX4_comeByLabel_71 rfl (lv_at hl 0 rfl) ?_
        refine lv_iload_n hx hb dX4_comeByLabel_72 rfl (lv_at hl 1 rfl) ?_
        refine lv_iload_n hx hb dX4_comeByLabel_73 rfl (lv_at hl 2 rfl) ?_
        obtain ⟨z5, e6, h⟩ := bnd h
        refine k_X4_spread F hw e6 ⟨Nat.le_of_ble_eq_true rfl, Nat.le_of_ble_eq_true rfl⟩ ⟨Nat.zero_le _, Nat.zero_le _⟩ hl.1 (Nat.le_of_ble_eq_true rfl) dX4_comeByLabel_74 (fun H locs hw => ?_)
        refine lv_istore (lv' := [(4, .int z5.1), (0, .ref (ad 0)), (1, .int x1), (2, .int x2), (3, .int x3)]) hx hb dX4_comeByLabel_77 hl (by decide) rfl (fun ls hl => ?_)
        refine lv_iload hx hb dX4_comeByLabel_79 (lv_at hl 0 rfl) ?_
        refine lv_if_eq (tgt := 134) hx hb dX4_comeByLabel_81 rfl (fun c7 => ?_) (fun c7 => ?_)
        · replace h := itT h c7
          refine lv_iload hx hb dX4_comeByLabel_134 (lv_at hl 0 rfl) ?_
          obtain ⟨g8, h⟩ := gd h
          cases h
          exact retW_z F hw (zb_ok g8) dX4_comeByLabel_136
        · replace h := itF h c7
          refine lv_aload_n hx hb dX4_comeByLabel_84 rfl (lv_at hl 1 rfl) ?_
          refine lv_iload_n hx hb dX4_comeByLabel_85 rfl (lv_at hl 2 rfl) ?_
          refine lv_iload_n hx hb dX4_comeByLabel_86 rfl (lv_at hl 3 rfl) ?_
          refine lv_iload_n hx hb dX4_comeByLabel_87 rfl (lv_at hl 4 rfl) ?_
          obtain ⟨z9, e10, h⟩ := bnd h
          refine k_X4_shift F hw e10 ⟨Nat.le_of_ble_eq_true rfl, Nat.le_of_ble_eq_true rfl⟩ ⟨Nat.zero_le _, Nat.zero_le _⟩ hl.1 (Nat.le_of_ble_eq_true rfl) dX4_comeByLabel_88 (fun H locs hw => ?_)
          refine lv_iconst (v := 0) hx hb dX4_comeByLabel_91 rfl ?_
          refine lv_istore (lv' := [(5, .int 0), (4, .int z5.1), (0, .ref (ad 0)), (1, .int x1), (2, .int x2), (3, .int x3)]) hx hb dX4_comeByLabel_92 hl (by decide) rfl (fun ls hl => ?_)
          exact w_X4_comeByLabel_94 F NF _ _ _ _ _ _ _ hw (lv_sub hl [2, 3, 1, 0] rfl) h
      · replace h := itT h c4
        refine lv_aload_n hx hb dX4_comeByLabel_62 rfl (lv_at hl 0 rfl) ?_
        refine lv_iload_n hx hb dX4_comeByLabel_63 rfl (lv_at hl 1 rfl) ?_
        refine lv_iload_n hx hb dX4_comeByLabel_64 rfl (lv_at hl 2 rfl) ?_
        obtain ⟨z11, e12, h⟩ := bnd h
        refine k_X4_tight F hw e12 ⟨Nat.le_of_ble_eq_true rfl, Nat.le_of_ble_eq_true rfl⟩ ⟨Nat.zero_le _, Nat.zero_le _⟩ hl.1 (Nat.le_of_ble_eq_true rfl) dX4_comeByLabel_65 (fun H locs hw => ?_)
        refine lv_goto (tgt := 77) hx hb dX4_comeByLabel_68 rfl ?_
        refine lv_istore (lv' := [(4, .int z11.1), (0, .ref (ad 0)), (1, .int x1), (2, .int x2), (3, .int x3)]) hx hb dX4_comeByLabel_77 hl (by decide) rfl (fun ls hl => ?_)
        refine lv_iload hx hb dX4_comeByLabel_79 (lv_at hl 0 rfl) ?_
        refine lv_if_eq (tgt := 134) hx hb dX4_comeByLabel_81 rfl (fun c13 => ?_) (fun c13 => ?_)
        · replace h := itT h c13
          refine lv_iload hx hb dX4_comeByLabel_134 (lv_at hl 0 rfl) ?_
          obtain ⟨g14, h⟩ := gd h
          cases h
          exact retW_z F hw (zb_ok g14) dX4_comeByLabel_136
        · replace h := itF h c13
          refine lv_aload_n hx hb dX4_comeByLabel_84 rfl (lv_at hl 1 rfl) ?_
          refine lv_iload_n hx hb dX4_comeByLabel_85 rfl (lv_at hl 2 rfl) ?_
          refine lv_iload_n hx hb dX4_comeByLabel_86 rfl (lv_at hl 3 rfl) ?_
          refine lv_iload_n hx hb dX4_comeByLabel_87 rfl (lv_at hl 4 rfl) ?_
          obtain ⟨z15, e16, h⟩ := bnd h
          refine k_X4_shift F hw e16 ⟨Nat.le_of_ble_eq_true rfl, Nat.le_of_ble_eq_true rfl⟩ ⟨Nat.zero_le _, Nat.zero_le _⟩ hl.1 (Nat.le_of_ble_eq_true rfl) dX4_comeByLabel_88 (fun H locs hw => ?_)
          refine lv_iconst (v := 0) hx hb dX4_comeByLabel_91 rfl ?_
          refine lv_istore (lv' := [(5, .int 0), (4, .int z11.1), (0, .ref (ad 0)), (1, .int x1), (2, .int x2), (3, .int x3)]) hx hb dX4_comeByLabel_92 hl (by decide) rfl (fun ls hl => ?_)
          exact w_X4_comeByLabel_94 F NF _ _ _ _ _ _ _ hw (lv_sub hl [2, 3, 1, 0] rfl) h
    · replace h := itF h c2
      refine lv_aload_n hx hb dX4_comeByLabel_22 rfl (lv_at hl 0 rfl) ?_
      refine m_g21 F hw dX4_comeByLabel_23 ?_
      refine lv_iload hx hb dX4_comeByLabel_26 (lv_at hl 4 rfl) ?_
      refine lv_aload_n hx hb dX4_comeByLabel_28 rfl (lv_at hl 0 rfl) ?_
      refine m_g10 F hw dX4_comeByLabel_29 ?_
      refine lv_aload_n hx hb dX4_comeByLabel_32 rfl (lv_at hl 0 rfl) ?_
      refine m_g7 F hw dX4_comeByLabel_33 ?_
      refine lv_sipush (v := 600) hx hb dX4_comeByLabel_36 rfl ?_
      refine lv_iload_n hx hb dX4_comeByLabel_39 rfl (lv_at hl 1 rfl) ?_
      refine lv_imul hx hb dX4_comeByLabel_40 ?_
      refine lv_iload hx hb dX4_comeByLabel_41 (lv_at hl 4 rfl) ?_
      refine lv_iadd hx hb dX4_comeByLabel_43 ?_
      obtain ⟨g17, h⟩ := gd h
      refine m_l7 F hw g17 dX4_comeByLabel_44 ?_
      obtain ⟨g18, h⟩ := gd h
      refine m_l10 F hw g18 dX4_comeByLabel_45 ?_
      obtain ⟨g19, h⟩ := gd h
      refine m_s21 F hw g19 dX4_comeByLabel_46 (fun H locs hw => ?_)
      refine lv_iinc (v := (x4 + 1)) (lv' := [(4, .int (x4 + 1)), (0, .ref (ad 0)), (1, .int x1), (2, .int x2), (3, .int x3)]) hx hb dX4_comeByLabel_47 hl (k := 4) rfl rfl (by decide) rfl (fun ls hl => ?_)
      refine lv_goto (tgt := 13) hx hb dX4_comeByLabel_50 rfl ?_
      exact ih _ _ _ _ _ _ _ _ hw (lv_sub hl [1, 2, 3, 4, 0] rfl) h
set_option maxHeartbeats 4000000 in
set_option maxRecDepth 100000 in
theorem w_X4_comeByLabel_0 (F : FX p m c cX4_comeByLabel 6 s args yX4_comeByLabel (some .boolean) RX4 meth) {z : Int32 × MS} : ∀ (x1 : Int32) (x2 : Int32) (x3 : Int32) (u : MS) (H : Heap) (locs : List Loc) (ls : Array Slot), WD G A s (mw G ad u) H locs → lv_has ls 6 [(0, .ref (ad 0)), (1, .int x1), (2, .int x2), (3, .int x3)] → f_X4_comeByLabel x1 x2 x3 u = some z → W p l e rmX4_comeByLabel s m args below meth c H locs 0 0 (MQ below (QW G (mw G ad z.2) A (some (.int z.1))) args s 0 0 A) (F0 m 0 ls []) := by
  obtain ⟨⟨hx, hb, hml, hown, hts⟩, hr, hlocks⟩ := id F
  intro x1 x2 x3 u H locs ls hw hl h
  unfold f_X4_comeByLabel at h
  refine lv_aload_n hx hb dX4_comeByLabel_0 rfl (lv_at hl 0 rfl) ?_
  refine lv_aload_n hx hb dX4_comeByLabel_1 rfl (lv_at hl 0 rfl) ?_
  refine m_g4 F hw dX4_comeByLabel_2 ?_
  refine lv_iload_n hx hb dX4_comeByLabel_5 rfl (lv_at hl 1 rfl) ?_
  obtain ⟨g1, h⟩ := gd h
  refine m_l4 F hw g1 dX4_comeByLabel_6 ?_
  refine m_p22 F hw dX4_comeByLabel_7 (fun H locs hw => ?_)
  refine lv_iconst (v := 0) hx hb dX4_comeByLabel_10 rfl ?_
  refine lv_istore (lv' := [(4, .int 0), (0, .ref (ad 0)), (1, .int x1), (2, .int x2), (3, .int x3)]) hx hb dX4_comeByLabel_11 hl (by decide) rfl (fun ls hl => ?_)
  exact w_X4_comeByLabel_13 F NF _ _ _ _ _ _ _ _ hw (lv_sub hl [1, 2, 3, 4, 0] rfl) h
end
theorem c_X4_comeByLabel {l : Launch} {G : GX} {ad : Nat → Nat} {x1 : Int32} {x2 : Int32} {x3 : Int32} {u : MS} {z : Int32 × MS} (h : f_X4_comeByLabel x1 x2 x3 u = some z) : MW l yX4_comeByLabel cX4_comeByLabel 6 (some .boolean) rmX4_comeByLabel G (mw G ad u) (mw G ad z.2) [.ref (ad 0), .int x1, .int x2, .int x3] (some (.int z.1)) := MW.of (by decide) (Nat.le_of_ble_eq_true rfl) (fun p e s m below meth c ls F hw hl => w_X4_comeByLabel_0 F _ _ _ _ _ _ _ hw hl h)
theorem yv_X4_comeByLabel : YV RX4 168 yX4_comeByLabel cX4_comeByLabel 6 (some .boolean) 3 := ⟨(tw 712 (by decide +kernel) rfl), (tw 6 (by decide +kernel) rfl), (tw 709 (by decide +kernel) rfl), (tw 711 (by decide +kernel) rfl), (tp 36 (by decide +kernel) rfl), by decide +kernel⟩
theorem k_X4_comeByLabel {p : Program} {l : Launch} {e : Env} {R : Room} {s : State} {m : MethodId} {args : Array Value} {below : List Frame} {meth : Method} {c : Code} {H : Heap} {locs : List Loc} {cells slots : Nat} {Q : State → Prop} {G : GX} {A : Nat → Prop} {ad : Nat → Nat} {cc : ByteArray} {nL pc : Nat} {y0 : MethodName} {ret0 : Option FieldType} {ls : Array Slot} {rest : List Value} {u : MS} {x1 : Int32} {x2 : Int32} {x3 : Int32} {z : Int32 × MS} (F : FX p m c cc nL s args y0 ret0 RX4 meth) (hw : WD G A s (mw G ad u) H locs) (h : f_X4_comeByLabel x1 x2 x3 u = some z) (hR : rmX4_comeByLabel.frames + 1 ≤ R.frames ∧ 8 + (6 + 11) + rmX4_comeByLabel.locals ≤ R.locals) (hcs : cells ≤ R.cells ∧ slots ≤ R.slots) (hsz : ls.size = nL) (hW : (rest.map fun v => v.category).sum ≤ 8) (hdg : decode cc pc = .ok (.invokevirtual 168, 3)) (kk : ∀ (H : Heap) (locs : List Loc), WD G A s (mw G ad z.2) H locs → W p l e R s m args below meth c H locs cells slots Q (F0 m (pc + 3) ls (.int z.1 :: rest))) : W p l e R s m args below meth c H locs cells slots Q (F0 m pc ls (.int x3 :: .int x2 :: .int x1 :: .ref (ad 0) :: rest)) := callW (runV F yv_X4_comeByLabel (c_X4_comeByLabel h) hw.1 hw.2.1 hw.2.2.1 rfl rfl rfl ⟨rfl, rfl⟩ hR hcs rfl hsz rfl hW hdg) hw.2.2.2 hw.2.2.1.own_in (fun H1 l1 hP _ hS => kk H1 l1 ⟨hw.1, hP, hw.2.2.1.addr rfl, hS⟩)
/-! ===== X4_newBlock ===== -/
theorem dX4_newBlock_0 : decode cX4_newBlock 0 = .ok (.aload_n 0, 1) := by decide +kernel
theorem dX4_newBlock_1 : decode cX4_newBlock 1 = .ok (.aload_n 0, 1) := by decide +kernel
theorem dX4_newBlock_2 : decode cX4_newBlock 2 = .ok (.getfield 22, 3) := by decide +kernel
theorem dX4_newBlock_5 : decode cX4_newBlock 5 = .ok (.iload_n 1, 1) := by decide +kernel
theorem dX4_newBlock_6 : decode cX4_newBlock 6 = .ok (.iaload, 1) := by decide +kernel
theorem dX4_newBlock_7 : decode cX4_newBlock 7 = .ok (.putfield 112, 3) := by decide +kernel
theorem dX4_newBlock_10 : decode cX4_newBlock 10 = .ok (.iconst 0, 1) := by decide +kernel
theorem dX4_newBlock_11 : decode cX4_newBlock 11 = .ok (.istore 4, 2) := by decide +kernel
theorem dX4_newBlock_13 : decode cX4_newBlock 13 = .ok (.iload 4, 2) := by decide +kernel
theorem dX4_newBlock_15 : decode cX4_newBlock 15 = .ok (.aload_n 0, 1) := by decide +kernel
theorem dX4_newBlock_16 : decode cX4_newBlock 16 = .ok (.getfield 112, 3) := by decide +kernel
theorem dX4_newBlock_19 : decode cX4_newBlock 19 = .ok (.if_icmp .ge 29, 3) := by decide +kernel
theorem dX4_newBlock_22 : decode cX4_newBlock 22 = .ok (.aload_n 0, 1) := by decide +kernel
theorem dX4_newBlock_23 : decode cX4_newBlock 23 = .ok (.getfield 58, 3) := by decide +kernel
theorem dX4_newBlock_26 : decode cX4_newBlock 26 = .ok (.iload 4, 2) := by decide +kernel
theorem dX4_newBlock_28 : decode cX4_newBlock 28 = .ok (.aload_n 0, 1) := by decide +kernel
theorem dX4_newBlock_29 : decode cX4_newBlock 29 = .ok (.getfield 31, 3) := by decide +kernel
theorem dX4_newBlock_32 : decode cX4_newBlock 32 = .ok (.sipush 600, 3) := by decide +kernel
theorem dX4_newBlock_35 : decode cX4_newBlock 35 = .ok (.iload_n 1, 1) := by decide +kernel
theorem dX4_newBlock_36 : decode cX4_newBlock 36 = .ok (.imul, 1) := by decide +kernel
theorem dX4_newBlock_37 : decode cX4_newBlock 37 = .ok (.iload 4, 2) := by decide +kernel
theorem dX4_newBlock_39 : decode cX4_newBlock 39 = .ok (.iadd, 1) := by decide +kernel
theorem dX4_newBlock_40 : decode cX4_newBlock 40 = .ok (.laload, 1) := by decide +kernel
theorem dX4_newBlock_41 : decode cX4_newBlock 41 = .ok (.lastore, 1) := by decide +kernel
theorem dX4_newBlock_42 : decode cX4_newBlock 42 = .ok (.iinc 4 1, 3) := by decide +kernel
theorem dX4_newBlock_45 : decode cX4_newBlock 45 = .ok (.goto (-32), 3) := by decide +kernel
theorem dX4_newBlock_48 : decode cX4_newBlock 48 = .ok (.aload_n 0, 1) := by decide +kernel
theorem dX4_newBlock_49 : decode cX4_newBlock 49 = .ok (.iload_n 1, 1) := by decide +kernel
theorem dX4_newBlock_50 : decode cX4_newBlock 50 = .ok (.iload_n 2, 1) := by decide +kernel
theorem dX4_newBlock_51 : decode cX4_newBlock 51 = .ok (.invokevirtual 132, 3) := by decide +kernel
theorem dX4_newBlock_54 : decode cX4_newBlock 54 = .ok (.ifCond .ne 5, 3) := by decide +kernel
theorem dX4_newBlock_57 : decode cX4_newBlock 57 = .ok (.iconst 0, 1) := by decide +kernel
theorem dX4_newBlock_58 : decode cX4_newBlock 58 = .ok (.ireturn, 1) := by decide +kernel
theorem dX4_newBlock_59 : decode cX4_newBlock 59 = .ok (.aload_n 0, 1) := by decide +kernel
theorem dX4_newBlock_60 : decode cX4_newBlock 60 = .ok (.getfield 22, 3) := by decide +kernel
theorem dX4_newBlock_63 : decode cX4_newBlock 63 = .ok (.iload_n 1, 1) := by decide +kernel
theorem dX4_newBlock_64 : decode cX4_newBlock 64 = .ok (.iaload, 1) := by decide +kernel
theorem dX4_newBlock_65 : decode cX4_newBlock 65 = .ok (.istore 4, 2) := by decide +kernel
theorem dX4_newBlock_67 : decode cX4_newBlock 67 = .ok (.iload 4, 2) := by decide +kernel
theorem dX4_newBlock_69 : decode cX4_newBlock 69 = .ok (.iload_n 2, 1) := by decide +kernel
theorem dX4_newBlock_70 : decode cX4_newBlock 70 = .ok (.if_icmp .le 37, 3) := by decide +kernel
theorem dX4_newBlock_73 : decode cX4_newBlock 73 = .ok (.aload_n 0, 1) := by decide +kernel
theorem dX4_newBlock_74 : decode cX4_newBlock 74 = .ok (.getfield 28, 3) := by decide +kernel
theorem dX4_newBlock_77 : decode cX4_newBlock 77 = .ok (.sipush 600, 3) := by decide +kernel
theorem dX4_newBlock_80 : decode cX4_newBlock 80 = .ok (.iload_n 1, 1) := by decide +kernel
theorem dX4_newBlock_81 : decode cX4_newBlock 81 = .ok (.imul, 1) := by decide +kernel
theorem dX4_newBlock_82 : decode cX4_newBlock 82 = .ok (.iload 4, 2) := by decide +kernel
theorem dX4_newBlock_84 : decode cX4_newBlock 84 = .ok (.iadd, 1) := by decide +kernel
theorem dX4_newBlock_85 : decode cX4_newBlock 85 = .ok (.aload_n 0, 1) := by decide +kernel
theorem dX4_newBlock_86 : decode cX4_newBlock 86 = .ok (.getfield 28, 3) := by decide +kernel
theorem dX4_newBlock_89 : decode cX4_newBlock 89 = .ok (.sipush 600, 3) := by decide +kernel
theorem dX4_newBlock_92 : decode cX4_newBlock 92 = .ok (.iload_n 1, 1) := by decide +kernel
theorem dX4_newBlock_93 : decode cX4_newBlock 93 = .ok (.imul, 1) := by decide +kernel
theorem dX4_newBlock_94 : decode cX4_newBlock 94 = .ok (.iload 4, 2) := by decide +kernel
theorem dX4_newBlock_96 : decode cX4_newBlock 96 = .ok (.iadd, 1) := by decide +kernel
theorem dX4_newBlock_97 : decode cX4_newBlock 97 = .ok (.iconst 1, 1) := by decide +kernel
theorem dX4_newBlock_98 : decode cX4_newBlock 98 = .ok (.isub, 1) := by decide +kernel
theorem dX4_newBlock_99 : decode cX4_newBlock 99 = .ok (.iaload, 1) := by decide +kernel
theorem dX4_newBlock_100 : decode cX4_newBlock 100 = .ok (.iastore, 1) := by decide +kernel
theorem dX4_newBlock_101 : decode cX4_newBlock 101 = .ok (.iinc 4 (-1), 3) := by decide +kernel
theorem dX4_newBlock_104 : decode cX4_newBlock 104 = .ok (.goto (-37), 3) := by decide +kernel
theorem dX4_newBlock_107 : decode cX4_newBlock 107 = .ok (.aload_n 0, 1) := by decide +kernel
theorem dX4_newBlock_108 : decode cX4_newBlock 108 = .ok (.getfield 28, 3) := by decide +kernel
theorem dX4_newBlock_111 : decode cX4_newBlock 111 = .ok (.sipush 600, 3) := by decide +kernel
theorem dX4_newBlock_114 : decode cX4_newBlock 114 = .ok (.iload_n 1, 1) := by decide +kernel
theorem dX4_newBlock_115 : decode cX4_newBlock 115 = .ok (.imul, 1) := by decide +kernel
theorem dX4_newBlock_116 : decode cX4_newBlock 116 = .ok (.iload_n 2, 1) := by decide +kernel
theorem dX4_newBlock_117 : decode cX4_newBlock 117 = .ok (.iadd, 1) := by decide +kernel
theorem dX4_newBlock_118 : decode cX4_newBlock 118 = .ok (.iload_n 3, 1) := by decide +kernel
theorem dX4_newBlock_119 : decode cX4_newBlock 119 = .ok (.iastore, 1) := by decide +kernel
theorem dX4_newBlock_120 : decode cX4_newBlock 120 = .ok (.aload_n 0, 1) := by decide +kernel
theorem dX4_newBlock_121 : decode cX4_newBlock 121 = .ok (.getfield 22, 3) := by decide +kernel
theorem dX4_newBlock_124 : decode cX4_newBlock 124 = .ok (.iload_n 1, 1) := by decide +kernel
theorem dX4_newBlock_125 : decode cX4_newBlock 125 = .ok (.dup2, 1) := by decide +kernel
theorem dX4_newBlock_126 : decode cX4_newBlock 126 = .ok (.iaload, 1) := by decide +kernel
theorem dX4_newBlock_127 : decode cX4_newBlock 127 = .ok (.iconst 1, 1) := by decide +kernel
theorem dX4_newBlock_128 : decode cX4_newBlock 128 = .ok (.iadd, 1) := by decide +kernel
theorem dX4_newBlock_129 : decode cX4_newBlock 129 = .ok (.iastore, 1) := by decide +kernel
theorem dX4_newBlock_130 : decode cX4_newBlock 130 = .ok (.iconst 0, 1) := by decide +kernel
theorem dX4_newBlock_131 : decode cX4_newBlock 131 = .ok (.istore 4, 2) := by decide +kernel
theorem dX4_newBlock_133 : decode cX4_newBlock 133 = .ok (.iload 4, 2) := by decide +kernel
theorem dX4_newBlock_135 : decode cX4_newBlock 135 = .ok (.aload_n 0, 1) := by decide +kernel
theorem dX4_newBlock_136 : decode cX4_newBlock 136 = .ok (.getfield 112, 3) := by decide +kernel
theorem dX4_newBlock_139 : decode cX4_newBlock 139 = .ok (.if_icmp .ge 29, 3) := by decide +kernel
theorem dX4_newBlock_142 : decode cX4_newBlock 142 = .ok (.aload_n 0, 1) := by decide +kernel
theorem dX4_newBlock_143 : decode cX4_newBlock 143 = .ok (.getfield 31, 3) := by decide +kernel
theorem dX4_newBlock_146 : decode cX4_newBlock 146 = .ok (.sipush 600, 3) := by decide +kernel
theorem dX4_newBlock_149 : decode cX4_newBlock 149 = .ok (.iload_n 1, 1) := by decide +kernel
theorem dX4_newBlock_150 : decode cX4_newBlock 150 = .ok (.imul, 1) := by decide +kernel
theorem dX4_newBlock_151 : decode cX4_newBlock 151 = .ok (.iload 4, 2) := by decide +kernel
theorem dX4_newBlock_153 : decode cX4_newBlock 153 = .ok (.iadd, 1) := by decide +kernel
theorem dX4_newBlock_154 : decode cX4_newBlock 154 = .ok (.aload_n 0, 1) := by decide +kernel
theorem dX4_newBlock_155 : decode cX4_newBlock 155 = .ok (.getfield 58, 3) := by decide +kernel
theorem dX4_newBlock_158 : decode cX4_newBlock 158 = .ok (.iload 4, 2) := by decide +kernel
theorem dX4_newBlock_160 : decode cX4_newBlock 160 = .ok (.laload, 1) := by decide +kernel
theorem dX4_newBlock_161 : decode cX4_newBlock 161 = .ok (.lastore, 1) := by decide +kernel
theorem dX4_newBlock_162 : decode cX4_newBlock 162 = .ok (.iinc 4 1, 3) := by decide +kernel
theorem dX4_newBlock_165 : decode cX4_newBlock 165 = .ok (.goto (-32), 3) := by decide +kernel
theorem dX4_newBlock_168 : decode cX4_newBlock 168 = .ok (.iconst 1, 1) := by decide +kernel
theorem dX4_newBlock_169 : decode cX4_newBlock 169 = .ok (.ireturn, 1) := by decide +kernel
def rmX4_newBlock : Room := { frames := 3, cells := 0, slots := 0, locals := 81 }
noncomputable def f_X4_newBlock_133 : Nat → Int32 → Int32 → MS → Option (Int32 × MS)
  | 0, _, _, _ => none
  | n + 1, x1, x4, u => (if (u.1 22) ≤ x4 then some (1, u) else (if ix x4 601 = true then (if ix ((600 * x1) + x4) 4800 = true then f_X4_newBlock_133 n x1 (x4 + 1) (mB u 9 (Int32.toNatClampNeg ((600 * x1) + x4)) (u.2.2 21 (Int32.toNatClampNeg x4))) else none) else none))
noncomputable def f_X4_newBlock_67 : Nat → Int32 → Int32 → Int32 → Int32 → MS → Option (Int32 × MS)
  | 0, _, _, _, _, _ => none
  | n + 1, x1, x2, x3, x4, u => (if x4 ≤ x2 then (if ix ((600 * x1) + x2) 4800 = true then (if ix x1 8 = true then (if ix x1 8 = true then f_X4_newBlock_133 NF x1 0 (mA (mA u 8 (Int32.toNatClampNeg ((600 * x1) + x2)) x3) 6 (Int32.toNatClampNeg x1) (((mA u 8 (Int32.toNatClampNeg ((600 * x1) + x2)) x3).2.1 6 (Int32.toNatClampNeg x1)) + 1)) else none) else none) else none) else (if ix (((600 * x1) + x4) - 1) 4800 = true then (if ix ((600 * x1) + x4) 4800 = true then f_X4_newBlock_67 n x1 x2 x3 (x4 + (-1)) (mA u 8 (Int32.toNatClampNeg ((600 * x1) + x4)) (u.2.1 8 (Int32.toNatClampNeg (((600 * x1) + x4) - 1)))) else none) else none))
noncomputable def f_X4_newBlock_13 : Nat → Int32 → Int32 → Int32 → Int32 → MS → Option (Int32 × MS)
  | 0, _, _, _, _, _ => none
  | n + 1, x1, x2, x3, x4, u => (if (u.1 22) ≤ x4 then (f_X4_spread x1 x2 u).bind (fun z3 => (if z3.1 = 0 then some (0, z3.2) else (if ix x1 8 = true then f_X4_newBlock_67 NF x1 x2 x3 (z3.2.2.1 6 (Int32.toNatClampNeg x1)) z3.2 else none))) else (if ix ((600 * x1) + x4) 4800 = true then (if ix x4 601 = true then f_X4_newBlock_13 n x1 x2 x3 (x4 + 1) (mB u 21 (Int32.toNatClampNeg x4) (u.2.2 9 (Int32.toNatClampNeg ((600 * x1) + x4)))) else none) else none))
noncomputable def f_X4_newBlock (x1 : Int32) (x2 : Int32) (x3 : Int32) (u : MS) : Option (Int32 × MS) := (if ix x1 8 = true then f_X4_newBlock_13 NF x1 x2 x3 0 (mF u 22 (u.2.1 6 (Int32.toNatClampNeg x1))) else none)
section
variable {p : Program} {l : Launch} {e : Env} {s : State} {m : MethodId} {args : Array Value} {below : List Frame} {meth : Method} {c : Code}
variable {G : GX} {A : Nat → Prop} {ad : Nat → Nat}
set_option maxHeartbeats 4000000 in
set_option maxRecDepth 100000 in
theorem w_X4_newBlock_133 (F : FX p m c cX4_newBlock 5 s args yX4_newBlock (some .boolean) RX4 meth) {z : Int32 × MS} : ∀ (n : Nat) (x1 : Int32) (x4 : Int32) (u : MS) (H : Heap) (locs : List Loc) (ls : Array Slot), WD G A s (mw G ad u) H locs → lv_has ls 5 [(0, .ref (ad 0)), (1, .int x1), (4, .int x4)] → f_X4_newBlock_133 n x1 x4 u = some z → W p l e rmX4_newBlock s m args below meth c H locs 0 0 (MQ below (QW G (mw G ad z.2) A (some (.int z.1))) args s 0 0 A) (F0 m 133 ls []) := by
  obtain ⟨⟨hx, hb, hml, hown, hts⟩, hr, hlocks⟩ := id F
  intro n
  induction n with
  | zero =>
    intro x1 x4 u H locs ls hw hl h
    rw [f_X4_newBlock_133] at h
    cases h
  | succ n ih =>
    intro x1 x4 u H locs ls hw hl h
    rw [f_X4_newBlock_133] at h
    refine lv_iload hx hb dX4_newBlock_133 (lv_at hl 2 rfl) ?_
    refine lv_aload_n hx hb dX4_newBlock_135 rfl (lv_at hl 0 rfl) ?_
    refine m_g22 F hw dX4_newBlock_136 ?_
    refine lv_icmp_ge (tgt := 168) hx hb dX4_newBlock_139 rfl (fun c15 => ?_) (fun c15 => ?_)
    · replace h := itT h c15
      refine lv_iconst (v := 1) hx hb dX4_newBlock_168 rfl ?_
      cases h
      exact retW_z F hw narrow_b1 dX4_newBlock_169
    · replace h := itF h c15
      refine lv_aload_n hx hb dX4_newBlock_142 rfl (lv_at hl 0 rfl) ?_
      refine m_g9 F hw dX4_newBlock_143 ?_
      refine lv_sipush (v := 600) hx hb dX4_newBlock_146 rfl ?_
      refine lv_iload_n hx hb dX4_newBlock_149 rfl (lv_at hl 1 rfl) ?_
      refine lv_imul hx hb dX4_newBlock_150 ?_
      refine lv_iload hx hb dX4_newBlock_151 (lv_at hl 2 rfl) ?_
      refine lv_iadd hx hb dX4_newBlock_153 ?_
      refine lv_aload_n hx hb dX4_newBlock_154 rfl (lv_at hl 0 rfl) ?_
      refine m_g21 F hw dX4_newBlock_155 ?_
      refine lv_iload hx hb dX4_newBlock_158 (lv_at hl 2 rfl) ?_
      obtain ⟨g16, h⟩ := gd h
      refine m_l21 F hw g16 dX4_newBlock_160 ?_
      obtain ⟨g17, h⟩ := gd h
      refine m_s9 F hw g17 dX4_newBlock_161 (fun H locs hw => ?_)
      refine lv_iinc (v := (x4 + 1)) (lv' := [(4, .int (x4 + 1)), (0, .ref (ad 0)), (1, .int x1)]) hx hb dX4_newBlock_162 hl (k := 2) rfl rfl (by decide) rfl (fun ls hl => ?_)
      refine lv_goto (tgt := 133) hx hb dX4_newBlock_165 rfl ?_
      exact ih _ _ _ _ _ _ hw (lv_sub hl [1, 2, 0] rfl) h
set_option maxHeartbeats 4000000 in
set_option maxRecDepth 100000 in
theorem w_X4_newBlock_67 (F : FX p m c cX4_newBlock 5 s args yX4_newBlock (some .boolean) RX4 meth) {z : Int32 × MS} : ∀ (n : Nat) (x1 : Int32) (x2 : Int32) (x3 : Int32) (x4 : Int32) (u : MS) (H : Heap) (locs : List Loc) (ls : Array Slot), WD G A s (mw G ad u) H locs → lv_has ls 5 [(0, .ref (ad 0)), (1, .int x1), (2, .int x2), (3, .int x3), (4, .int x4)] → f_X4_newBlock_67 n x1 x2 x3 x4 u = some z → W p l e rmX4_newBlock s m args below meth c H locs 0 0 (MQ below (QW G (mw G ad z.2) A (some (.int z.1))) args s 0 0 A) (F0 m 67 ls []) := by
  obtain ⟨⟨hx, hb, hml, hown, hts⟩, hr, hlocks⟩ := id F
  intro n
  induction n with
  | zero =>
    intro x1 x2 x3 x4 u H locs ls hw hl h
    rw [f_X4_newBlock_67] at h
    cases h
  | succ n ih =>
    intro x1 x2 x3 x4 u H locs ls hw hl h
    rw [f_X4_newBlock_67] at h
    refine lv_iload hx hb dX4_newBlock_67 (lv_at hl 4 rfl) ?_
    refine lv_iload_n hx hb dX4_newBlock_69 rfl (lv_at hl 2 rfl) ?_
    refine lv_icmp_le (tgt := 107) hx hb dX4_newBlock_70 rfl (fun c9 => ?_) (fun c9 => ?_)
    · replace h := itT h c9
      refine lv_aload_n hx hb dX4_newBlock_107 rfl (lv_at hl 0 rfl) ?_
      refine m_g8 F hw dX4_newBlock_108 ?_
      refine lv_sipush (v := 600) hx hb dX4_newBlock_111 rfl ?_
      refine lv_iload_n hx hb dX4_newBlock_114 rfl (lv_at hl 1 rfl) ?_
      refine lv_imul hx hb dX4_newBlock_115 ?_
      refine lv_iload_n hx hb dX4_newBlock_116 rfl (lv_at hl 2 rfl) ?_
      refine lv_iadd hx hb dX4_newBlock_117 ?_
      refine lv_iload_n hx hb dX4_newBlock_118 rfl (lv_at hl 3 rfl) ?_
      obtain ⟨g10, h⟩ := gd h
      refine m_s8 F hw g10 dX4_newBlock_119 (fun H locs hw => ?_)
      refine lv_aload_n hx hb dX4_newBlock_120 rfl (lv_at hl 0 rfl) ?_
      refine m_g6 F hw dX4_newBlock_121 ?_
      refine lv_iload_n hx hb dX4_newBlock_124 rfl (lv_at hl 1 rfl) ?_
      refine lv_dup2_11 hx hb dX4_newBlock_125 rfl rfl ?_
      obtain ⟨g11, h⟩ := gd h
      refine m_l6 F hw g11 dX4_newBlock_126 ?_
      refine lv_iconst (v := 1) hx hb dX4_newBlock_127 rfl ?_
      refine lv_iadd hx hb dX4_newBlock_128 ?_
      obtain ⟨g12, h⟩ := gd h
      refine m_s6 F hw g12 dX4_newBlock_129 (fun H locs hw => ?_)
      refine lv_iconst (v := 0) hx hb dX4_newBlock_130 rfl ?_
      refine lv_istore (lv' := [(4, .int 0), (0, .ref (ad 0)), (1, .int x1), (2, .int x2), (3, .int x3)]) hx hb dX4_newBlock_131 hl (by decide) rfl (fun ls hl => ?_)
      exact w_X4_newBlock_133 F NF _ _ _ _ _ _ hw (lv_sub hl [1, 2, 0] rfl) h
    · replace h := itF h c9
      refine lv_aload_n hx hb dX4_newBlock_73 rfl (lv_at hl 0 rfl) ?_
      refine m_g8 F hw dX4_newBlock_74 ?_
      refine lv_sipush (v := 600) hx hb dX4_newBlock_77 rfl ?_
      refine lv_iload_n hx hb dX4_newBlock_80 rfl (lv_at hl 1 rfl) ?_
      refine lv_imul hx hb dX4_newBlock_81 ?_
      refine lv_iload hx hb dX4_newBlock_82 (lv_at hl 4 rfl) ?_
      refine lv_iadd hx hb dX4_newBlock_84 ?_
      refine lv_aload_n hx hb dX4_newBlock_85 rfl (lv_at hl 0 rfl) ?_
      refine m_g8 F hw dX4_newBlock_86 ?_
      refine lv_sipush (v := 600) hx hb dX4_newBlock_89 rfl ?_
      refine lv_iload_n hx hb dX4_newBlock_92 rfl (lv_at hl 1 rfl) ?_
      refine lv_imul hx hb dX4_newBlock_93 ?_
      refine lv_iload hx hb dX4_newBlock_94 (lv_at hl 4 rfl) ?_
      refine lv_iadd hx hb dX4_newBlock_96 ?_
      refine lv_iconst (v := 1) hx hb dX4_newBlock_97 rfl ?_
      refine lv_isub hx hb dX4_newBlock_98 ?_
      obtain ⟨g13, h⟩ := gd h
      refine m_l8 F hw g13 dX4_newBlock_99 ?_
      obtain ⟨g14, h⟩ := gd h
      refine m_s8 F hw g14 dX4_newBlock_100 (fun H locs hw => ?_)
      refine lv_iinc (v := (x4 + (-1))) (lv' := [(4, .int (x4 + (-1))), (0, .ref (ad 0)), (1, .int x1), (2, .int x2), (3, .int x3)]) hx hb dX4_newBlock_101 hl (k := 4) rfl rfl (by decide) rfl (fun ls hl => ?_)
      refine lv_goto (tgt := 67) hx hb dX4_newBlock_104 rfl ?_
      exact ih _ _ _ _ _ _ _ _ hw (lv_sub hl [1, 2, 3, 4, 0] rfl) h
set_option maxHeartbeats 4000000 in
set_option maxRecDepth 100000 in
theorem w_X4_newBlock_13 (F : FX p m c cX4_newBlock 5 s args yX4_newBlock (some .boolean) RX4 meth) {z : Int32 × MS} : ∀ (n : Nat) (x1 : Int32) (x2 : Int32) (x3 : Int32) (x4 : Int32) (u : MS) (H : Heap) (locs : List Loc) (ls : Array Slot), WD G A s (mw G ad u) H locs → lv_has ls 5 [(0, .ref (ad 0)), (1, .int x1), (2, .int x2), (3, .int x3), (4, .int x4)] → f_X4_newBlock_13 n x1 x2 x3 x4 u = some z → W p l e rmX4_newBlock s m args below meth c H locs 0 0 (MQ below (QW G (mw G ad z.2) A (some (.int z.1))) args s 0 0 A) (F0 m 13 ls []) := by
  obtain ⟨⟨hx, hb, hml, hown, hts⟩, hr, hlocks⟩ := id F
  intro n
  induction n with
  | zero =>
    intro x1 x2 x3 x4 u H locs ls hw hl h
    rw [f_X4_newBlock_13] at h
    cases h
  | succ n ih =>
    intro x1 x2 x3 x4 u H locs ls hw hl h
    rw [f_X4_newBlock_13] at h
    refine lv_iload hx hb dX4_newBlock_13 (lv_at hl 4 rfl) ?_
    refine lv_aload_n hx hb dX4_newBlock_15 rfl (lv_at hl 0 rfl) ?_
    refine m_g22 F hw dX4_newBlock_16 ?_
    refine lv_icmp_ge (tgt := 48) hx hb dX4_newBlock_19 rfl (fun c2 => ?_) (fun c2 => ?_)
    · replace h := itT h c2
      refine lv_aload_n hx hb dX4_newBlock_48 rfl (lv_at hl 0 rfl) ?_
      refine lv_iload_n hx hb dX4_newBlock_49 rfl (lv_at hl 1 rfl) ?_
      refine lv_iload_n hx hb dX4_newBlock_50 rfl (lv_at hl 2 rfl) ?_
      obtain ⟨z3, e4, h⟩ := bnd h
      refine k_X4_spread F hw e4 ⟨Nat.le_of_ble_eq_true rfl, Nat.le_of_ble_eq_true rfl⟩ ⟨Nat.zero_le _, Nat.zero_le _⟩ hl.1 (Nat.le_of_ble_eq_true rfl) dX4_newBlock_51 (fun H locs hw => ?_)
      refine lv_if_ne (tgt := 59) hx hb dX4_newBlock_54 rfl (fun c5 => ?_) (fun c5 => ?_)
      · replace h := itF h c5
        refine lv_aload_n hx hb dX4_newBlock_59 rfl (lv_at hl 0 rfl) ?_
        refine m_g6 F hw dX4_newBlock_60 ?_
        refine lv_iload_n hx hb dX4_newBlock_63 rfl (lv_at hl 1 rfl) ?_
        obtain ⟨g6, h⟩ := gd h
        refine m_l6 F hw g6 dX4_newBlock_64 ?_
        refine lv_istore (lv' := [(4, .int (z3.2.2.1 6 (Int32.toNatClampNeg x1))), (0, .ref (ad 0)), (1, .int x1), (2, .int x2), (3, .int x3)]) hx hb dX4_newBlock_65 hl (by decide) rfl (fun ls hl => ?_)
        exact w_X4_newBlock_67 F NF _ _ _ _ _ _ _ _ hw (lv_sub hl [1, 2, 3, 4, 0] rfl) h
      · replace h := itT h c5
        refine lv_iconst (v := 0) hx hb dX4_newBlock_57 rfl ?_
        cases h
        exact retW_z F hw narrow_b0 dX4_newBlock_58
    · replace h := itF h c2
      refine lv_aload_n hx hb dX4_newBlock_22 rfl (lv_at hl 0 rfl) ?_
      refine m_g21 F hw dX4_newBlock_23 ?_
      refine lv_iload hx hb dX4_newBlock_26 (lv_at hl 4 rfl) ?_
      refine lv_aload_n hx hb dX4_newBlock_28 rfl (lv_at hl 0 rfl) ?_
      refine m_g9 F hw dX4_newBlock_29 ?_
      refine lv_sipush (v := 600) hx hb dX4_newBlock_32 rfl ?_
      refine lv_iload_n hx hb dX4_newBlock_35 rfl (lv_at hl 1 rfl) ?_
      refine lv_imul hx hb dX4_newBlock_36 ?_
      refine lv_iload hx hb dX4_newBlock_37 (lv_at hl 4 rfl) ?_
      refine lv_iadd hx hb dX4_newBlock_39 ?_
      obtain ⟨g7, h⟩ := gd h
      refine m_l9 F hw g7 dX4_newBlock_40 ?_
      obtain ⟨g8, h⟩ := gd h
      refine m_s21 F hw g8 dX4_newBlock_41 (fun H locs hw => ?_)
      refine lv_iinc (v := (x4 + 1)) (lv' := [(4, .int (x4 + 1)), (0, .ref (ad 0)), (1, .int x1), (2, .int x2), (3, .int x3)]) hx hb dX4_newBlock_42 hl (k := 4) rfl rfl (by decide) rfl (fun ls hl => ?_)
      refine lv_goto (tgt := 13) hx hb dX4_newBlock_45 rfl ?_
      exact ih _ _ _ _ _ _ _ _ hw (lv_sub hl [1, 2, 3, 4, 0] rfl) h
set_option maxHeartbeats 4000000 in
set_option maxRecDepth 100000 in
theorem w_X4_newBlock_0 (F : FX p m c cX4_newBlock 5 s args yX4_newBlock (some .boolean) RX4 meth) {z : Int32 × MS} : ∀ (x1 : Int32) (x2 : Int32) (x3 : Int32) (u : MS) (H : Heap) (locs : List Loc) (ls : Array Slot), WD G A s (mw G ad u) H locs → lv_has ls 5 [(0, .ref (ad 0)), (1, .int x1), (2, .int x2), (3, .int x3)] → f_X4_newBlock x1 x2 x3 u = some z → W p l e rmX4_newBlock s m args below meth c H locs 0 0 (MQ below (QW G (mw G ad z.2) A (some (.int z.1))) args s 0 0 A) (F0 m 0 ls []) := by
  obtain ⟨⟨hx, hb, hml, hown, hts⟩, hr, hlocks⟩ := id F
  intro x1 x2 x3 u H locs ls hw hl h
  unfold f_X4_newBlock at h
  refine lv_aload_n hx hb dX4_newBlock_0 rfl (lv_at hl 0 rfl) ?_
  refine lv_aload_n hx hb dX4_newBlock_1 rfl (lv_at hl 0 rfl) ?_
  refine m_g6 F hw dX4_newBlock_2 ?_
  refine lv_iload_n hx hb dX4_newBlock_5 rfl (lv_at hl 1 rfl) ?_
  obtain ⟨g1, h⟩ := gd h
  refine m_l6 F hw g1 dX4_newBlock_6 ?_
  refine m_p22 F hw dX4_newBlock_7 (fun H locs hw => ?_)
  refine lv_iconst (v := 0) hx hb dX4_newBlock_10 rfl ?_
  refine lv_istore (lv' := [(4, .int 0), (0, .ref (ad 0)), (1, .int x1), (2, .int x2), (3, .int x3)]) hx hb dX4_newBlock_11 hl (by decide) rfl (fun ls hl => ?_)
  exact w_X4_newBlock_13 F NF _ _ _ _ _ _ _ _ hw (lv_sub hl [1, 2, 3, 4, 0] rfl) h
end
theorem c_X4_newBlock {l : Launch} {G : GX} {ad : Nat → Nat} {x1 : Int32} {x2 : Int32} {x3 : Int32} {u : MS} {z : Int32 × MS} (h : f_X4_newBlock x1 x2 x3 u = some z) : MW l yX4_newBlock cX4_newBlock 5 (some .boolean) rmX4_newBlock G (mw G ad u) (mw G ad z.2) [.ref (ad 0), .int x1, .int x2, .int x3] (some (.int z.1)) := MW.of (by decide) (Nat.le_of_ble_eq_true rfl) (fun p e s m below meth c ls F hw hl => w_X4_newBlock_0 F _ _ _ _ _ _ _ hw hl h)
theorem yv_X4_newBlock : YV RX4 143 yX4_newBlock cX4_newBlock 5 (some .boolean) 3 := ⟨(tw 665 (by decide +kernel) rfl), (tw 6 (by decide +kernel) rfl), (tw 662 (by decide +kernel) rfl), (tw 664 (by decide +kernel) rfl), (tp 25 (by decide +kernel) rfl), by decide +kernel⟩
theorem k_X4_newBlock {p : Program} {l : Launch} {e : Env} {R : Room} {s : State} {m : MethodId} {args : Array Value} {below : List Frame} {meth : Method} {c : Code} {H : Heap} {locs : List Loc} {cells slots : Nat} {Q : State → Prop} {G : GX} {A : Nat → Prop} {ad : Nat → Nat} {cc : ByteArray} {nL pc : Nat} {y0 : MethodName} {ret0 : Option FieldType} {ls : Array Slot} {rest : List Value} {u : MS} {x1 : Int32} {x2 : Int32} {x3 : Int32} {z : Int32 × MS} (F : FX p m c cc nL s args y0 ret0 RX4 meth) (hw : WD G A s (mw G ad u) H locs) (h : f_X4_newBlock x1 x2 x3 u = some z) (hR : rmX4_newBlock.frames + 1 ≤ R.frames ∧ 8 + (5 + 11) + rmX4_newBlock.locals ≤ R.locals) (hcs : cells ≤ R.cells ∧ slots ≤ R.slots) (hsz : ls.size = nL) (hW : (rest.map fun v => v.category).sum ≤ 8) (hdg : decode cc pc = .ok (.invokevirtual 143, 3)) (kk : ∀ (H : Heap) (locs : List Loc), WD G A s (mw G ad z.2) H locs → W p l e R s m args below meth c H locs cells slots Q (F0 m (pc + 3) ls (.int z.1 :: rest))) : W p l e R s m args below meth c H locs cells slots Q (F0 m pc ls (.int x3 :: .int x2 :: .int x1 :: .ref (ad 0) :: rest)) := callW (runV F yv_X4_newBlock (c_X4_newBlock h) hw.1 hw.2.1 hw.2.2.1 rfl rfl rfl ⟨rfl, rfl⟩ hR hcs rfl hsz rfl hW hdg) hw.2.2.2 hw.2.2.1.own_in (fun H1 l1 hP _ hS => kk H1 l1 ⟨hw.1, hP, hw.2.2.1.addr rfl, hS⟩)
/-! ===== X4_blockAt ===== -/
theorem dX4_blockAt_0 : decode cX4_blockAt 0 = .ok (.iconst 0, 1) := by decide +kernel
theorem dX4_blockAt_1 : decode cX4_blockAt 1 = .ok (.istore_n 3, 1) := by decide +kernel
theorem dX4_blockAt_2 : decode cX4_blockAt 2 = .ok (.iload_n 2, 1) := by decide +kernel
theorem dX4_blockAt_3 : decode cX4_blockAt 3 = .ok (.istore 4, 2) := by decide +kernel
theorem dX4_blockAt_5 : decode cX4_blockAt 5 = .ok (.iload 4, 2) := by decide +kernel
theorem dX4_blockAt_7 : decode cX4_blockAt 7 = .ok (.aload_n 0, 1) := by decide +kernel
theorem dX4_blockAt_8 : decode cX4_blockAt 8 = .ok (.getfield 28, 3) := by decide +kernel
theorem dX4_blockAt_11 : decode cX4_blockAt 11 = .ok (.sipush 600, 3) := by decide +kernel
theorem dX4_blockAt_14 : decode cX4_blockAt 14 = .ok (.iload_n 1, 1) := by decide +kernel
theorem dX4_blockAt_15 : decode cX4_blockAt 15 = .ok (.imul, 1) := by decide +kernel
theorem dX4_blockAt_16 : decode cX4_blockAt 16 = .ok (.iload_n 3, 1) := by decide +kernel
theorem dX4_blockAt_17 : decode cX4_blockAt 17 = .ok (.iadd, 1) := by decide +kernel
theorem dX4_blockAt_18 : decode cX4_blockAt 18 = .ok (.iaload, 1) := by decide +kernel
theorem dX4_blockAt_19 : decode cX4_blockAt 19 = .ok (.if_icmp .lt 26, 3) := by decide +kernel
theorem dX4_blockAt_22 : decode cX4_blockAt 22 = .ok (.iload 4, 2) := by decide +kernel
theorem dX4_blockAt_24 : decode cX4_blockAt 24 = .ok (.aload_n 0, 1) := by decide +kernel
theorem dX4_blockAt_25 : decode cX4_blockAt 25 = .ok (.getfield 28, 3) := by decide +kernel
theorem dX4_blockAt_28 : decode cX4_blockAt 28 = .ok (.sipush 600, 3) := by decide +kernel
theorem dX4_blockAt_31 : decode cX4_blockAt 31 = .ok (.iload_n 1, 1) := by decide +kernel
theorem dX4_blockAt_32 : decode cX4_blockAt 32 = .ok (.imul, 1) := by decide +kernel
theorem dX4_blockAt_33 : decode cX4_blockAt 33 = .ok (.iload_n 3, 1) := by decide +kernel
theorem dX4_blockAt_34 : decode cX4_blockAt 34 = .ok (.iadd, 1) := by decide +kernel
theorem dX4_blockAt_35 : decode cX4_blockAt 35 = .ok (.iaload, 1) := by decide +kernel
theorem dX4_blockAt_36 : decode cX4_blockAt 36 = .ok (.isub, 1) := by decide +kernel
theorem dX4_blockAt_37 : decode cX4_blockAt 37 = .ok (.istore 4, 2) := by decide +kernel
theorem dX4_blockAt_39 : decode cX4_blockAt 39 = .ok (.iinc 3 1, 3) := by decide +kernel
theorem dX4_blockAt_42 : decode cX4_blockAt 42 = .ok (.goto (-37), 3) := by decide +kernel
theorem dX4_blockAt_45 : decode cX4_blockAt 45 = .ok (.iload_n 3, 1) := by decide +kernel
theorem dX4_blockAt_46 : decode cX4_blockAt 46 = .ok (.ireturn, 1) := by decide +kernel
def rmX4_blockAt : Room := { frames := 0, cells := 0, slots := 0, locals := 0 }
noncomputable def f_X4_blockAt_5 : Nat → Int32 → Int32 → Int32 → MS → Option (Int32)
  | 0, _, _, _, _ => none
  | n + 1, x1, x3, x4, u => (if ix ((600 * x1) + x3) 4800 = true then (if x4 < (u.2.1 8 (Int32.toNatClampNeg ((600 * x1) + x3))) then some x3 else (if ix ((600 * x1) + x3) 4800 = true then f_X4_blockAt_5 n x1 (x3 + 1) (x4 - (u.2.1 8 (Int32.toNatClampNeg ((600 * x1) + x3)))) u else none)) else none)
noncomputable def f_X4_blockAt (x1 : Int32) (x2 : Int32) (u : MS) : Option (Int32) := f_X4_blockAt_5 NF x1 0 x2 u
section
variable {p : Program} {l : Launch} {e : Env} {s : State} {m : MethodId} {args : Array Value} {below : List Frame} {meth : Method} {c : Code}
variable {G : GX} {A : Nat → Prop} {ad : Nat → Nat}
set_option maxHeartbeats 4000000 in
set_option maxRecDepth 100000 in
theorem w_X4_blockAt_5 (F : FX p m c cX4_blockAt 5 s args yX4_blockAt (some .int) RX4 meth) {z : Int32} : ∀ (n : Nat) (x1 : Int32) (x3 : Int32) (x4 : Int32) (u : MS) (ls : Array Slot), WD G A s (mw G ad u) s.heap [] → lv_has ls 5 [(0, .ref (ad 0)), (1, .int x1), (3, .int x3), (4, .int x4)] → f_X4_blockAt_5 n x1 x3 x4 u = some z → W p l e rmX4_blockAt s m args below meth c s.heap [] 0 0 (MQ below (QO (some (.int z))) args s 0 0 (fun _ => False)) (F0 m 5 ls []) := by
  obtain ⟨⟨hx, hb, hml, hown, hts⟩, hr, hlocks⟩ := id F
  intro n
  induction n with
  | zero =>
    intro x1 x3 x4 u ls hw hl h
    rw [f_X4_blockAt_5] at h
    cases h
  | succ n ih =>
    intro x1 x3 x4 u ls hw hl h
    rw [f_X4_blockAt_5] at h
    refine lv_iload hx hb dX4_blockAt_5 (lv_at hl 3 rfl) ?_
    refine lv_aload_n hx hb dX4_blockAt_7 rfl (lv_at hl 0 rfl) ?_
    refine m_g8 F hw dX4_blockAt_8 ?_
    refine lv_sipush (v := 600) hx hb dX4_blockAt_11 rfl ?_
    refine lv_iload_n hx hb dX4_blockAt_14 rfl (lv_at hl 1 rfl) ?_
    refine lv_imul hx hb dX4_blockAt_15 ?_
    refine lv_iload_n hx hb dX4_blockAt_16 rfl (lv_at hl 2 rfl) ?_
    refine lv_iadd hx hb dX4_blockAt_17 ?_
    obtain ⟨g1, h⟩ := gd h
    refine m_l8 F hw g1 dX4_blockAt_18 ?_
    refine lv_icmp_lt (tgt := 45) hx hb dX4_blockAt_19 rfl (fun c2 => ?_) (fun c2 => ?_)
    · replace h := itT h c2
      refine lv_iload_n hx hb dX4_blockAt_45 rfl (lv_at hl 2 rfl) ?_
      cases h
      exact retO_i F dX4_blockAt_46
    · replace h := itF h c2
      refine lv_iload hx hb dX4_blockAt_22 (lv_at hl 3 rfl) ?_
      refine lv_aload_n hx hb dX4_blockAt_24 rfl (lv_at hl 0 rfl) ?_
      refine m_g8 F hw dX4_blockAt_25 ?_
      refine lv_sipush (v := 600) hx hb dX4_blockAt_28 rfl ?_
      refine lv_iload_n hx hb dX4_blockAt_31 rfl (lv_at hl 1 rfl) ?_
      refine lv_imul hx hb dX4_blockAt_32 ?_
      refine lv_iload_n hx hb dX4_blockAt_33 rfl (lv_at hl 2 rfl) ?_
      refine lv_iadd hx hb dX4_blockAt_34 ?_
      obtain ⟨g3, h⟩ := gd h
      refine m_l8 F hw g3 dX4_blockAt_35 ?_
      refine lv_isub hx hb dX4_blockAt_36 ?_
      refine lv_istore (lv' := [(4, .int (x4 - (u.2.1 8 (Int32.toNatClampNeg ((600 * x1) + x3))))), (0, .ref (ad 0)), (1, .int x1), (3, .int x3)]) hx hb dX4_blockAt_37 hl (by decide) rfl (fun ls hl => ?_)
      refine lv_iinc (v := (x3 + 1)) (lv' := [(3, .int (x3 + 1)), (4, .int (x4 - (u.2.1 8 (Int32.toNatClampNeg ((600 * x1) + x3))))), (0, .ref (ad 0)), (1, .int x1)]) hx hb dX4_blockAt_39 hl (k := 3) rfl rfl (by decide) rfl (fun ls hl => ?_)
      refine lv_goto (tgt := 5) hx hb dX4_blockAt_42 rfl ?_
      exact ih _ _ _ _ _ hw (lv_sub hl [2, 3, 0, 1] rfl) h
set_option maxHeartbeats 4000000 in
set_option maxRecDepth 100000 in
theorem w_X4_blockAt_0 (F : FX p m c cX4_blockAt 5 s args yX4_blockAt (some .int) RX4 meth) {z : Int32} : ∀ (x1 : Int32) (x2 : Int32) (u : MS) (ls : Array Slot), WD G A s (mw G ad u) s.heap [] → lv_has ls 5 [(0, .ref (ad 0)), (1, .int x1), (2, .int x2)] → f_X4_blockAt x1 x2 u = some z → W p l e rmX4_blockAt s m args below meth c s.heap [] 0 0 (MQ below (QO (some (.int z))) args s 0 0 (fun _ => False)) (F0 m 0 ls []) := by
  obtain ⟨⟨hx, hb, hml, hown, hts⟩, hr, hlocks⟩ := id F
  intro x1 x2 u ls hw hl h
  unfold f_X4_blockAt at h
  refine lv_iconst (v := 0) hx hb dX4_blockAt_0 rfl ?_
  refine lv_istore_n (lv' := [(3, .int 0), (0, .ref (ad 0)), (1, .int x1), (2, .int x2)]) hx hb dX4_blockAt_1 rfl hl (by decide) rfl (fun ls hl => ?_)
  refine lv_iload_n hx hb dX4_blockAt_2 rfl (lv_at hl 3 rfl) ?_
  refine lv_istore (lv' := [(4, .int x2), (3, .int 0), (0, .ref (ad 0)), (1, .int x1), (2, .int x2)]) hx hb dX4_blockAt_3 hl (by decide) rfl (fun ls hl => ?_)
  exact w_X4_blockAt_5 F NF _ _ _ _ _ hw (lv_sub hl [2, 3, 1, 0] rfl) h
end
theorem c_X4_blockAt {l : Launch} {G : GX} {ad : Nat → Nat} {x1 : Int32} {x2 : Int32} {u : MS} {z : Int32} (h : f_X4_blockAt x1 x2 u = some z) : MO l yX4_blockAt cX4_blockAt 5 (some .int) rmX4_blockAt G (mw G ad u) [.ref (ad 0), .int x1, .int x2] (some (.int z)) := MO.of (by decide) (Nat.le_of_ble_eq_true rfl) (fun p e s m below meth c ls F hw hl => w_X4_blockAt_0 F _ _ _ _ hw hl h)
theorem yv_X4_blockAt : YV RX4 146 yX4_blockAt cX4_blockAt 5 (some .int) 2 := ⟨(tw 691 (by decide +kernel) rfl), (tw 6 (by decide +kernel) rfl), (tw 688 (by decide +kernel) rfl), (tw 690 (by decide +kernel) rfl), (tp 31 (by decide +kernel) rfl), by decide +kernel⟩
theorem k_X4_blockAt {p : Program} {l : Launch} {e : Env} {R : Room} {s : State} {m : MethodId} {args : Array Value} {below : List Frame} {meth : Method} {c : Code} {H : Heap} {locs : List Loc} {cells slots : Nat} {Q : State → Prop} {G : GX} {A : Nat → Prop} {ad : Nat → Nat} {cc : ByteArray} {nL pc : Nat} {y0 : MethodName} {ret0 : Option FieldType} {ls : Array Slot} {rest : List Value} {u : MS} {x1 : Int32} {x2 : Int32} {z : Int32} (F : FX p m c cc nL s args y0 ret0 RX4 meth) (hw : WD G A s (mw G ad u) H locs) (h : f_X4_blockAt x1 x2 u = some z) (hR : rmX4_blockAt.frames + 1 ≤ R.frames ∧ 8 + (5 + 11) + rmX4_blockAt.locals ≤ R.locals) (hcs : cells ≤ R.cells ∧ slots ≤ R.slots) (hsz : ls.size = nL) (hW : (rest.map fun v => v.category).sum ≤ 8) (hdg : decode cc pc = .ok (.invokevirtual 146, 3)) (kk : W p l e R s m args below meth c H locs cells slots Q (F0 m (pc + 3) ls (.int z :: rest))) : W p l e R s m args below meth c H locs cells slots Q (F0 m pc ls (.int x2 :: .int x1 :: .ref (ad 0) :: rest)) := callO (runV F yv_X4_blockAt (c_X4_blockAt h) hw.1 hw.2.1 hw.2.2.1 rfl rfl rfl ⟨rfl, rfl⟩ hR hcs rfl hsz rfl hW hdg) kk
/-! ===== X4_beginOf ===== -/
theorem dX4_beginOf_0 : decode cX4_beginOf 0 = .ok (.iconst 0, 1) := by decide +kernel
theorem dX4_beginOf_1 : decode cX4_beginOf 1 = .ok (.istore_n 3, 1) := by decide +kernel
theorem dX4_beginOf_2 : decode cX4_beginOf 2 = .ok (.iconst 0, 1) := by decide +kernel
theorem dX4_beginOf_3 : decode cX4_beginOf 3 = .ok (.istore 4, 2) := by decide +kernel
theorem dX4_beginOf_5 : decode cX4_beginOf 5 = .ok (.iload 4, 2) := by decide +kernel
theorem dX4_beginOf_7 : decode cX4_beginOf 7 = .ok (.iload_n 2, 1) := by decide +kernel
theorem dX4_beginOf_8 : decode cX4_beginOf 8 = .ok (.if_icmp .ge 25, 3) := by decide +kernel
theorem dX4_beginOf_11 : decode cX4_beginOf 11 = .ok (.iload_n 3, 1) := by decide +kernel
theorem dX4_beginOf_12 : decode cX4_beginOf 12 = .ok (.aload_n 0, 1) := by decide +kernel
theorem dX4_beginOf_13 : decode cX4_beginOf 13 = .ok (.getfield 28, 3) := by decide +kernel
theorem dX4_beginOf_16 : decode cX4_beginOf 16 = .ok (.sipush 600, 3) := by decide +kernel
theorem dX4_beginOf_19 : decode cX4_beginOf 19 = .ok (.iload_n 1, 1) := by decide +kernel
theorem dX4_beginOf_20 : decode cX4_beginOf 20 = .ok (.imul, 1) := by decide +kernel
theorem dX4_beginOf_21 : decode cX4_beginOf 21 = .ok (.iload 4, 2) := by decide +kernel
theorem dX4_beginOf_23 : decode cX4_beginOf 23 = .ok (.iadd, 1) := by decide +kernel
theorem dX4_beginOf_24 : decode cX4_beginOf 24 = .ok (.iaload, 1) := by decide +kernel
theorem dX4_beginOf_25 : decode cX4_beginOf 25 = .ok (.iadd, 1) := by decide +kernel
theorem dX4_beginOf_26 : decode cX4_beginOf 26 = .ok (.istore_n 3, 1) := by decide +kernel
theorem dX4_beginOf_27 : decode cX4_beginOf 27 = .ok (.iinc 4 1, 3) := by decide +kernel
theorem dX4_beginOf_30 : decode cX4_beginOf 30 = .ok (.goto (-25), 3) := by decide +kernel
theorem dX4_beginOf_33 : decode cX4_beginOf 33 = .ok (.iload_n 3, 1) := by decide +kernel
theorem dX4_beginOf_34 : decode cX4_beginOf 34 = .ok (.ireturn, 1) := by decide +kernel
def rmX4_beginOf : Room := { frames := 0, cells := 0, slots := 0, locals := 0 }
noncomputable def f_X4_beginOf_5 : Nat → Int32 → Int32 → Int32 → Int32 → MS → Option (Int32)
  | 0, _, _, _, _, _ => none
  | n + 1, x1, x2, x3, x4, u => (if x2 ≤ x4 then some x3 else (if ix ((600 * x1) + x4) 4800 = true then f_X4_beginOf_5 n x1 x2 (x3 + (u.2.1 8 (Int32.toNatClampNeg ((600 * x1) + x4)))) (x4 + 1) u else none))
noncomputable def f_X4_beginOf (x1 : Int32) (x2 : Int32) (u : MS) : Option (Int32) := f_X4_beginOf_5 NF x1 x2 0 0 u
section
variable {p : Program} {l : Launch} {e : Env} {s : State} {m : MethodId} {args : Array Value} {below : List Frame} {meth : Method} {c : Code}
variable {G : GX} {A : Nat → Prop} {ad : Nat → Nat}
set_option maxHeartbeats 4000000 in
set_option maxRecDepth 100000 in
theorem w_X4_beginOf_5 (F : FX p m c cX4_beginOf 5 s args yX4_beginOf (some .int) RX4 meth) {z : Int32} : ∀ (n : Nat) (x1 : Int32) (x2 : Int32) (x3 : Int32) (x4 : Int32) (u : MS) (ls : Array Slot), WD G A s (mw G ad u) s.heap [] → lv_has ls 5 [(0, .ref (ad 0)), (1, .int x1), (2, .int x2), (3, .int x3), (4, .int x4)] → f_X4_beginOf_5 n x1 x2 x3 x4 u = some z → W p l e rmX4_beginOf s m args below meth c s.heap [] 0 0 (MQ below (QO (some (.int z))) args s 0 0 (fun _ => False)) (F0 m 5 ls []) := by
  obtain ⟨⟨hx, hb, hml, hown, hts⟩, hr, hlocks⟩ := id F
  intro n
  induction n with
  | zero =>
    intro x1 x2 x3 x4 u ls hw hl h
    rw [f_X4_beginOf_5] at h
    cases h
  | succ n ih =>
    intro x1 x2 x3 x4 u ls hw hl h
    rw [f_X4_beginOf_5] at h
    refine lv_iload hx hb dX4_beginOf_5 (lv_at hl 4 rfl) ?_
    refine lv_iload_n hx hb dX4_beginOf_7 rfl (lv_at hl 2 rfl) ?_
    refine lv_icmp_ge (tgt := 33) hx hb dX4_beginOf_8 rfl (fun c1 => ?_) (fun c1 => ?_)
    · replace h := itT h c1
      refine lv_iload_n hx hb dX4_beginOf_33 rfl (lv_at hl 3 rfl) ?_
      cases h
      exact retO_i F dX4_beginOf_34
    · replace h := itF h c1
      refine lv_iload_n hx hb dX4_beginOf_11 rfl (lv_at hl 3 rfl) ?_
      refine lv_aload_n hx hb dX4_beginOf_12 rfl (lv_at hl 0 rfl) ?_
      refine m_g8 F hw dX4_beginOf_13 ?_
      refine lv_sipush (v := 600) hx hb dX4_beginOf_16 rfl ?_
      refine lv_iload_n hx hb dX4_beginOf_19 rfl (lv_at hl 1 rfl) ?_
      refine lv_imul hx hb dX4_beginOf_20 ?_
      refine lv_iload hx hb dX4_beginOf_21 (lv_at hl 4 rfl) ?_
      refine lv_iadd hx hb dX4_beginOf_23 ?_
      obtain ⟨g2, h⟩ := gd h
      refine m_l8 F hw g2 dX4_beginOf_24 ?_
      refine lv_iadd hx hb dX4_beginOf_25 ?_
      refine lv_istore_n (lv' := [(3, .int (x3 + (u.2.1 8 (Int32.toNatClampNeg ((600 * x1) + x4))))), (0, .ref (ad 0)), (1, .int x1), (2, .int x2), (4, .int x4)]) hx hb dX4_beginOf_26 rfl hl (by decide) rfl (fun ls hl => ?_)
      refine lv_iinc (v := (x4 + 1)) (lv' := [(4, .int (x4 + 1)), (3, .int (x3 + (u.2.1 8 (Int32.toNatClampNeg ((600 * x1) + x4))))), (0, .ref (ad 0)), (1, .int x1), (2, .int x2)]) hx hb dX4_beginOf_27 hl (k := 4) rfl rfl (by decide) rfl (fun ls hl => ?_)
      refine lv_goto (tgt := 5) hx hb dX4_beginOf_30 rfl ?_
      exact ih _ _ _ _ _ _ hw (lv_sub hl [2, 3, 4, 1, 0] rfl) h
set_option maxHeartbeats 4000000 in
set_option maxRecDepth 100000 in
theorem w_X4_beginOf_0 (F : FX p m c cX4_beginOf 5 s args yX4_beginOf (some .int) RX4 meth) {z : Int32} : ∀ (x1 : Int32) (x2 : Int32) (u : MS) (ls : Array Slot), WD G A s (mw G ad u) s.heap [] → lv_has ls 5 [(0, .ref (ad 0)), (1, .int x1), (2, .int x2)] → f_X4_beginOf x1 x2 u = some z → W p l e rmX4_beginOf s m args below meth c s.heap [] 0 0 (MQ below (QO (some (.int z))) args s 0 0 (fun _ => False)) (F0 m 0 ls []) := by
  obtain ⟨⟨hx, hb, hml, hown, hts⟩, hr, hlocks⟩ := id F
  intro x1 x2 u ls hw hl h
  unfold f_X4_beginOf at h
  refine lv_iconst (v := 0) hx hb dX4_beginOf_0 rfl ?_
  refine lv_istore_n (lv' := [(3, .int 0), (0, .ref (ad 0)), (1, .int x1), (2, .int x2)]) hx hb dX4_beginOf_1 rfl hl (by decide) rfl (fun ls hl => ?_)
  refine lv_iconst (v := 0) hx hb dX4_beginOf_2 rfl ?_
  refine lv_istore (lv' := [(4, .int 0), (3, .int 0), (0, .ref (ad 0)), (1, .int x1), (2, .int x2)]) hx hb dX4_beginOf_3 hl (by decide) rfl (fun ls hl => ?_)
  exact w_X4_beginOf_5 F NF _ _ _ _ _ _ hw (lv_sub hl [2, 3, 4, 1, 0] rfl) h
end
theorem c_X4_beginOf {l : Launch} {G : GX} {ad : Nat → Nat} {x1 : Int32} {x2 : Int32} {u : MS} {z : Int32} (h : f_X4_beginOf x1 x2 u = some z) : MO l yX4_beginOf cX4_beginOf 5 (some .int) rmX4_beginOf G (mw G ad u) [.ref (ad 0), .int x1, .int x2] (some (.int z)) := MO.of (by decide) (Nat.le_of_ble_eq_true rfl) (fun p e s m below meth c ls F hw hl => w_X4_beginOf_0 F _ _ _ _ hw hl h)
theorem yv_X4_beginOf : YV RX4 150 yX4_beginOf cX4_beginOf 5 (some .int) 2 := ⟨(tw 695 (by decide +kernel) rfl), (tw 6 (by decide +kernel) rfl), (tw 692 (by decide +kernel) rfl), (tw 694 (by decide +kernel) rfl), (tp 32 (by decide +kernel) rfl), by decide +kernel⟩
theorem k_X4_beginOf {p : Program} {l : Launch} {e : Env} {R : Room} {s : State} {m : MethodId} {args : Array Value} {below : List Frame} {meth : Method} {c : Code} {H : Heap} {locs : List Loc} {cells slots : Nat} {Q : State → Prop} {G : GX} {A : Nat → Prop} {ad : Nat → Nat} {cc : ByteArray} {nL pc : Nat} {y0 : MethodName} {ret0 : Option FieldType} {ls : Array Slot} {rest : List Value} {u : MS} {x1 : Int32} {x2 : Int32} {z : Int32} (F : FX p m c cc nL s args y0 ret0 RX4 meth) (hw : WD G A s (mw G ad u) H locs) (h : f_X4_beginOf x1 x2 u = some z) (hR : rmX4_beginOf.frames + 1 ≤ R.frames ∧ 8 + (5 + 11) + rmX4_beginOf.locals ≤ R.locals) (hcs : cells ≤ R.cells ∧ slots ≤ R.slots) (hsz : ls.size = nL) (hW : (rest.map fun v => v.category).sum ≤ 8) (hdg : decode cc pc = .ok (.invokevirtual 150, 3)) (kk : W p l e R s m args below meth c H locs cells slots Q (F0 m (pc + 3) ls (.int z :: rest))) : W p l e R s m args below meth c H locs cells slots Q (F0 m pc ls (.int x2 :: .int x1 :: .ref (ad 0) :: rest)) := callO (runV F yv_X4_beginOf (c_X4_beginOf h) hw.1 hw.2.1 hw.2.2.1 rfl rfl rfl ⟨rfl, rfl⟩ hR hcs rfl hsz rfl hW hdg) kk
/-! ===== X4_takeInner ===== -/
theorem dX4_takeInner_0 : decode cX4_takeInner 0 = .ok (.aload_n 0, 1) := by decide +kernel
theorem dX4_takeInner_1 : decode cX4_takeInner 1 = .ok (.iload_n 3, 1) := by decide +kernel
theorem dX4_takeInner_2 : decode cX4_takeInner 2 = .ok (.putfield 112, 3) := by decide +kernel
theorem dX4_takeInner_5 : decode cX4_takeInner 5 = .ok (.iconst 0, 1) := by decide +kernel
theorem dX4_takeInner_6 : decode cX4_takeInner 6 = .ok (.istore 4, 2) := by decide +kernel
theorem dX4_takeInner_8 : decode cX4_takeInner 8 = .ok (.iload 4, 2) := by decide +kernel
theorem dX4_takeInner_10 : decode cX4_takeInner 10 = .ok (.iload_n 3, 1) := by decide +kernel
theorem dX4_takeInner_11 : decode cX4_takeInner 11 = .ok (.if_icmp .ge 37, 3) := by decide +kernel
theorem dX4_takeInner_14 : decode cX4_takeInner 14 = .ok (.aload_n 0, 1) := by decide +kernel
theorem dX4_takeInner_15 : decode cX4_takeInner 15 = .ok (.getfield 58, 3) := by decide +kernel
theorem dX4_takeInner_18 : decode cX4_takeInner 18 = .ok (.iload 4, 2) := by decide +kernel
theorem dX4_takeInner_20 : decode cX4_takeInner 20 = .ok (.aload_n 0, 1) := by decide +kernel
theorem dX4_takeInner_21 : decode cX4_takeInner 21 = .ok (.getfield 38, 3) := by decide +kernel
theorem dX4_takeInner_24 : decode cX4_takeInner 24 = .ok (.aload_n 0, 1) := by decide +kernel
theorem dX4_takeInner_25 : decode cX4_takeInner 25 = .ok (.getfield 25, 3) := by decide +kernel
theorem dX4_takeInner_28 : decode cX4_takeInner 28 = .ok (.sipush 600, 3) := by decide +kernel
theorem dX4_takeInner_31 : decode cX4_takeInner 31 = .ok (.iload_n 1, 1) := by decide +kernel
theorem dX4_takeInner_32 : decode cX4_takeInner 32 = .ok (.imul, 1) := by decide +kernel
theorem dX4_takeInner_33 : decode cX4_takeInner 33 = .ok (.iload_n 2, 1) := by decide +kernel
theorem dX4_takeInner_34 : decode cX4_takeInner 34 = .ok (.iadd, 1) := by decide +kernel
theorem dX4_takeInner_35 : decode cX4_takeInner 35 = .ok (.iload 4, 2) := by decide +kernel
theorem dX4_takeInner_37 : decode cX4_takeInner 37 = .ok (.iadd, 1) := by decide +kernel
theorem dX4_takeInner_38 : decode cX4_takeInner 38 = .ok (.iaload, 1) := by decide +kernel
theorem dX4_takeInner_39 : decode cX4_takeInner 39 = .ok (.iaload, 1) := by decide +kernel
theorem dX4_takeInner_40 : decode cX4_takeInner 40 = .ok (.i2l, 1) := by decide +kernel
theorem dX4_takeInner_41 : decode cX4_takeInner 41 = .ok (.lastore, 1) := by decide +kernel
theorem dX4_takeInner_42 : decode cX4_takeInner 42 = .ok (.iinc 4 1, 3) := by decide +kernel
theorem dX4_takeInner_45 : decode cX4_takeInner 45 = .ok (.goto (-37), 3) := by decide +kernel
theorem dX4_takeInner_48 : decode cX4_takeInner 48 = .ok (.return_, 1) := by decide +kernel
def rmX4_takeInner : Room := { frames := 0, cells := 0, slots := 0, locals := 0 }
noncomputable def f_X4_takeInner_8 : Nat → Int32 → Int32 → Int32 → Int32 → MS → Option (MS)
  | 0, _, _, _, _, _ => none
  | n + 1, x1, x2, x3, x4, u => (if x3 ≤ x4 then some u else (if ix (((600 * x1) + x2) + x4) 4800 = true then (if ix (u.2.1 7 (Int32.toNatClampNeg (((600 * x1) + x2) + x4))) 600 = true then (if ix x4 601 = true then f_X4_takeInner_8 n x1 x2 x3 (x4 + 1) (mB u 21 (Int32.toNatClampNeg x4) (Int32.toInt64 (u.2.1 11 (Int32.toNatClampNeg (u.2.1 7 (Int32.toNatClampNeg (((600 * x1) + x2) + x4))))))) else none) else none) else none))
noncomputable def f_X4_takeInner (x1 : Int32) (x2 : Int32) (x3 : Int32) (u : MS) : Option (MS) := f_X4_takeInner_8 NF x1 x2 x3 0 (mF u 22 x3)
section
variable {p : Program} {l : Launch} {e : Env} {s : State} {m : MethodId} {args : Array Value} {below : List Frame} {meth : Method} {c : Code}
variable {G : GX} {A : Nat → Prop} {ad : Nat → Nat}
set_option maxHeartbeats 4000000 in
set_option maxRecDepth 100000 in
theorem w_X4_takeInner_8 (F : FX p m c cX4_takeInner 5 s args yX4_takeInner none RX4 meth) {z : MS} : ∀ (n : Nat) (x1 : Int32) (x2 : Int32) (x3 : Int32) (x4 : Int32) (u : MS) (H : Heap) (locs : List Loc) (ls : Array Slot), WD G A s (mw G ad u) H locs → lv_has ls 5 [(0, .ref (ad 0)), (1, .int x1), (2, .int x2), (3, .int x3), (4, .int x4)] → f_X4_takeInner_8 n x1 x2 x3 x4 u = some z → W p l e rmX4_takeInner s m args below meth c H locs 0 0 (MQ below (QW G (mw G ad z) A none) args s 0 0 A) (F0 m 8 ls []) := by
  obtain ⟨⟨hx, hb, hml, hown, hts⟩, hr, hlocks⟩ := id F
  intro n
  induction n with
  | zero =>
    intro x1 x2 x3 x4 u H locs ls hw hl h
    rw [f_X4_takeInner_8] at h
    cases h
  | succ n ih =>
    intro x1 x2 x3 x4 u H locs ls hw hl h
    rw [f_X4_takeInner_8] at h
    refine lv_iload hx hb dX4_takeInner_8 (lv_at hl 4 rfl) ?_
    refine lv_iload_n hx hb dX4_takeInner_10 rfl (lv_at hl 3 rfl) ?_
    refine lv_icmp_ge (tgt := 48) hx hb dX4_takeInner_11 rfl (fun c1 => ?_) (fun c1 => ?_)
    · replace h := itT h c1
      cases h
      exact retW_v F hw dX4_takeInner_48
    · replace h := itF h c1
      refine lv_aload_n hx hb dX4_takeInner_14 rfl (lv_at hl 0 rfl) ?_
      refine m_g21 F hw dX4_takeInner_15 ?_
      refine lv_iload hx hb dX4_takeInner_18 (lv_at hl 4 rfl) ?_
      refine lv_aload_n hx hb dX4_takeInner_20 rfl (lv_at hl 0 rfl) ?_
      refine m_g11 F hw dX4_takeInner_21 ?_
      refine lv_aload_n hx hb dX4_takeInner_24 rfl (lv_at hl 0 rfl) ?_
      refine m_g7 F hw dX4_takeInner_25 ?_
      refine lv_sipush (v := 600) hx hb dX4_takeInner_28 rfl ?_
      refine lv_iload_n hx hb dX4_takeInner_31 rfl (lv_at hl 1 rfl) ?_
      refine lv_imul hx hb dX4_takeInner_32 ?_
      refine lv_iload_n hx hb dX4_takeInner_33 rfl (lv_at hl 2 rfl) ?_
      refine lv_iadd hx hb dX4_takeInner_34 ?_
      refine lv_iload hx hb dX4_takeInner_35 (lv_at hl 4 rfl) ?_
      refine lv_iadd hx hb dX4_takeInner_37 ?_
      obtain ⟨g2, h⟩ := gd h
      refine m_l7 F hw g2 dX4_takeInner_38 ?_
      obtain ⟨g3, h⟩ := gd h
      refine m_l11 F hw g3 dX4_takeInner_39 ?_
      refine lv_i2l hx hb dX4_takeInner_40 rfl ?_
      obtain ⟨g4, h⟩ := gd h
      refine m_s21 F hw g4 dX4_takeInner_41 (fun H locs hw => ?_)
      refine lv_iinc (v := (x4 + 1)) (lv' := [(4, .int (x4 + 1)), (0, .ref (ad 0)), (1, .int x1), (2, .int x2), (3, .int x3)]) hx hb dX4_takeInner_42 hl (k := 4) rfl rfl (by decide) rfl (fun ls hl => ?_)
      refine lv_goto (tgt := 8) hx hb dX4_takeInner_45 rfl ?_
      exact ih _ _ _ _ _ _ _ _ hw (lv_sub hl [1, 2, 3, 4, 0] rfl) h
set_option maxHeartbeats 4000000 in
set_option maxRecDepth 100000 in
theorem w_X4_takeInner_0 (F : FX p m c cX4_takeInner 5 s args yX4_takeInner none RX4 meth) {z : MS} : ∀ (x1 : Int32) (x2 : Int32) (x3 : Int32) (u : MS) (H : Heap) (locs : List Loc) (ls : Array Slot), WD G A s (mw G ad u) H locs → lv_has ls 5 [(0, .ref (ad 0)), (1, .int x1), (2, .int x2), (3, .int x3)] → f_X4_takeInner x1 x2 x3 u = some z → W p l e rmX4_takeInner s m args below meth c H locs 0 0 (MQ below (QW G (mw G ad z) A none) args s 0 0 A) (F0 m 0 ls []) := by
  obtain ⟨⟨hx, hb, hml, hown, hts⟩, hr, hlocks⟩ := id F
  intro x1 x2 x3 u H locs ls hw hl h
  unfold f_X4_takeInner at h
  refine lv_aload_n hx hb dX4_takeInner_0 rfl (lv_at hl 0 rfl) ?_
  refine lv_iload_n hx hb dX4_takeInner_1 rfl (lv_at hl 3 rfl) ?_
  refine m_p22 F hw dX4_takeInner_2 (fun H locs hw => ?_)
  refine lv_iconst (v := 0) hx hb dX4_takeInner_5 rfl ?_
  refine lv_istore (lv' := [(4, .int 0), (0, .ref (ad 0)), (1, .int x1), (2, .int x2), (3, .int x3)]) hx hb dX4_takeInner_6 hl (by decide) rfl (fun ls hl => ?_)
  exact w_X4_takeInner_8 F NF _ _ _ _ _ _ _ _ hw (lv_sub hl [1, 2, 3, 4, 0] rfl) h
end
theorem c_X4_takeInner {l : Launch} {G : GX} {ad : Nat → Nat} {x1 : Int32} {x2 : Int32} {x3 : Int32} {u : MS} {z : MS} (h : f_X4_takeInner x1 x2 x3 u = some z) : MW l yX4_takeInner cX4_takeInner 5 none rmX4_takeInner G (mw G ad u) (mw G ad z) [.ref (ad 0), .int x1, .int x2, .int x3] none := MW.of (by decide) (Nat.le_of_ble_eq_true rfl) (fun p e s m below meth c ls F hw hl => w_X4_takeInner_0 F _ _ _ _ _ _ _ hw hl h)
theorem yv_X4_takeInner : YV RX4 153 yX4_takeInner cX4_takeInner 5 none 3 := ⟨(tw 699 (by decide +kernel) rfl), (tw 6 (by decide +kernel) rfl), (tw 696 (by decide +kernel) rfl), (tw 698 (by decide +kernel) rfl), (tp 33 (by decide +kernel) rfl), by decide +kernel⟩
theorem k_X4_takeInner {p : Program} {l : Launch} {e : Env} {R : Room} {s : State} {m : MethodId} {args : Array Value} {below : List Frame} {meth : Method} {c : Code} {H : Heap} {locs : List Loc} {cells slots : Nat} {Q : State → Prop} {G : GX} {A : Nat → Prop} {ad : Nat → Nat} {cc : ByteArray} {nL pc : Nat} {y0 : MethodName} {ret0 : Option FieldType} {ls : Array Slot} {rest : List Value} {u : MS} {x1 : Int32} {x2 : Int32} {x3 : Int32} {z : MS} (F : FX p m c cc nL s args y0 ret0 RX4 meth) (hw : WD G A s (mw G ad u) H locs) (h : f_X4_takeInner x1 x2 x3 u = some z) (hR : rmX4_takeInner.frames + 1 ≤ R.frames ∧ 8 + (5 + 11) + rmX4_takeInner.locals ≤ R.locals) (hcs : cells ≤ R.cells ∧ slots ≤ R.slots) (hsz : ls.size = nL) (hW : (rest.map fun v => v.category).sum ≤ 8) (hdg : decode cc pc = .ok (.invokevirtual 153, 3)) (kk : ∀ (H : Heap) (locs : List Loc), WD G A s (mw G ad z) H locs → W p l e R s m args below meth c H locs cells slots Q (F0 m (pc + 3) ls (rest))) : W p l e R s m args below meth c H locs cells slots Q (F0 m pc ls (.int x3 :: .int x2 :: .int x1 :: .ref (ad 0) :: rest)) := callW (runV F yv_X4_takeInner (c_X4_takeInner h) hw.1 hw.2.1 hw.2.2.1 rfl rfl rfl ⟨rfl, rfl⟩ hR hcs rfl hsz rfl hW hdg) hw.2.2.2 hw.2.2.1.own_in (fun H1 l1 hP _ hS => kk H1 l1 ⟨hw.1, hP, hw.2.2.1.addr rfl, hS⟩)
/-! ===== X4_giveInner ===== -/
theorem dX4_giveInner_0 : decode cX4_giveInner 0 = .ok (.iconst 0, 1) := by decide +kernel
theorem dX4_giveInner_1 : decode cX4_giveInner 1 = .ok (.istore_n 3, 1) := by decide +kernel
theorem dX4_giveInner_2 : decode cX4_giveInner 2 = .ok (.iload_n 3, 1) := by decide +kernel
theorem dX4_giveInner_3 : decode cX4_giveInner 3 = .ok (.aload_n 0, 1) := by decide +kernel
theorem dX4_giveInner_4 : decode cX4_giveInner 4 = .ok (.getfield 112, 3) := by decide +kernel
theorem dX4_giveInner_7 : decode cX4_giveInner 7 = .ok (.if_icmp .ge 35, 3) := by decide +kernel
theorem dX4_giveInner_10 : decode cX4_giveInner 10 = .ok (.aload_n 0, 1) := by decide +kernel
theorem dX4_giveInner_11 : decode cX4_giveInner 11 = .ok (.getfield 38, 3) := by decide +kernel
theorem dX4_giveInner_14 : decode cX4_giveInner 14 = .ok (.aload_n 0, 1) := by decide +kernel
theorem dX4_giveInner_15 : decode cX4_giveInner 15 = .ok (.getfield 25, 3) := by decide +kernel
theorem dX4_giveInner_18 : decode cX4_giveInner 18 = .ok (.sipush 600, 3) := by decide +kernel
theorem dX4_giveInner_21 : decode cX4_giveInner 21 = .ok (.iload_n 1, 1) := by decide +kernel
theorem dX4_giveInner_22 : decode cX4_giveInner 22 = .ok (.imul, 1) := by decide +kernel
theorem dX4_giveInner_23 : decode cX4_giveInner 23 = .ok (.iload_n 2, 1) := by decide +kernel
theorem dX4_giveInner_24 : decode cX4_giveInner 24 = .ok (.iadd, 1) := by decide +kernel
theorem dX4_giveInner_25 : decode cX4_giveInner 25 = .ok (.iload_n 3, 1) := by decide +kernel
theorem dX4_giveInner_26 : decode cX4_giveInner 26 = .ok (.iadd, 1) := by decide +kernel
theorem dX4_giveInner_27 : decode cX4_giveInner 27 = .ok (.iaload, 1) := by decide +kernel
theorem dX4_giveInner_28 : decode cX4_giveInner 28 = .ok (.aload_n 0, 1) := by decide +kernel
theorem dX4_giveInner_29 : decode cX4_giveInner 29 = .ok (.getfield 58, 3) := by decide +kernel
theorem dX4_giveInner_32 : decode cX4_giveInner 32 = .ok (.iload_n 3, 1) := by decide +kernel
theorem dX4_giveInner_33 : decode cX4_giveInner 33 = .ok (.laload, 1) := by decide +kernel
theorem dX4_giveInner_34 : decode cX4_giveInner 34 = .ok (.l2i, 1) := by decide +kernel
theorem dX4_giveInner_35 : decode cX4_giveInner 35 = .ok (.iastore, 1) := by decide +kernel
theorem dX4_giveInner_36 : decode cX4_giveInner 36 = .ok (.iinc 3 1, 3) := by decide +kernel
theorem dX4_giveInner_39 : decode cX4_giveInner 39 = .ok (.goto (-37), 3) := by decide +kernel
theorem dX4_giveInner_42 : decode cX4_giveInner 42 = .ok (.return_, 1) := by decide +kernel
def rmX4_giveInner : Room := { frames := 0, cells := 0, slots := 0, locals := 0 }
noncomputable def f_X4_giveInner_2 : Nat → Int32 → Int32 → Int32 → MS → Option (MS)
  | 0, _, _, _, _ => none
  | n + 1, x1, x2, x3, u => (if (u.1 22) ≤ x3 then some u else (if ix (((600 * x1) + x2) + x3) 4800 = true then (if ix x3 601 = true then (if ix (u.2.1 7 (Int32.toNatClampNeg (((600 * x1) + x2) + x3))) 600 = true then f_X4_giveInner_2 n x1 x2 (x3 + 1) (mA u 11 (Int32.toNatClampNeg (u.2.1 7 (Int32.toNatClampNeg (((600 * x1) + x2) + x3)))) (Int64.toInt32 (u.2.2 21 (Int32.toNatClampNeg x3)))) else none) else none) else none))
noncomputable def f_X4_giveInner (x1 : Int32) (x2 : Int32) (u : MS) : Option (MS) := f_X4_giveInner_2 NF x1 x2 0 u
section
variable {p : Program} {l : Launch} {e : Env} {s : State} {m : MethodId} {args : Array Value} {below : List Frame} {meth : Method} {c : Code}
variable {G : GX} {A : Nat → Prop} {ad : Nat → Nat}
set_option maxHeartbeats 4000000 in
set_option maxRecDepth 100000 in
theorem w_X4_giveInner_2 (F : FX p m c cX4_giveInner 4 s args yX4_giveInner none RX4 meth) {z : MS} : ∀ (n : Nat) (x1 : Int32) (x2 : Int32) (x3 : Int32) (u : MS) (H : Heap) (locs : List Loc) (ls : Array Slot), WD G A s (mw G ad u) H locs → lv_has ls 4 [(0, .ref (ad 0)), (1, .int x1), (2, .int x2), (3, .int x3)] → f_X4_giveInner_2 n x1 x2 x3 u = some z → W p l e rmX4_giveInner s m args below meth c H locs 0 0 (MQ below (QW G (mw G ad z) A none) args s 0 0 A) (F0 m 2 ls []) := by
  obtain ⟨⟨hx, hb, hml, hown, hts⟩, hr, hlocks⟩ := id F
  intro n
  induction n with
  | zero =>
    intro x1 x2 x3 u H locs ls hw hl h
    rw [f_X4_giveInner_2] at h
    cases h
  | succ n ih =>
    intro x1 x2 x3 u H locs ls hw hl h
    rw [f_X4_giveInner_2] at h
    refine lv_iload_n hx hb dX4_giveInner_2 rfl (lv_at hl 3 rfl) ?_
    refine lv_aload_n hx hb dX4_giveInner_3 rfl (lv_at hl 0 rfl) ?_
    refine m_g22 F hw dX4_giveInner_4 ?_
    refine lv_icmp_ge (tgt := 42) hx hb dX4_giveInner_7 rfl (fun c1 => ?_) (fun c1 => ?_)
    · replace h := itT h c1
      cases h
      exact retW_v F hw dX4_giveInner_42
    · replace h := itF h c1
      refine lv_aload_n hx hb dX4_giveInner_10 rfl (lv_at hl 0 rfl) ?_
      refine m_g11 F hw dX4_giveInner_11 ?_
      refine lv_aload_n hx hb dX4_giveInner_14 rfl (lv_at hl 0 rfl) ?_
      refine m_g7 F hw dX4_giveInner_15 ?_
      refine lv_sipush (v := 600) hx hb dX4_giveInner_18 rfl ?_
      refine lv_iload_n hx hb dX4_giveInner_21 rfl (lv_at hl 1 rfl) ?_
      refine lv_imul hx hb dX4_giveInner_22 ?_
      refine lv_iload_n hx hb dX4_giveInner_23 rfl (lv_at hl 2 rfl) ?_
      refine lv_iadd hx hb dX4_giveInner_24 ?_
      refine lv_iload_n hx hb dX4_giveInner_25 rfl (lv_at hl 3 rfl) ?_
      refine lv_iadd hx hb dX4_giveInner_26 ?_
      obtain ⟨g2, h⟩ := gd h
      refine m_l7 F hw g2 dX4_giveInner_27 ?_
      refine lv_aload_n hx hb dX4_giveInner_28 rfl (lv_at hl 0 rfl) ?_
      refine m_g21 F hw dX4_giveInner_29 ?_
      refine lv_iload_n hx hb dX4_giveInner_32 rfl (lv_at hl 3 rfl) ?_
      obtain ⟨g3, h⟩ := gd h
      refine m_l21 F hw g3 dX4_giveInner_33 ?_
      refine lv_l2i hx hb dX4_giveInner_34 rfl ?_
      obtain ⟨g4, h⟩ := gd h
      refine m_s11 F hw g4 dX4_giveInner_35 (fun H locs hw => ?_)
      refine lv_iinc (v := (x3 + 1)) (lv' := [(3, .int (x3 + 1)), (0, .ref (ad 0)), (1, .int x1), (2, .int x2)]) hx hb dX4_giveInner_36 hl (k := 3) rfl rfl (by decide) rfl (fun ls hl => ?_)
      refine lv_goto (tgt := 2) hx hb dX4_giveInner_39 rfl ?_
      exact ih _ _ _ _ _ _ _ hw (lv_sub hl [1, 2, 3, 0] rfl) h
set_option maxHeartbeats 4000000 in
set_option maxRecDepth 100000 in
theorem w_X4_giveInner_0 (F : FX p m c cX4_giveInner 4 s args yX4_giveInner none RX4 meth) {z : MS} : ∀ (x1 : Int32) (x2 : Int32) (u : MS) (H : Heap) (locs : List Loc) (ls : Array Slot), WD G A s (mw G ad u) H locs → lv_has ls 4 [(0, .ref (ad 0)), (1, .int x1), (2, .int x2)] → f_X4_giveInner x1 x2 u = some z → W p l e rmX4_giveInner s m args below meth c H locs 0 0 (MQ below (QW G (mw G ad z) A none) args s 0 0 A) (F0 m 0 ls []) := by
  obtain ⟨⟨hx, hb, hml, hown, hts⟩, hr, hlocks⟩ := id F
  intro x1 x2 u H locs ls hw hl h
  unfold f_X4_giveInner at h
  refine lv_iconst (v := 0) hx hb dX4_giveInner_0 rfl ?_
  refine lv_istore_n (lv' := [(3, .int 0), (0, .ref (ad 0)), (1, .int x1), (2, .int x2)]) hx hb dX4_giveInner_1 rfl hl (by decide) rfl (fun ls hl => ?_)
  exact w_X4_giveInner_2 F NF _ _ _ _ _ _ _ hw (lv_sub hl [1, 2, 3, 0] rfl) h
end
theorem c_X4_giveInner {l : Launch} {G : GX} {ad : Nat → Nat} {x1 : Int32} {x2 : Int32} {u : MS} {z : MS} (h : f_X4_giveInner x1 x2 u = some z) : MW l yX4_giveInner cX4_giveInner 4 none rmX4_giveInner G (mw G ad u) (mw G ad z) [.ref (ad 0), .int x1, .int x2] none := MW.of (by decide) (Nat.le_of_ble_eq_true rfl) (fun p e s m below meth c ls F hw hl => w_X4_giveInner_0 F _ _ _ _ _ _ hw hl h)
theorem yv_X4_giveInner : YV RX4 139 yX4_giveInner cX4_giveInner 4 none 2 := ⟨(tw 704 (by decide +kernel) rfl), (tw 6 (by decide +kernel) rfl), (tw 701 (by decide +kernel) rfl), (tw 703 (by decide +kernel) rfl), (tp 34 (by decide +kernel) rfl), by decide +kernel⟩
theorem k_X4_giveInner {p : Program} {l : Launch} {e : Env} {R : Room} {s : State} {m : MethodId} {args : Array Value} {below : List Frame} {meth : Method} {c : Code} {H : Heap} {locs : List Loc} {cells slots : Nat} {Q : State → Prop} {G : GX} {A : Nat → Prop} {ad : Nat → Nat} {cc : ByteArray} {nL pc : Nat} {y0 : MethodName} {ret0 : Option FieldType} {ls : Array Slot} {rest : List Value} {u : MS} {x1 : Int32} {x2 : Int32} {z : MS} (F : FX p m c cc nL s args y0 ret0 RX4 meth) (hw : WD G A s (mw G ad u) H locs) (h : f_X4_giveInner x1 x2 u = some z) (hR : rmX4_giveInner.frames + 1 ≤ R.frames ∧ 8 + (4 + 11) + rmX4_giveInner.locals ≤ R.locals) (hcs : cells ≤ R.cells ∧ slots ≤ R.slots) (hsz : ls.size = nL) (hW : (rest.map fun v => v.category).sum ≤ 8) (hdg : decode cc pc = .ok (.invokevirtual 139, 3)) (kk : ∀ (H : Heap) (locs : List Loc), WD G A s (mw G ad z) H locs → W p l e R s m args below meth c H locs cells slots Q (F0 m (pc + 3) ls (rest))) : W p l e R s m args below meth c H locs cells slots Q (F0 m pc ls (.int x2 :: .int x1 :: .ref (ad 0) :: rest)) := callW (runV F yv_X4_giveInner (c_X4_giveInner h) hw.1 hw.2.1 hw.2.2.1 rfl rfl rfl ⟨rfl, rfl⟩ hR hcs rfl hsz rfl hW hdg) hw.2.2.2 hw.2.2.1.own_in (fun H1 l1 hP _ hS => kk H1 l1 ⟨hw.1, hP, hw.2.2.1.addr rfl, hS⟩)
/-! ===== X4_dealInner ===== -/
theorem dX4_dealInner_0 : decode cX4_dealInner 0 = .ok (.aload_n 0, 1) := by decide +kernel
theorem dX4_dealInner_1 : decode cX4_dealInner 1 = .ok (.iload_n 3, 1) := by decide +kernel
theorem dX4_dealInner_2 : decode cX4_dealInner 2 = .ok (.putfield 112, 3) := by decide +kernel
theorem dX4_dealInner_5 : decode cX4_dealInner 5 = .ok (.aload_n 0, 1) := by decide +kernel
theorem dX4_dealInner_6 : decode cX4_dealInner 6 = .ok (.iload_n 1, 1) := by decide +kernel
theorem dX4_dealInner_7 : decode cX4_dealInner 7 = .ok (.iconst 0, 1) := by decide +kernel
theorem dX4_dealInner_8 : decode cX4_dealInner 8 = .ok (.iload_n 3, 1) := by decide +kernel
theorem dX4_dealInner_9 : decode cX4_dealInner 9 = .ok (.lconst 0, 1) := by decide +kernel
theorem dX4_dealInner_10 : decode cX4_dealInner 10 = .ok (.bipush 8, 2) := by decide +kernel
theorem dX4_dealInner_12 : decode cX4_dealInner 12 = .ok (.iload_n 3, 1) := by decide +kernel
theorem dX4_dealInner_13 : decode cX4_dealInner 13 = .ok (.invokevirtual 124, 3) := by decide +kernel
theorem dX4_dealInner_16 : decode cX4_dealInner 16 = .ok (.aload_n 0, 1) := by decide +kernel
theorem dX4_dealInner_17 : decode cX4_dealInner 17 = .ok (.iload_n 1, 1) := by decide +kernel
theorem dX4_dealInner_18 : decode cX4_dealInner 18 = .ok (.iload_n 2, 1) := by decide +kernel
theorem dX4_dealInner_19 : decode cX4_dealInner 19 = .ok (.invokevirtual 139, 3) := by decide +kernel
theorem dX4_dealInner_22 : decode cX4_dealInner 22 = .ok (.return_, 1) := by decide +kernel
def rmX4_dealInner : Room := { frames := 1, cells := 0, slots := 0, locals := 28 }
noncomputable def f_X4_dealInner (x1 : Int32) (x2 : Int32) (x3 : Int32) (u : MS) : Option (MS) := (f_X4_dealt x1 0 x3 0 8 x3 (mF u 22 x3)).bind (fun z1 => (f_X4_giveInner x1 x2 z1).bind (fun z3 => some z3))
section
variable {p : Program} {l : Launch} {e : Env} {s : State} {m : MethodId} {args : Array Value} {below : List Frame} {meth : Method} {c : Code}
variable {G : GX} {A : Nat → Prop} {ad : Nat → Nat}
set_option maxHeartbeats 4000000 in
set_option maxRecDepth 100000 in
theorem w_X4_dealInner_0 (F : FX p m c cX4_dealInner 4 s args yX4_dealInner none RX4 meth) {z : MS} : ∀ (x1 : Int32) (x2 : Int32) (x3 : Int32) (u : MS) (H : Heap) (locs : List Loc) (ls : Array Slot), WD G A s (mw G ad u) H locs → lv_has ls 4 [(0, .ref (ad 0)), (1, .int x1), (2, .int x2), (3, .int x3)] → f_X4_dealInner x1 x2 x3 u = some z → W p l e rmX4_dealInner s m args below meth c H locs 0 0 (MQ below (QW G (mw G ad z) A none) args s 0 0 A) (F0 m 0 ls []) := by
  obtain ⟨⟨hx, hb, hml, hown, hts⟩, hr, hlocks⟩ := id F
  intro x1 x2 x3 u H locs ls hw hl h
  unfold f_X4_dealInner at h
  refine lv_aload_n hx hb dX4_dealInner_0 rfl (lv_at hl 0 rfl) ?_
  refine lv_iload_n hx hb dX4_dealInner_1 rfl (lv_at hl 3 rfl) ?_
  refine m_p22 F hw dX4_dealInner_2 (fun H locs hw => ?_)
  refine lv_aload_n hx hb dX4_dealInner_5 rfl (lv_at hl 0 rfl) ?_
  refine lv_iload_n hx hb dX4_dealInner_6 rfl (lv_at hl 1 rfl) ?_
  refine lv_iconst (v := 0) hx hb dX4_dealInner_7 rfl ?_
  refine lv_iload_n hx hb dX4_dealInner_8 rfl (lv_at hl 3 rfl) ?_
  refine lv_lconst (v := 0) hx hb dX4_dealInner_9 rfl ?_
  refine lv_bipush (v := 8) hx hb dX4_dealInner_10 rfl ?_
  refine lv_iload_n hx hb dX4_dealInner_12 rfl (lv_at hl 3 rfl) ?_
  obtain ⟨z1, e2, h⟩ := bnd h
  refine k_X4_dealt F hw e2 ⟨Nat.le_of_ble_eq_true rfl, Nat.le_of_ble_eq_true rfl⟩ ⟨Nat.zero_le _, Nat.zero_le _⟩ hl.1 (Nat.le_of_ble_eq_true rfl) dX4_dealInner_13 (fun H locs hw => ?_)
  refine lv_aload_n hx hb dX4_dealInner_16 rfl (lv_at hl 0 rfl) ?_
  refine lv_iload_n hx hb dX4_dealInner_17 rfl (lv_at hl 1 rfl) ?_
  refine lv_iload_n hx hb dX4_dealInner_18 rfl (lv_at hl 2 rfl) ?_
  obtain ⟨z3, e4, h⟩ := bnd h
  refine k_X4_giveInner F hw e4 ⟨Nat.le_of_ble_eq_true rfl, Nat.le_of_ble_eq_true rfl⟩ ⟨Nat.zero_le _, Nat.zero_le _⟩ hl.1 (Nat.le_of_ble_eq_true rfl) dX4_dealInner_19 (fun H locs hw => ?_)
  cases h
  exact retW_v F hw dX4_dealInner_22
end
theorem c_X4_dealInner {l : Launch} {G : GX} {ad : Nat → Nat} {x1 : Int32} {x2 : Int32} {x3 : Int32} {u : MS} {z : MS} (h : f_X4_dealInner x1 x2 x3 u = some z) : MW l yX4_dealInner cX4_dealInner 4 none rmX4_dealInner G (mw G ad u) (mw G ad z) [.ref (ad 0), .int x1, .int x2, .int x3] none := MW.of (by decide) (Nat.le_of_ble_eq_true rfl) (fun p e s m below meth c ls F hw hl => w_X4_dealInner_0 F _ _ _ _ _ _ _ hw hl h)
theorem yv_X4_dealInner : YV RX4 158 yX4_dealInner cX4_dealInner 4 none 3 := ⟨(tw 708 (by decide +kernel) rfl), (tw 6 (by decide +kernel) rfl), (tw 705 (by decide +kernel) rfl), (tw 707 (by decide +kernel) rfl), (tp 35 (by decide +kernel) rfl), by decide +kernel⟩
theorem k_X4_dealInner {p : Program} {l : Launch} {e : Env} {R : Room} {s : State} {m : MethodId} {args : Array Value} {below : List Frame} {meth : Method} {c : Code} {H : Heap} {locs : List Loc} {cells slots : Nat} {Q : State → Prop} {G : GX} {A : Nat → Prop} {ad : Nat → Nat} {cc : ByteArray} {nL pc : Nat} {y0 : MethodName} {ret0 : Option FieldType} {ls : Array Slot} {rest : List Value} {u : MS} {x1 : Int32} {x2 : Int32} {x3 : Int32} {z : MS} (F : FX p m c cc nL s args y0 ret0 RX4 meth) (hw : WD G A s (mw G ad u) H locs) (h : f_X4_dealInner x1 x2 x3 u = some z) (hR : rmX4_dealInner.frames + 1 ≤ R.frames ∧ 8 + (4 + 11) + rmX4_dealInner.locals ≤ R.locals) (hcs : cells ≤ R.cells ∧ slots ≤ R.slots) (hsz : ls.size = nL) (hW : (rest.map fun v => v.category).sum ≤ 8) (hdg : decode cc pc = .ok (.invokevirtual 158, 3)) (kk : ∀ (H : Heap) (locs : List Loc), WD G A s (mw G ad z) H locs → W p l e R s m args below meth c H locs cells slots Q (F0 m (pc + 3) ls (rest))) : W p l e R s m args below meth c H locs cells slots Q (F0 m pc ls (.int x3 :: .int x2 :: .int x1 :: .ref (ad 0) :: rest)) := callW (runV F yv_X4_dealInner (c_X4_dealInner h) hw.1 hw.2.1 hw.2.2.1 rfl rfl rfl ⟨rfl, rfl⟩ hR hcs rfl hsz rfl hW hdg) hw.2.2.2 hw.2.2.1.own_in (fun H1 l1 hP _ hS => kk H1 l1 ⟨hw.1, hP, hw.2.2.1.addr rfl, hS⟩)
