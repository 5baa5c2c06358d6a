/-! ===== X2_enclosingCount ===== -/
theorem dX2_enclosingCount_0 : decode cX2_enclosingCount 0 = .ok (.aload_n 0, 1) := by decide +kernel
theorem dX2_enclosingCount_1 : decode cX2_enclosingCount 1 = .ok (.getfield 12, 3) := by decide +kernel
theorem dX2_enclosingCount_4 : decode cX2_enclosingCount 4 = .ok (.iload_n 1, 1) := by decide +kernel
theorem dX2_enclosingCount_5 : decode cX2_enclosingCount 5 = .ok (.invokevirtual 101, 3) := by decide +kernel
theorem dX2_enclosingCount_8 : decode cX2_enclosingCount 8 = .ok (.istore_n 2, 1) := by decide +kernel
theorem dX2_enclosingCount_9 : decode cX2_enclosingCount 9 = .ok (.iconst 0, 1) := by decide +kernel
theorem dX2_enclosingCount_10 : decode cX2_enclosingCount 10 = .ok (.istore_n 3, 1) := by decide +kernel
theorem dX2_enclosingCount_11 : decode cX2_enclosingCount 11 = .ok (.aload_n 0, 1) := by decide +kernel
theorem dX2_enclosingCount_12 : decode cX2_enclosingCount 12 = .ok (.getfield 12, 3) := by decide +kernel
theorem dX2_enclosingCount_15 : decode cX2_enclosingCount 15 = .ok (.iload_n 2, 1) := by decide +kernel
theorem dX2_enclosingCount_16 : decode cX2_enclosingCount 16 = .ok (.invokevirtual 81, 3) := by decide +kernel
theorem dX2_enclosingCount_19 : decode cX2_enclosingCount 19 = .ok (.istore 4, 2) := by decide +kernel
theorem dX2_enclosingCount_21 : decode cX2_enclosingCount 21 = .ok (.iload 4, 2) := by decide +kernel
theorem dX2_enclosingCount_23 : decode cX2_enclosingCount 23 = .ok (.aload_n 0, 1) := by decide +kernel
theorem dX2_enclosingCount_24 : decode cX2_enclosingCount 24 = .ok (.getfield 12, 3) := by decide +kernel
theorem dX2_enclosingCount_27 : decode cX2_enclosingCount 27 = .ok (.iload_n 2, 1) := by decide +kernel
theorem dX2_enclosingCount_28 : decode cX2_enclosingCount 28 = .ok (.invokevirtual 84, 3) := by decide +kernel
theorem dX2_enclosingCount_31 : decode cX2_enclosingCount 31 = .ok (.if_icmp .ge 44, 3) := by decide +kernel
theorem dX2_enclosingCount_34 : decode cX2_enclosingCount 34 = .ok (.aload_n 0, 1) := by decide +kernel
theorem dX2_enclosingCount_35 : decode cX2_enclosingCount 35 = .ok (.getfield 12, 3) := by decide +kernel
theorem dX2_enclosingCount_38 : decode cX2_enclosingCount 38 = .ok (.iload 4, 2) := by decide +kernel
theorem dX2_enclosingCount_40 : decode cX2_enclosingCount 40 = .ok (.invokevirtual 117, 3) := by decide +kernel
theorem dX2_enclosingCount_43 : decode cX2_enclosingCount 43 = .ok (.istore 5, 2) := by decide +kernel
theorem dX2_enclosingCount_45 : decode cX2_enclosingCount 45 = .ok (.iload 5, 2) := by decide +kernel
theorem dX2_enclosingCount_47 : decode cX2_enclosingCount 47 = .ok (.invokestatic 126, 3) := by decide +kernel
theorem dX2_enclosingCount_50 : decode cX2_enclosingCount 50 = .ok (.ifCond .ne 19, 3) := by decide +kernel
theorem dX2_enclosingCount_53 : decode cX2_enclosingCount 53 = .ok (.aload_n 0, 1) := by decide +kernel
theorem dX2_enclosingCount_54 : decode cX2_enclosingCount 54 = .ok (.iload 5, 2) := by decide +kernel
theorem dX2_enclosingCount_56 : decode cX2_enclosingCount 56 = .ok (.invokestatic 120, 3) := by decide +kernel
theorem dX2_enclosingCount_59 : decode cX2_enclosingCount 59 = .ok (.iload_n 1, 1) := by decide +kernel
theorem dX2_enclosingCount_60 : decode cX2_enclosingCount 60 = .ok (.invokevirtual 123, 3) := by decide +kernel
theorem dX2_enclosingCount_63 : decode cX2_enclosingCount 63 = .ok (.ifCond .eq 6, 3) := by decide +kernel
theorem dX2_enclosingCount_66 : decode cX2_enclosingCount 66 = .ok (.iinc 3 1, 3) := by decide +kernel
theorem dX2_enclosingCount_69 : decode cX2_enclosingCount 69 = .ok (.iinc 4 1, 3) := by decide +kernel
theorem dX2_enclosingCount_72 : decode cX2_enclosingCount 72 = .ok (.goto (-51), 3) := by decide +kernel
theorem dX2_enclosingCount_75 : decode cX2_enclosingCount 75 = .ok (.iload_n 3, 1) := by decide +kernel
theorem dX2_enclosingCount_76 : decode cX2_enclosingCount 76 = .ok (.ireturn, 1) := by decide +kernel
theorem yv_X3_isEnd_X2 : YN RX2 126 yX3_isEnd RX3 cX3_isEnd 1 (some .boolean) 1 := ⟨(tw 324 (by decide +kernel) rfl), (tw 1 (by decide +kernel) rfl), fun _ h => h.2.2.2.2, (tw 323 (by decide +kernel) rfl), by decide +kernel⟩
theorem k_X3_isEnd_s_ {p : Program} {l : Launch} {e : Env} {R : Room} {s : State} {m : MethodId} {args : Array Value} {below : List Frame} {meth : Method} {c : Code} {H : Heap} {locs : List Loc} {cells slots : Nat} {Q : State → Prop} {G : GX} {A : Nat → Prop} {ad : Nat → Nat} {u : SS} {cc : ByteArray} {nL pc : Nat} {y : MethodName} {ret : Option FieldType} {ls : Array Slot} {rest : List Value} {x0 : Int32} {z : Int32} (F : FX p m c cc nL s args y ret RX2 meth) (hw : WD G A s (sw G ad u) H locs) (h : f_X3_isEnd x0 = some z) (hR : rmX3_isEnd.frames + 1 ≤ R.frames ∧ 8 + (1 + 11) + rmX3_isEnd.locals ≤ R.locals) (hcs : cells ≤ R.cells ∧ slots ≤ R.slots) (hsz : ls.size = nL) (hW : (rest.map fun v => v.category).sum ≤ 8) (hdg : decode cc pc = .ok (.invokestatic 126, 3)) (kk : W p l e R s m args below meth c H locs cells slots Q (F0 m (pc + 3) ls (.int z :: rest))) : W p l e R s m args below meth c H locs cells slots Q (F0 m pc ls (.int x0 :: rest)) := callO (runN F yv_X3_isEnd_X2 (c_X3_isEnd h (G := G)) hw.1 nil_P (A := A) nil_D ⟨rfl, rfl⟩ hR hcs rfl hsz rfl hW hdg) kk
def rmX2_enclosingCount : Room := { frames := 3, cells := 0, slots := 0, locals := 65 }
noncomputable def f_X2_enclosingCount_21 : Nat → Int32 → Int32 → Int32 → Int32 → SS → Option (Int32)
  | 0, _, _, _, _, _ => none
  | n + 1, x1, x2, x3, x4, u => (f_X1_end x2 u.1).bind (fun z5 => (if z5 ≤ x4 then some x3 else (f_X1_standAt x4 u.1).bind (fun z8 => (f_X3_isEnd z8).bind (fun z10 => (if z10 = 0 then (f_X3_thingOf z8).bind (fun z13 => (f_X2_encloses z13 x1 u).bind (fun z15 => (if z15 = 0 then f_X2_enclosingCount_21 n x1 x2 x3 (x4 + 1) u else f_X2_enclosingCount_21 n x1 x2 (x3 + 1) (x4 + 1) u))) else f_X2_enclosingCount_21 n x1 x2 x3 (x4 + 1) u)))))
noncomputable def f_X2_enclosingCount (x1 : Int32) (u : SS) : Option (Int32) := (f_X1_rowOfThing x1 u.1).bind (fun z1 => (f_X1_first z1 u.1).bind (fun z3 => f_X2_enclosingCount_21 NF x1 z1 0 z3 u))
section
variable {p : Program} {l : Launch} {e : Env} {s : State} {m : MethodId} {args : Array Value} {below : List Frame} {meth : Method} {c : Code}
variable {G : GX} {A : Nat → Prop} {ad : Nat → Nat} 
set_option maxHeartbeats 4000000 in
set_option maxRecDepth 100000 in
theorem w_X2_enclosingCount_21 (F : FX p m c cX2_enclosingCount 6 s args yX2_enclosingCount (some .int) RX2 meth) {z : Int32} : ∀ (n : Nat) (x1 : Int32) (x2 : Int32) (x3 : Int32) (x4 : Int32) (u : SS) (ls : Array Slot), WD G A s (sw G ad u) s.heap [] → lv_has ls 6 [(0, .ref (ad 0)), (1, .int x1), (2, .int x2), (3, .int x3), (4, .int x4)] → f_X2_enclosingCount_21 n x1 x2 x3 x4 u = some z → W p l e rmX2_enclosingCount s m args below meth c s.heap [] 0 0 (MQ below (QO (some (.int z))) args s 0 0 (fun _ => False)) (F0 m 21 ls []) := by
  obtain ⟨⟨hx, hb, hml, hown, hts⟩, hr, hlocks⟩ := id F
  intro n
  induction n with
  | zero =>
    intro x1 x2 x3 x4 u ls hw hl h
    rw [f_X2_enclosingCount_21] at h
    cases h
  | succ n ih =>
    intro x1 x2 x3 x4 u ls hw hl h
    rw [f_X2_enclosingCount_21] at h
    refine lv_iload hx hb dX2_enclosingCount_21 (lv_at hl 4 rfl) ?_
    refine lv_aload_n hx hb dX2_enclosingCount_23 rfl (lv_at hl 0 rfl) ?_
    refine s_g0_0 F hw dX2_enclosingCount_24 ?_
    refine lv_iload_n hx hb dX2_enclosingCount_27 rfl (lv_at hl 2 rfl) ?_
    obtain ⟨z5, e6, h⟩ := bnd h
    refine k_X1_end_s_ F hw e6 ⟨Nat.le_of_ble_eq_true rfl, Nat.le_of_ble_eq_true rfl⟩ ⟨Nat.zero_le _, Nat.zero_le _⟩ hl.1 (Nat.le_of_ble_eq_true rfl) dX2_enclosingCount_28 ?_
    refine lv_icmp_ge (tgt := 75) hx hb dX2_enclosingCount_31 rfl (fun c7 => ?_) (fun c7 => ?_)
    · replace h := itT h c7
      refine lv_iload_n hx hb dX2_enclosingCount_75 rfl (lv_at hl 3 rfl) ?_
      cases h
      exact retO_i F dX2_enclosingCount_76
    · replace h := itF h c7
      refine lv_aload_n hx hb dX2_enclosingCount_34 rfl (lv_at hl 0 rfl) ?_
      refine s_g0_0 F hw dX2_enclosingCount_35 ?_
      refine lv_iload hx hb dX2_enclosingCount_38 (lv_at hl 4 rfl) ?_
      obtain ⟨z8, e9, h⟩ := bnd h
      refine k_X1_standAt_s_ F hw e9 ⟨Nat.le_of_ble_eq_true rfl, Nat.le_of_ble_eq_true rfl⟩ ⟨Nat.zero_le _, Nat.zero_le _⟩ hl.1 (Nat.le_of_ble_eq_true rfl) dX2_enclosingCount_40 ?_
      refine lv_istore (lv' := [(5, .int z8), (0, .ref (ad 0)), (1, .int x1), (2, .int x2), (3, .int x3), (4, .int x4)]) hx hb dX2_enclosingCount_43 hl (by decide) rfl (fun ls hl => ?_)
      refine lv_iload hx hb dX2_enclosingCount_45 (lv_at hl 0 rfl) ?_
      obtain ⟨z10, e11, h⟩ := bnd h
      refine k_X3_isEnd_s_ F hw e11 ⟨Nat.le_of_ble_eq_true rfl, Nat.le_of_ble_eq_true rfl⟩ ⟨Nat.zero_le _, Nat.zero_le _⟩ hl.1 (Nat.le_of_ble_eq_true rfl) dX2_enclosingCount_47 ?_
      refine lv_if_ne (tgt := 69) hx hb dX2_enclosingCount_50 rfl (fun c12 => ?_) (fun c12 => ?_)
      · replace h := itF h c12
        refine lv_iinc (v := (x4 + 1)) (lv' := [(4, .int (x4 + 1)), (5, .int z8), (0, .ref (ad 0)), (1, .int x1), (2, .int x2), (3, .int x3)]) hx hb dX2_enclosingCount_69 hl (k := 5) rfl rfl (by decide) rfl (fun ls hl => ?_)
        refine lv_goto (tgt := 21) hx hb dX2_enclosingCount_72 rfl ?_
        exact ih _ _ _ _ _ _ hw (lv_sub hl [2, 3, 4, 5, 0] rfl) h
      · replace h := itT h c12
        refine lv_aload_n hx hb dX2_enclosingCount_53 rfl (lv_at hl 1 rfl) ?_
        refine lv_iload hx hb dX2_enclosingCount_54 (lv_at hl 0 rfl) ?_
        obtain ⟨z13, e14, h⟩ := bnd h
        refine k_X3_thingOf_s_ F hw e14 ⟨Nat.le_of_ble_eq_true rfl, Nat.le_of_ble_eq_true rfl⟩ ⟨Nat.zero_le _, Nat.zero_le _⟩ hl.1 (Nat.le_of_ble_eq_true rfl) dX2_enclosingCount_56 ?_
        refine lv_iload_n hx hb dX2_enclosingCount_59 rfl (lv_at hl 2 rfl) ?_
        obtain ⟨z15, e16, h⟩ := bnd h
        refine k_X2_encloses_s_ F hw e16 ⟨Nat.le_of_ble_eq_true rfl, Nat.le_of_ble_eq_true rfl⟩ ⟨Nat.zero_le _, Nat.zero_le _⟩ hl.1 (Nat.le_of_ble_eq_true rfl) dX2_enclosingCount_60 ?_
        refine lv_if_eq (tgt := 69) hx hb dX2_enclosingCount_63 rfl (fun c17 => ?_) (fun c17 => ?_)
        · replace h := itT h c17
          refine lv_iinc (v := (x4 + 1)) (lv' := [(4, .int (x4 + 1)), (5, .int z8), (0, .ref (ad 0)), (1, .int x1), (2, .int x2), (3, .int x3)]) hx hb dX2_enclosingCount_69 hl (k := 5) rfl rfl (by decide) rfl (fun ls hl => ?_)
          refine lv_goto (tgt := 21) hx hb dX2_enclosingCount_72 rfl ?_
          exact ih _ _ _ _ _ _ hw (lv_sub hl [2, 3, 4, 5, 0] rfl) h
        · replace h := itF h c17
          refine lv_iinc (v := (x3 + 1)) (lv' := [(3, .int (x3 + 1)), (5, .int z8), (0, .ref (ad 0)), (1, .int x1), (2, .int x2), (4, .int x4)]) hx hb dX2_enclosingCount_66 hl (k := 4) rfl rfl (by decide) rfl (fun ls hl => ?_)
          refine lv_iinc (v := (x4 + 1)) (lv' := [(4, .int (x4 + 1)), (3, .int (x3 + 1)), (5, .int z8), (0, .ref (ad 0)), (1, .int x1), (2, .int x2)]) hx hb dX2_enclosingCount_69 hl (k := 5) rfl rfl (by decide) rfl (fun ls hl => ?_)
          refine lv_goto (tgt := 21) hx hb dX2_enclosingCount_72 rfl ?_
          exact ih _ _ _ _ _ _ hw (lv_sub hl [3, 4, 5, 1, 0] rfl) h
set_option maxHeartbeats 4000000 in
set_option maxRecDepth 100000 in
theorem w_X2_enclosingCount_0 (F : FX p m c cX2_enclosingCount 6 s args yX2_enclosingCount (some .int) RX2 meth) {z : Int32} : ∀ (x1 : Int32) (u : SS) (ls : Array Slot), WD G A s (sw G ad u) s.heap [] → lv_has ls 6 [(0, .ref (ad 0)), (1, .int x1)] → f_X2_enclosingCount x1 u = some z → W p l e rmX2_enclosingCount s m args below meth c s.heap [] 0 0 (MQ below (QO (some (.int z))) args s 0 0 (fun _ => False)) (F0 m 0 ls []) := by
  obtain ⟨⟨hx, hb, hml, hown, hts⟩, hr, hlocks⟩ := id F
  intro x1 u ls hw hl h
  unfold f_X2_enclosingCount at h
  refine lv_aload_n hx hb dX2_enclosingCount_0 rfl (lv_at hl 0 rfl) ?_
  refine s_g0_0 F hw dX2_enclosingCount_1 ?_
  refine lv_iload_n hx hb dX2_enclosingCount_4 rfl (lv_at hl 1 rfl) ?_
  obtain ⟨z1, e2, h⟩ := bnd h
  refine k_X1_rowOfThing_s_ F hw e2 ⟨Nat.le_of_ble_eq_true rfl, Nat.le_of_ble_eq_true rfl⟩ ⟨Nat.zero_le _, Nat.zero_le _⟩ hl.1 (Nat.le_of_ble_eq_true rfl) dX2_enclosingCount_5 ?_
  refine lv_istore_n (lv' := [(2, .int z1), (0, .ref (ad 0)), (1, .int x1)]) hx hb dX2_enclosingCount_8 rfl hl (by decide) rfl (fun ls hl => ?_)
  refine lv_iconst (v := 0) hx hb dX2_enclosingCount_9 rfl ?_
  refine lv_istore_n (lv' := [(3, .int 0), (2, .int z1), (0, .ref (ad 0)), (1, .int x1)]) hx hb dX2_enclosingCount_10 rfl hl (by decide) rfl (fun ls hl => ?_)
  refine lv_aload_n hx hb dX2_enclosingCount_11 rfl (lv_at hl 2 rfl) ?_
  refine s_g0_0 F hw dX2_enclosingCount_12 ?_
  refine lv_iload_n hx hb dX2_enclosingCount_15 rfl (lv_at hl 1 rfl) ?_
  obtain ⟨z3, e4, h⟩ := bnd h
  refine k_X1_first_s_ F hw e4 ⟨Nat.le_of_ble_eq_true rfl, Nat.le_of_ble_eq_true rfl⟩ ⟨Nat.zero_le _, Nat.zero_le _⟩ hl.1 (Nat.le_of_ble_eq_true rfl) dX2_enclosingCount_16 ?_
  refine lv_istore (lv' := [(4, .int z3), (3, .int 0), (2, .int z1), (0, .ref (ad 0)), (1, .int x1)]) hx hb dX2_enclosingCount_19 hl (by decide) rfl (fun ls hl => ?_)
  exact w_X2_enclosingCount_21 F NF _ _ _ _ _ _ hw (lv_sub hl [3, 4, 2, 1, 0] rfl) h
end
theorem c_X2_enclosingCount {l : Launch} {G : GX} {ad : Nat → Nat} {x1 : Int32} {u : SS} {z : Int32} (h : f_X2_enclosingCount x1 u = some z) : MO l yX2_enclosingCount cX2_enclosingCount 6 (some .int) rmX2_enclosingCount G (sw G ad u) [.ref (ad 0), .int x1] (some (.int z)) := MO.of (by decide) (Nat.le_of_ble_eq_true rfl) (fun p e s m below meth c ls F hw hl => w_X2_enclosingCount_0 F _ _ _ hw hl h)
/-! ===== X2_thingsAhead ===== -/
theorem dX2_thingsAhead_0 : decode cX2_thingsAhead 0 = .ok (.aload_n 0, 1) := by decide +kernel
theorem dX2_thingsAhead_1 : decode cX2_thingsAhead 1 = .ok (.getfield 12, 3) := by decide +kernel
theorem dX2_thingsAhead_4 : decode cX2_thingsAhead 4 = .ok (.iload_n 1, 1) := by decide +kernel
theorem dX2_thingsAhead_5 : decode cX2_thingsAhead 5 = .ok (.invokevirtual 101, 3) := by decide +kernel
theorem dX2_thingsAhead_8 : decode cX2_thingsAhead 8 = .ok (.istore_n 2, 1) := by decide +kernel
theorem dX2_thingsAhead_9 : decode cX2_thingsAhead 9 = .ok (.aload_n 0, 1) := by decide +kernel
theorem dX2_thingsAhead_10 : decode cX2_thingsAhead 10 = .ok (.iload_n 1, 1) := by decide +kernel
theorem dX2_thingsAhead_11 : decode cX2_thingsAhead 11 = .ok (.invokevirtual 114, 3) := by decide +kernel
theorem dX2_thingsAhead_14 : decode cX2_thingsAhead 14 = .ok (.istore_n 3, 1) := by decide +kernel
theorem dX2_thingsAhead_15 : decode cX2_thingsAhead 15 = .ok (.iconst 0, 1) := by decide +kernel
theorem dX2_thingsAhead_16 : decode cX2_thingsAhead 16 = .ok (.istore 4, 2) := by decide +kernel
theorem dX2_thingsAhead_18 : decode cX2_thingsAhead 18 = .ok (.aload_n 0, 1) := by decide +kernel
theorem dX2_thingsAhead_19 : decode cX2_thingsAhead 19 = .ok (.getfield 12, 3) := by decide +kernel
theorem dX2_thingsAhead_22 : decode cX2_thingsAhead 22 = .ok (.iload_n 2, 1) := by decide +kernel
theorem dX2_thingsAhead_23 : decode cX2_thingsAhead 23 = .ok (.invokevirtual 81, 3) := by decide +kernel
theorem dX2_thingsAhead_26 : decode cX2_thingsAhead 26 = .ok (.istore 5, 2) := by decide +kernel
theorem dX2_thingsAhead_28 : decode cX2_thingsAhead 28 = .ok (.iload 5, 2) := by decide +kernel
theorem dX2_thingsAhead_30 : decode cX2_thingsAhead 30 = .ok (.iload_n 3, 1) := by decide +kernel
theorem dX2_thingsAhead_31 : decode cX2_thingsAhead 31 = .ok (.if_icmp .ge 27, 3) := by decide +kernel
theorem dX2_thingsAhead_34 : decode cX2_thingsAhead 34 = .ok (.aload_n 0, 1) := by decide +kernel
theorem dX2_thingsAhead_35 : decode cX2_thingsAhead 35 = .ok (.getfield 12, 3) := by decide +kernel
theorem dX2_thingsAhead_38 : decode cX2_thingsAhead 38 = .ok (.iload 5, 2) := by decide +kernel
theorem dX2_thingsAhead_40 : decode cX2_thingsAhead 40 = .ok (.invokevirtual 117, 3) := by decide +kernel
theorem dX2_thingsAhead_43 : decode cX2_thingsAhead 43 = .ok (.invokestatic 126, 3) := by decide +kernel
theorem dX2_thingsAhead_46 : decode cX2_thingsAhead 46 = .ok (.ifCond .ne 6, 3) := by decide +kernel
theorem dX2_thingsAhead_49 : decode cX2_thingsAhead 49 = .ok (.iinc 4 1, 3) := by decide +kernel
theorem dX2_thingsAhead_52 : decode cX2_thingsAhead 52 = .ok (.iinc 5 1, 3) := by decide +kernel
theorem dX2_thingsAhead_55 : decode cX2_thingsAhead 55 = .ok (.goto (-27), 3) := by decide +kernel
theorem dX2_thingsAhead_58 : decode cX2_thingsAhead 58 = .ok (.iload 4, 2) := by decide +kernel
theorem dX2_thingsAhead_60 : decode cX2_thingsAhead 60 = .ok (.ireturn, 1) := by decide +kernel
def rmX2_thingsAhead : Room := { frames := 3, cells := 0, slots := 0, locals := 65 }
noncomputable def f_X2_thingsAhead_28 : Nat → Int32 → Int32 → Int32 → SS → Option (Int32)
  | 0, _, _, _, _ => none
  | n + 1, x3, x4, x5, u => (if x3 ≤ x5 then some x4 else (f_X1_standAt x5 u.1).bind (fun z8 => (f_X3_isEnd z8).bind (fun z10 => (if z10 = 0 then f_X2_thingsAhead_28 n x3 (x4 + 1) (x5 + 1) u else f_X2_thingsAhead_28 n x3 x4 (x5 + 1) u))))
noncomputable def f_X2_thingsAhead (x1 : Int32) (u : SS) : Option (Int32) := (f_X1_rowOfThing x1 u.1).bind (fun z1 => (f_X2_firstPlace x1 u).bind (fun z3 => (f_X1_first z1 u.1).bind (fun z5 => f_X2_thingsAhead_28 NF z3 0 z5 u)))
section
variable {p : Program} {l : Launch} {e : Env} {s : State} {m : MethodId} {args : Array Value} {below : List Frame} {meth : Method} {c : Code}
variable {G : GX} {A : Nat → Prop} {ad : Nat → Nat} 
set_option maxHeartbeats 4000000 in
set_option maxRecDepth 100000 in
theorem w_X2_thingsAhead_28 (F : FX p m c cX2_thingsAhead 6 s args yX2_thingsAhead (some .int) RX2 meth) {z : Int32} : ∀ (n : Nat) (x3 : Int32) (x4 : Int32) (x5 : Int32) (u : SS) (ls : Array Slot), WD G A s (sw G ad u) s.heap [] → lv_has ls 6 [(0, .ref (ad 0)), (3, .int x3), (4, .int x4), (5, .int x5)] → f_X2_thingsAhead_28 n x3 x4 x5 u = some z → W p l e rmX2_thingsAhead s m args below meth c s.heap [] 0 0 (MQ below (QO (some (.int z))) args s 0 0 (fun _ => False)) (F0 m 28 ls []) := by
  obtain ⟨⟨hx, hb, hml, hown, hts⟩, hr, hlocks⟩ := id F
  intro n
  induction n with
  | zero =>
    intro x3 x4 x5 u ls hw hl h
    rw [f_X2_thingsAhead_28] at h
    cases h
  | succ n ih =>
    intro x3 x4 x5 u ls hw hl h
    rw [f_X2_thingsAhead_28] at h
    refine lv_iload hx hb dX2_thingsAhead_28 (lv_at hl 3 rfl) ?_
    refine lv_iload_n hx hb dX2_thingsAhead_30 rfl (lv_at hl 1 rfl) ?_
    refine lv_icmp_ge (tgt := 58) hx hb dX2_thingsAhead_31 rfl (fun c7 => ?_) (fun c7 => ?_)
    · replace h := itT h c7
      refine lv_iload hx hb dX2_thingsAhead_58 (lv_at hl 2 rfl) ?_
      cases h
      exact retO_i F dX2_thingsAhead_60
    · replace h := itF h c7
      refine lv_aload_n hx hb dX2_thingsAhead_34 rfl (lv_at hl 0 rfl) ?_
      refine s_g0_0 F hw dX2_thingsAhead_35 ?_
      refine lv_iload hx hb dX2_thingsAhead_38 (lv_at hl 3 rfl) ?_
      obtain ⟨z8, e9, h⟩ := bnd h
      refine k_X1_standAt_s_ F hw e9 ⟨Nat.le_of_ble_eq_true rfl, Nat.le_of_ble_eq_true rfl⟩ ⟨Nat.zero_le _, Nat.zero_le _⟩ hl.1 (Nat.le_of_ble_eq_true rfl) dX2_thingsAhead_40 ?_
      obtain ⟨z10, e11, h⟩ := bnd h
      refine k_X3_isEnd_s_ F hw e11 ⟨Nat.le_of_ble_eq_true rfl, Nat.le_of_ble_eq_true rfl⟩ ⟨Nat.zero_le _, Nat.zero_le _⟩ hl.1 (Nat.le_of_ble_eq_true rfl) dX2_thingsAhead_43 ?_
      refine lv_if_ne (tgt := 52) hx hb dX2_thingsAhead_46 rfl (fun c12 => ?_) (fun c12 => ?_)
      · replace h := itF h c12
        refine lv_iinc (v := (x5 + 1)) (lv' := [(5, .int (x5 + 1)), (0, .ref (ad 0)), (3, .int x3), (4, .int x4)]) hx hb dX2_thingsAhead_52 hl (k := 3) rfl rfl (by decide) rfl (fun ls hl => ?_)
        refine lv_goto (tgt := 28) hx hb dX2_thingsAhead_55 rfl ?_
        exact ih _ _ _ _ _ hw (lv_sub hl [1, 2, 3, 0] rfl) h
      · replace h := itT h c12
        refine lv_iinc (v := (x4 + 1)) (lv' := [(4, .int (x4 + 1)), (0, .ref (ad 0)), (3, .int x3), (5, .int x5)]) hx hb dX2_thingsAhead_49 hl (k := 2) rfl rfl (by decide) rfl (fun ls hl => ?_)
        refine lv_iinc (v := (x5 + 1)) (lv' := [(5, .int (x5 + 1)), (4, .int (x4 + 1)), (0, .ref (ad 0)), (3, .int x3)]) hx hb dX2_thingsAhead_52 hl (k := 3) rfl rfl (by decide) rfl (fun ls hl => ?_)
        refine lv_goto (tgt := 28) hx hb dX2_thingsAhead_55 rfl ?_
        exact ih _ _ _ _ _ hw (lv_sub hl [2, 3, 1, 0] rfl) h
set_option maxHeartbeats 4000000 in
set_option maxRecDepth 100000 in
theorem w_X2_thingsAhead_0 (F : FX p m c cX2_thingsAhead 6 s args yX2_thingsAhead (some .int) RX2 meth) {z : Int32} : ∀ (x1 : Int32) (u : SS) (ls : Array Slot), WD G A s (sw G ad u) s.heap [] → lv_has ls 6 [(0, .ref (ad 0)), (1, .int x1)] → f_X2_thingsAhead x1 u = some z → W p l e rmX2_thingsAhead s m args below meth c s.heap [] 0 0 (MQ below (QO (some (.int z))) args s 0 0 (fun _ => False)) (F0 m 0 ls []) := by
  obtain ⟨⟨hx, hb, hml, hown, hts⟩, hr, hlocks⟩ := id F
  intro x1 u ls hw hl h
  unfold f_X2_thingsAhead at h
  refine lv_aload_n hx hb dX2_thingsAhead_0 rfl (lv_at hl 0 rfl) ?_
  refine s_g0_0 F hw dX2_thingsAhead_1 ?_
  refine lv_iload_n hx hb dX2_thingsAhead_4 rfl (lv_at hl 1 rfl) ?_
  obtain ⟨z1, e2, h⟩ := bnd h
  refine k_X1_rowOfThing_s_ F hw e2 ⟨Nat.le_of_ble_eq_true rfl, Nat.le_of_ble_eq_true rfl⟩ ⟨Nat.zero_le _, Nat.zero_le _⟩ hl.1 (Nat.le_of_ble_eq_true rfl) dX2_thingsAhead_5 ?_
  refine lv_istore_n (lv' := [(2, .int z1), (0, .ref (ad 0)), (1, .int x1)]) hx hb dX2_thingsAhead_8 rfl hl (by decide) rfl (fun ls hl => ?_)
  refine lv_aload_n hx hb dX2_thingsAhead_9 rfl (lv_at hl 1 rfl) ?_
  refine lv_iload_n hx hb dX2_thingsAhead_10 rfl (lv_at hl 2 rfl) ?_
  obtain ⟨z3, e4, h⟩ := bnd h
  refine k_X2_firstPlace_s_ F hw e4 ⟨Nat.le_of_ble_eq_true rfl, Nat.le_of_ble_eq_true rfl⟩ ⟨Nat.zero_le _, Nat.zero_le _⟩ hl.1 (Nat.le_of_ble_eq_true rfl) dX2_thingsAhead_11 ?_
  refine lv_istore_n (lv' := [(3, .int z3), (2, .int z1), (0, .ref (ad 0)), (1, .int x1)]) hx hb dX2_thingsAhead_14 rfl hl (by decide) rfl (fun ls hl => ?_)
  refine lv_iconst (v := 0) hx hb dX2_thingsAhead_15 rfl ?_
  refine lv_istore (lv' := [(4, .int 0), (3, .int z3), (2, .int z1), (0, .ref (ad 0)), (1, .int x1)]) hx hb dX2_thingsAhead_16 hl (by decide) rfl (fun ls hl => ?_)
  refine lv_aload_n hx hb dX2_thingsAhead_18 rfl (lv_at hl 3 rfl) ?_
  refine s_g0_0 F hw dX2_thingsAhead_19 ?_
  refine lv_iload_n hx hb dX2_thingsAhead_22 rfl (lv_at hl 2 rfl) ?_
  obtain ⟨z5, e6, h⟩ := bnd h
  refine k_X1_first_s_ F hw e6 ⟨Nat.le_of_ble_eq_true rfl, Nat.le_of_ble_eq_true rfl⟩ ⟨Nat.zero_le _, Nat.zero_le _⟩ hl.1 (Nat.le_of_ble_eq_true rfl) dX2_thingsAhead_23 ?_
  refine lv_istore (lv' := [(5, .int z5), (4, .int 0), (3, .int z3), (2, .int z1), (0, .ref (ad 0)), (1, .int x1)]) hx hb dX2_thingsAhead_26 hl (by decide) rfl (fun ls hl => ?_)
  exact w_X2_thingsAhead_28 F NF _ _ _ _ _ hw (lv_sub hl [4, 2, 1, 0] rfl) h
end
theorem c_X2_thingsAhead {l : Launch} {G : GX} {ad : Nat → Nat} {x1 : Int32} {u : SS} {z : Int32} (h : f_X2_thingsAhead x1 u = some z) : MO l yX2_thingsAhead cX2_thingsAhead 6 (some .int) rmX2_thingsAhead G (sw G ad u) [.ref (ad 0), .int x1] (some (.int z)) := MO.of (by decide) (Nat.le_of_ble_eq_true rfl) (fun p e s m below meth c ls F hw hl => w_X2_thingsAhead_0 F _ _ _ hw hl h)
/-! ===== X2_thingNumber ===== -/
theorem dX2_thingNumber_0 : decode cX2_thingNumber 0 = .ok (.iconst 0, 1) := by decide +kernel
theorem dX2_thingNumber_1 : decode cX2_thingNumber 1 = .ok (.istore_n 3, 1) := by decide +kernel
theorem dX2_thingNumber_2 : decode cX2_thingNumber 2 = .ok (.aload_n 0, 1) := by decide +kernel
theorem dX2_thingNumber_3 : decode cX2_thingNumber 3 = .ok (.getfield 12, 3) := by decide +kernel
theorem dX2_thingNumber_6 : decode cX2_thingNumber 6 = .ok (.iload_n 1, 1) := by decide +kernel
theorem dX2_thingNumber_7 : decode cX2_thingNumber 7 = .ok (.invokevirtual 81, 3) := by decide +kernel
theorem dX2_thingNumber_10 : decode cX2_thingNumber 10 = .ok (.istore 4, 2) := by decide +kernel
theorem dX2_thingNumber_12 : decode cX2_thingNumber 12 = .ok (.iload 4, 2) := by decide +kernel
theorem dX2_thingNumber_14 : decode cX2_thingNumber 14 = .ok (.aload_n 0, 1) := by decide +kernel
theorem dX2_thingNumber_15 : decode cX2_thingNumber 15 = .ok (.getfield 12, 3) := by decide +kernel
theorem dX2_thingNumber_18 : decode cX2_thingNumber 18 = .ok (.iload_n 1, 1) := by decide +kernel
theorem dX2_thingNumber_19 : decode cX2_thingNumber 19 = .ok (.invokevirtual 84, 3) := by decide +kernel
theorem dX2_thingNumber_22 : decode cX2_thingNumber 22 = .ok (.if_icmp .ge 50, 3) := by decide +kernel
theorem dX2_thingNumber_25 : decode cX2_thingNumber 25 = .ok (.aload_n 0, 1) := by decide +kernel
theorem dX2_thingNumber_26 : decode cX2_thingNumber 26 = .ok (.getfield 12, 3) := by decide +kernel
theorem dX2_thingNumber_29 : decode cX2_thingNumber 29 = .ok (.iload 4, 2) := by decide +kernel
theorem dX2_thingNumber_31 : decode cX2_thingNumber 31 = .ok (.invokevirtual 117, 3) := by decide +kernel
theorem dX2_thingNumber_34 : decode cX2_thingNumber 34 = .ok (.istore 5, 2) := by decide +kernel
theorem dX2_thingNumber_36 : decode cX2_thingNumber 36 = .ok (.iload 5, 2) := by decide +kernel
theorem dX2_thingNumber_38 : decode cX2_thingNumber 38 = .ok (.invokestatic 126, 3) := by decide +kernel
theorem dX2_thingNumber_41 : decode cX2_thingNumber 41 = .ok (.ifCond .ne 14, 3) := by decide +kernel
theorem dX2_thingNumber_44 : decode cX2_thingNumber 44 = .ok (.iload_n 3, 1) := by decide +kernel
theorem dX2_thingNumber_45 : decode cX2_thingNumber 45 = .ok (.iload_n 2, 1) := by decide +kernel
theorem dX2_thingNumber_46 : decode cX2_thingNumber 46 = .ok (.if_icmp .ne 9, 3) := by decide +kernel
theorem dX2_thingNumber_49 : decode cX2_thingNumber 49 = .ok (.iload 5, 2) := by decide +kernel
theorem dX2_thingNumber_51 : decode cX2_thingNumber 51 = .ok (.invokestatic 120, 3) := by decide +kernel
theorem dX2_thingNumber_54 : decode cX2_thingNumber 54 = .ok (.ireturn, 1) := by decide +kernel
theorem dX2_thingNumber_55 : decode cX2_thingNumber 55 = .ok (.iload 5, 2) := by decide +kernel
theorem dX2_thingNumber_57 : decode cX2_thingNumber 57 = .ok (.invokestatic 126, 3) := by decide +kernel
theorem dX2_thingNumber_60 : decode cX2_thingNumber 60 = .ok (.ifCond .ne 6, 3) := by decide +kernel
theorem dX2_thingNumber_63 : decode cX2_thingNumber 63 = .ok (.iinc 3 1, 3) := by decide +kernel
theorem dX2_thingNumber_66 : decode cX2_thingNumber 66 = .ok (.iinc 4 1, 3) := by decide +kernel
theorem dX2_thingNumber_69 : decode cX2_thingNumber 69 = .ok (.goto (-57), 3) := by decide +kernel
theorem dX2_thingNumber_72 : decode cX2_thingNumber 72 = .ok (.iconst (-1), 1) := by decide +kernel
theorem dX2_thingNumber_73 : decode cX2_thingNumber 73 = .ok (.ireturn, 1) := by decide +kernel
def rmX2_thingNumber : Room := { frames := 1, cells := 0, slots := 0, locals := 21 }
noncomputable def f_X2_thingNumber_12 : Nat → Int32 → Int32 → Int32 → Int32 → SS → Option (Int32)
  | 0, _, _, _, _, _ => none
  | n + 1, x1, x2, x3, x4, u => (f_X1_end x1 u.1).bind (fun z3 => (if z3 ≤ x4 then some (-1) else (f_X1_standAt x4 u.1).bind (fun z6 => (f_X3_isEnd z6).bind (fun z8 => (if z8 = 0 then (if x3 = x2 then (f_X3_thingOf z6).bind (fun z18 => some z18) else (f_X3_isEnd z6).bind (fun z15 => (if z15 = 0 then f_X2_thingNumber_12 n x1 x2 (x3 + 1) (x4 + 1) u else f_X2_thingNumber_12 n x1 x2 x3 (x4 + 1) u))) else (f_X3_isEnd z6).bind (fun z11 => (if z11 = 0 then f_X2_thingNumber_12 n x1 x2 (x3 + 1) (x4 + 1) u else f_X2_thingNumber_12 n x1 x2 x3 (x4 + 1) u)))))))
noncomputable def f_X2_thingNumber (x1 : Int32) (x2 : Int32) (u : SS) : Option (Int32) := (f_X1_first x1 u.1).bind (fun z1 => f_X2_thingNumber_12 NF x1 x2 0 z1 u)
section
variable {p : Program} {l : Launch} {e : Env} {s : State} {m : MethodId} {args : Array Value} {below : List Frame} {meth : Method} {c : Code}
variable {G : GX} {A : Nat → Prop} {ad : Nat → Nat} 
set_option maxHeartbeats 4000000 in
set_option maxRecDepth 100000 in
theorem w_X2_thingNumber_12 (F : FX p m c cX2_thingNumber 6 s args yX2_thingNumber (some .int) RX2 meth) {z : Int32} : ∀ (n : Nat) (x1 : Int32) (x2 : Int32) (x3 : Int32) (x4 : Int32) (u : SS) (ls : Array Slot), WD G A s (sw G ad u) s.heap [] → lv_has ls 6 [(0, .ref (ad 0)), (1, .int x1), (2, .int x2), (3, .int x3), (4, .int x4)] → f_X2_thingNumber_12 n x1 x2 x3 x4 u = some z → W p l e rmX2_thingNumber s m args below meth c s.heap [] 0 0 (MQ below (QO (some (.int z))) args s 0 0 (fun _ => False)) (F0 m 12 ls []) := by
  obtain ⟨⟨hx, hb, hml, hown, hts⟩, hr, hlocks⟩ := id F
  intro n
  induction n with
  | zero =>
    intro x1 x2 x3 x4 u ls hw hl h
    rw [f_X2_thingNumber_12] at h
    cases h
  | succ n ih =>
    intro x1 x2 x3 x4 u ls hw hl h
    rw [f_X2_thingNumber_12] at h
    refine lv_iload hx hb dX2_thingNumber_12 (lv_at hl 4 rfl) ?_
    refine lv_aload_n hx hb dX2_thingNumber_14 rfl (lv_at hl 0 rfl) ?_
    refine s_g0_0 F hw dX2_thingNumber_15 ?_
    refine lv_iload_n hx hb dX2_thingNumber_18 rfl (lv_at hl 1 rfl) ?_
    obtain ⟨z3, e4, h⟩ := bnd h
    refine k_X1_end_s_ F hw e4 ⟨Nat.le_of_ble_eq_true rfl, Nat.le_of_ble_eq_true rfl⟩ ⟨Nat.zero_le _, Nat.zero_le _⟩ hl.1 (Nat.le_of_ble_eq_true rfl) dX2_thingNumber_19 ?_
    refine lv_icmp_ge (tgt := 72) hx hb dX2_thingNumber_22 rfl (fun c5 => ?_) (fun c5 => ?_)
    · replace h := itT h c5
      refine lv_iconst (v := (-1)) hx hb dX2_thingNumber_72 rfl ?_
      cases h
      exact retO_i F dX2_thingNumber_73
    · replace h := itF h c5
      refine lv_aload_n hx hb dX2_thingNumber_25 rfl (lv_at hl 0 rfl) ?_
      refine s_g0_0 F hw dX2_thingNumber_26 ?_
      refine lv_iload hx hb dX2_thingNumber_29 (lv_at hl 4 rfl) ?_
      obtain ⟨z6, e7, h⟩ := bnd h
      refine k_X1_standAt_s_ F hw e7 ⟨Nat.le_of_ble_eq_true rfl, Nat.le_of_ble_eq_true rfl⟩ ⟨Nat.zero_le _, Nat.zero_le _⟩ hl.1 (Nat.le_of_ble_eq_true rfl) dX2_thingNumber_31 ?_
      refine lv_istore (lv' := [(5, .int z6), (0, .ref (ad 0)), (1, .int x1), (2, .int x2), (3, .int x3), (4, .int x4)]) hx hb dX2_thingNumber_34 hl (by decide) rfl (fun ls hl => ?_)
      refine lv_iload hx hb dX2_thingNumber_36 (lv_at hl 0 rfl) ?_
      obtain ⟨z8, e9, h⟩ := bnd h
      refine k_X3_isEnd_s_ F hw e9 ⟨Nat.le_of_ble_eq_true rfl, Nat.le_of_ble_eq_true rfl⟩ ⟨Nat.zero_le _, Nat.zero_le _⟩ hl.1 (Nat.le_of_ble_eq_true rfl) dX2_thingNumber_38 ?_
      refine lv_if_ne (tgt := 55) hx hb dX2_thingNumber_41 rfl (fun c10 => ?_) (fun c10 => ?_)
      · replace h := itF h c10
        refine lv_iload hx hb dX2_thingNumber_55 (lv_at hl 0 rfl) ?_
        obtain ⟨z11, e12, h⟩ := bnd h
        refine k_X3_isEnd_s_ F hw e12 ⟨Nat.le_of_ble_eq_true rfl, Nat.le_of_ble_eq_true rfl⟩ ⟨Nat.zero_le _, Nat.zero_le _⟩ hl.1 (Nat.le_of_ble_eq_true rfl) dX2_thingNumber_57 ?_
        refine lv_if_ne (tgt := 66) hx hb dX2_thingNumber_60 rfl (fun c13 => ?_) (fun c13 => ?_)
        · replace h := itF h c13
          refine lv_iinc (v := (x4 + 1)) (lv' := [(4, .int (x4 + 1)), (5, .int z6), (0, .ref (ad 0)), (1, .int x1), (2, .int x2), (3, .int x3)]) hx hb dX2_thingNumber_66 hl (k := 5) rfl rfl (by decide) rfl (fun ls hl => ?_)
          refine lv_goto (tgt := 12) hx hb dX2_thingNumber_69 rfl ?_
          exact ih _ _ _ _ _ _ hw (lv_sub hl [2, 3, 4, 5, 0] rfl) h
        · replace h := itT h c13
          refine lv_iinc (v := (x3 + 1)) (lv' := [(3, .int (x3 + 1)), (5, .int z6), (0, .ref (ad 0)), (1, .int x1), (2, .int x2), (4, .int x4)]) hx hb dX2_thingNumber_63 hl (k := 4) rfl rfl (by decide) rfl (fun ls hl => ?_)
          refine lv_iinc (v := (x4 + 1)) (lv' := [(4, .int (x4 + 1)), (3, .int (x3 + 1)), (5, .int z6), (0, .ref (ad 0)), (1, .int x1), (2, .int x2)]) hx hb dX2_thingNumber_66 hl (k := 5) rfl rfl (by decide) rfl (fun ls hl => ?_)
          refine lv_goto (tgt := 12) hx hb dX2_thingNumber_69 rfl ?_
          exact ih _ _ _ _ _ _ hw (lv_sub hl [3, 4, 5, 1, 0] rfl) h
      · replace h := itT h c10
        refine lv_iload_n hx hb dX2_thingNumber_44 rfl (lv_at hl 4 rfl) ?_
        refine lv_iload_n hx hb dX2_thingNumber_45 rfl (lv_at hl 3 rfl) ?_
        refine lv_icmp_ne (tgt := 55) hx hb dX2_thingNumber_46 rfl (fun c14 => ?_) (fun c14 => ?_)
        · replace h := itF h c14
          refine lv_iload hx hb dX2_thingNumber_55 (lv_at hl 0 rfl) ?_
          obtain ⟨z15, e16, h⟩ := bnd h
          refine k_X3_isEnd_s_ F hw e16 ⟨Nat.le_of_ble_eq_true rfl, Nat.le_of_ble_eq_true rfl⟩ ⟨Nat.zero_le _, Nat.zero_le _⟩ hl.1 (Nat.le_of_ble_eq_true rfl) dX2_thingNumber_57 ?_
          refine lv_if_ne (tgt := 66) hx hb dX2_thingNumber_60 rfl (fun c17 => ?_) (fun c17 => ?_)
          · replace h := itF h c17
            refine lv_iinc (v := (x4 + 1)) (lv' := [(4, .int (x4 + 1)), (5, .int z6), (0, .ref (ad 0)), (1, .int x1), (2, .int x2), (3, .int x3)]) hx hb dX2_thingNumber_66 hl (k := 5) rfl rfl (by decide) rfl (fun ls hl => ?_)
            refine lv_goto (tgt := 12) hx hb dX2_thingNumber_69 rfl ?_
            exact ih _ _ _ _ _ _ hw (lv_sub hl [2, 3, 4, 5, 0] rfl) h
          · replace h := itT h c17
            refine lv_iinc (v := (x3 + 1)) (lv' := [(3, .int (x3 + 1)), (5, .int z6), (0, .ref (ad 0)), (1, .int x1), (2, .int x2), (4, .int x4)]) hx hb dX2_thingNumber_63 hl (k := 4) rfl rfl (by decide) rfl (fun ls hl => ?_)
            refine lv_iinc (v := (x4 + 1)) (lv' := [(4, .int (x4 + 1)), (3, .int (x3 + 1)), (5, .int z6), (0, .ref (ad 0)), (1, .int x1), (2, .int x2)]) hx hb dX2_thingNumber_66 hl (k := 5) rfl rfl (by decide) rfl (fun ls hl => ?_)
            refine lv_goto (tgt := 12) hx hb dX2_thingNumber_69 rfl ?_
            exact ih _ _ _ _ _ _ hw (lv_sub hl [3, 4, 5, 1, 0] rfl) h
        · replace h := itT h c14
          refine lv_iload hx hb dX2_thingNumber_49 (lv_at hl 0 rfl) ?_
          obtain ⟨z18, e19, h⟩ := bnd h
          refine k_X3_thingOf_s_ F hw e19 ⟨Nat.le_of_ble_eq_true rfl, Nat.le_of_ble_eq_true rfl⟩ ⟨Nat.zero_le _, Nat.zero_le _⟩ hl.1 (Nat.le_of_ble_eq_true rfl) dX2_thingNumber_51 ?_
          cases h
          exact retO_i F dX2_thingNumber_54
set_option maxHeartbeats 4000000 in
set_option maxRecDepth 100000 in
theorem w_X2_thingNumber_0 (F : FX p m c cX2_thingNumber 6 s args yX2_thingNumber (some .int) RX2 meth) {z : Int32} : ∀ (x1 : Int32) (x2 : Int32) (u : SS) (ls : Array Slot), WD G A s (sw G ad u) s.heap [] → lv_has ls 6 [(0, .ref (ad 0)), (1, .int x1), (2, .int x2)] → f_X2_thingNumber x1 x2 u = some z → W p l e rmX2_thingNumber s m args below meth c s.heap [] 0 0 (MQ below (QO (some (.int z))) args s 0 0 (fun _ => False)) (F0 m 0 ls []) := by
  obtain ⟨⟨hx, hb, hml, hown, hts⟩, hr, hlocks⟩ := id F
  intro x1 x2 u ls hw hl h
  unfold f_X2_thingNumber at h
  refine lv_iconst (v := 0) hx hb dX2_thingNumber_0 rfl ?_
  refine lv_istore_n (lv' := [(3, .int 0), (0, .ref (ad 0)), (1, .int x1), (2, .int x2)]) hx hb dX2_thingNumber_1 rfl hl (by decide) rfl (fun ls hl => ?_)
  refine lv_aload_n hx hb dX2_thingNumber_2 rfl (lv_at hl 1 rfl) ?_
  refine s_g0_0 F hw dX2_thingNumber_3 ?_
  refine lv_iload_n hx hb dX2_thingNumber_6 rfl (lv_at hl 2 rfl) ?_
  obtain ⟨z1, e2, h⟩ := bnd h
  refine k_X1_first_s_ F hw e2 ⟨Nat.le_of_ble_eq_true rfl, Nat.le_of_ble_eq_true rfl⟩ ⟨Nat.zero_le _, Nat.zero_le _⟩ hl.1 (Nat.le_of_ble_eq_true rfl) dX2_thingNumber_7 ?_
  refine lv_istore (lv' := [(4, .int z1), (3, .int 0), (0, .ref (ad 0)), (1, .int x1), (2, .int x2)]) hx hb dX2_thingNumber_10 hl (by decide) rfl (fun ls hl => ?_)
  exact w_X2_thingNumber_12 F NF _ _ _ _ _ _ hw (lv_sub hl [2, 3, 4, 1, 0] rfl) h
end
theorem c_X2_thingNumber {l : Launch} {G : GX} {ad : Nat → Nat} {x1 : Int32} {x2 : Int32} {u : SS} {z : Int32} (h : f_X2_thingNumber x1 x2 u = some z) : MO l yX2_thingNumber cX2_thingNumber 6 (some .int) rmX2_thingNumber G (sw G ad u) [.ref (ad 0), .int x1, .int x2] (some (.int z)) := MO.of (by decide) (Nat.le_of_ble_eq_true rfl) (fun p e s m below meth c ls F hw hl => w_X2_thingNumber_0 F _ _ _ _ hw hl h)
/-! ===== X2_neighbour ===== -/
theorem dX2_neighbour_0 : decode cX2_neighbour 0 = .ok (.aload_n 0, 1) := by decide +kernel
theorem dX2_neighbour_1 : decode cX2_neighbour 1 = .ok (.aload_n 0, 1) := by decide +kernel
theorem dX2_neighbour_2 : decode cX2_neighbour 2 = .ok (.getfield 12, 3) := by decide +kernel
theorem dX2_neighbour_5 : decode cX2_neighbour 5 = .ok (.iload_n 1, 1) := by decide +kernel
theorem dX2_neighbour_6 : decode cX2_neighbour 6 = .ok (.invokevirtual 101, 3) := by decide +kernel
theorem dX2_neighbour_9 : decode cX2_neighbour 9 = .ok (.aload_n 0, 1) := by decide +kernel
theorem dX2_neighbour_10 : decode cX2_neighbour 10 = .ok (.iload_n 1, 1) := by decide +kernel
theorem dX2_neighbour_11 : decode cX2_neighbour 11 = .ok (.invokevirtual 133, 3) := by decide +kernel
theorem dX2_neighbour_14 : decode cX2_neighbour 14 = .ok (.iload_n 2, 1) := by decide +kernel
theorem dX2_neighbour_15 : decode cX2_neighbour 15 = .ok (.iadd, 1) := by decide +kernel
theorem dX2_neighbour_16 : decode cX2_neighbour 16 = .ok (.invokevirtual 136, 3) := by decide +kernel
theorem dX2_neighbour_19 : decode cX2_neighbour 19 = .ok (.ireturn, 1) := by decide +kernel
theorem yv_X2_thingsAhead_X2 : YV RX2 133 yX2_thingsAhead cX2_thingsAhead 6 (some .int) 1 := ⟨(tw 399 (by decide +kernel) rfl), (tw 2 (by decide +kernel) rfl), (tw 396 (by decide +kernel) rfl), (tw 397 (by decide +kernel) rfl), (tw 398 (by decide +kernel) rfl), by decide +kernel⟩
theorem k_X2_thingsAhead_s_ {p : Program} {l : Launch} {e : Env} {R : Room} {s : State} {m : MethodId} {args : Array Value} {below : List Frame} {meth : Method} {c : Code} {H : Heap} {locs : List Loc} {cells slots : Nat} {Q : State → Prop} {G : GX} {A : Nat → Prop} {ad : Nat → Nat} {u : SS} {cc : ByteArray} {nL pc : Nat} {y : MethodName} {ret : Option FieldType} {ls : Array Slot} {rest : List Value} {x1 : Int32} {z : Int32} (F : FX p m c cc nL s args y ret RX2 meth) (hw : WD G A s (sw G ad u) H locs) (h : f_X2_thingsAhead x1 u = some z) (hR : rmX2_thingsAhead.frames + 1 ≤ R.frames ∧ 8 + (6 + 11) + rmX2_thingsAhead.locals ≤ R.locals) (hcs : cells ≤ R.cells ∧ slots ≤ R.slots) (hsz : ls.size = nL) (hW : (rest.map fun v => v.category).sum ≤ 8) (hdg : decode cc pc = .ok (.invokevirtual 133, 3)) (kk : W p l e R s m args below meth c H locs cells slots Q (F0 m (pc + 3) ls (.int z :: rest))) : W p l e R s m args below meth c H locs cells slots Q (F0 m pc ls (.int x1 :: .ref (ad 0) :: rest)) := callO (runV F yv_X2_thingsAhead_X2 (c_X2_thingsAhead h) hw.1 hw.2.1 hw.2.2.1 rfl rfl rfl ⟨rfl, rfl⟩ hR hcs rfl hsz rfl hW hdg) kk
theorem yv_X2_thingNumber_X2 : YV RX2 136 yX2_thingNumber cX2_thingNumber 6 (some .int) 2 := ⟨(tw 404 (by decide +kernel) rfl), (tw 2 (by decide +kernel) rfl), (tw 401 (by decide +kernel) rfl), (tw 402 (by decide +kernel) rfl), (tw 403 (by decide +kernel) rfl), by decide +kernel⟩
theorem k_X2_thingNumber_s_ {p : Program} {l : Launch} {e : Env} {R : Room} {s : State} {m : MethodId} {args : Array Value} {below : List Frame} {meth : Method} {c : Code} {H : Heap} {locs : List Loc} {cells slots : Nat} {Q : State → Prop} {G : GX} {A : Nat → Prop} {ad : Nat → Nat} {u : SS} {cc : ByteArray} {nL pc : Nat} {y : MethodName} {ret : Option FieldType} {ls : Array Slot} {rest : List Value} {x1 : Int32} {x2 : Int32} {z : Int32} (F : FX p m c cc nL s args y ret RX2 meth) (hw : WD G A s (sw G ad u) H locs) (h : f_X2_thingNumber x1 x2 u = some z) (hR : rmX2_thingNumber.frames + 1 ≤ R.frames ∧ 8 + (6 + 11) + rmX2_thingNumber.locals ≤ R.locals) (hcs : cells ≤ R.cells ∧ slots ≤ R.slots) (hsz : ls.size = nL) (hW : (rest.map fun v => v.category).sum ≤ 8) (hdg : decode cc pc = .ok (.invokevirtual 136, 3)) (kk : W p l e R s m args below meth c H locs cells slots Q (F0 m (pc + 3) ls (.int z :: rest))) : W p l e R s m args below meth c H locs cells slots Q (F0 m pc ls (.int x2 :: .int x1 :: .ref (ad 0) :: rest)) := callO (runV F yv_X2_thingNumber_X2 (c_X2_thingNumber h) hw.1 hw.2.1 hw.2.2.1 rfl rfl rfl ⟨rfl, rfl⟩ hR hcs rfl hsz rfl hW hdg) kk
def rmX2_neighbour : Room := { frames := 4, cells := 0, slots := 0, locals := 90 }
noncomputable def f_X2_neighbour (x1 : Int32) (x2 : Int32) (u : SS) : Option (Int32) := (f_X1_rowOfThing x1 u.1).bind (fun z1 => (f_X2_thingsAhead x1 u).bind (fun z3 => (f_X2_thingNumber z1 (z3 + x2) u).bind (fun z5 => some z5)))
section
variable {p : Program} {l : Launch} {e : Env} {s : State} {m : MethodId} {args : Array Value} {below : List Frame} {meth : Method} {c : Code}
variable {G : GX} {A : Nat → Prop} {ad : Nat → Nat} 
set_option maxHeartbeats 4000000 in
set_option maxRecDepth 100000 in
theorem w_X2_neighbour_0 (F : FX p m c cX2_neighbour 3 s args yX2_neighbour (some .int) RX2 meth) {z : Int32} : ∀ (x1 : Int32) (x2 : Int32) (u : SS) (ls : Array Slot), WD G A s (sw G ad u) s.heap [] → lv_has ls 3 [(0, .ref (ad 0)), (1, .int x1), (2, .int x2)] → f_X2_neighbour x1 x2 u = some z → W p l e rmX2_neighbour s m args below meth c s.heap [] 0 0 (MQ below (QO (some (.int z))) args s 0 0 (fun _ => False)) (F0 m 0 ls []) := by
  obtain ⟨⟨hx, hb, hml, hown, hts⟩, hr, hlocks⟩ := id F
  intro x1 x2 u ls hw hl h
  unfold f_X2_neighbour at h
  refine lv_aload_n hx hb dX2_neighbour_0 rfl (lv_at hl 0 rfl) ?_
  refine lv_aload_n hx hb dX2_neighbour_1 rfl (lv_at hl 0 rfl) ?_
  refine s_g0_0 F hw dX2_neighbour_2 ?_
  refine lv_iload_n hx hb dX2_neighbour_5 rfl (lv_at hl 1 rfl) ?_
  obtain ⟨z1, e2, h⟩ := bnd h
  refine k_X1_rowOfThing_s_ F hw e2 ⟨Nat.le_of_ble_eq_true rfl, Nat.le_of_ble_eq_true rfl⟩ ⟨Nat.zero_le _, Nat.zero_le _⟩ hl.1 (Nat.le_of_ble_eq_true rfl) dX2_neighbour_6 ?_
  refine lv_aload_n hx hb dX2_neighbour_9 rfl (lv_at hl 0 rfl) ?_
  refine lv_iload_n hx hb dX2_neighbour_10 rfl (lv_at hl 1 rfl) ?_
  obtain ⟨z3, e4, h⟩ := bnd h
  refine k_X2_thingsAhead_s_ F hw e4 ⟨Nat.le_of_ble_eq_true rfl, Nat.le_of_ble_eq_true rfl⟩ ⟨Nat.zero_le _, Nat.zero_le _⟩ hl.1 (Nat.le_of_ble_eq_true rfl) dX2_neighbour_11 ?_
  refine lv_iload_n hx hb dX2_neighbour_14 rfl (lv_at hl 2 rfl) ?_
  refine lv_iadd hx hb dX2_neighbour_15 ?_
  obtain ⟨z5, e6, h⟩ := bnd h
  refine k_X2_thingNumber_s_ F hw e6 ⟨Nat.le_of_ble_eq_true rfl, Nat.le_of_ble_eq_true rfl⟩ ⟨Nat.zero_le _, Nat.zero_le _⟩ hl.1 (Nat.le_of_ble_eq_true rfl) dX2_neighbour_16 ?_
  cases h
  exact retO_i F dX2_neighbour_19
end
theorem c_X2_neighbour {l : Launch} {G : GX} {ad : Nat → Nat} {x1 : Int32} {x2 : Int32} {u : SS} {z : Int32} (h : f_X2_neighbour x1 x2 u = some z) : MO l yX2_neighbour cX2_neighbour 3 (some .int) rmX2_neighbour G (sw G ad u) [.ref (ad 0), .int x1, .int x2] (some (.int z)) := MO.of (by decide) (Nat.le_of_ble_eq_true rfl) (fun p e s m below meth c ls F hw hl => w_X2_neighbour_0 F _ _ _ _ hw hl h)
/-! ===== X2_firstWithin ===== -/
theorem dX2_firstWithin_0 : decode cX2_firstWithin 0 = .ok (.aload_n 0, 1) := by decide +kernel
theorem dX2_firstWithin_1 : decode cX2_firstWithin 1 = .ok (.iload_n 1, 1) := by decide +kernel
theorem dX2_firstWithin_2 : decode cX2_firstWithin 2 = .ok (.iconst 1, 1) := by decide +kernel
theorem dX2_firstWithin_3 : decode cX2_firstWithin 3 = .ok (.invokevirtual 129, 3) := by decide +kernel
theorem dX2_firstWithin_6 : decode cX2_firstWithin 6 = .ok (.istore_n 2, 1) := by decide +kernel
theorem dX2_firstWithin_7 : decode cX2_firstWithin 7 = .ok (.iload_n 2, 1) := by decide +kernel
theorem dX2_firstWithin_8 : decode cX2_firstWithin 8 = .ok (.iconst (-1), 1) := by decide +kernel
theorem dX2_firstWithin_9 : decode cX2_firstWithin 9 = .ok (.if_icmp .eq 16, 3) := by decide +kernel
theorem dX2_firstWithin_12 : decode cX2_firstWithin 12 = .ok (.aload_n 0, 1) := by decide +kernel
theorem dX2_firstWithin_13 : decode cX2_firstWithin 13 = .ok (.iload_n 1, 1) := by decide +kernel
theorem dX2_firstWithin_14 : decode cX2_firstWithin 14 = .ok (.iload_n 2, 1) := by decide +kernel
theorem dX2_firstWithin_15 : decode cX2_firstWithin 15 = .ok (.invokevirtual 123, 3) := by decide +kernel
theorem dX2_firstWithin_18 : decode cX2_firstWithin 18 = .ok (.ifCond .eq 7, 3) := by decide +kernel
theorem dX2_firstWithin_21 : decode cX2_firstWithin 21 = .ok (.iload_n 2, 1) := by decide +kernel
theorem dX2_firstWithin_22 : decode cX2_firstWithin 22 = .ok (.goto 4, 3) := by decide +kernel
theorem dX2_firstWithin_25 : decode cX2_firstWithin 25 = .ok (.iconst (-1), 1) := by decide +kernel
theorem dX2_firstWithin_26 : decode cX2_firstWithin 26 = .ok (.ireturn, 1) := by decide +kernel
theorem yv_X2_neighbour_X2 : YV RX2 129 yX2_neighbour cX2_neighbour 3 (some .int) 2 := ⟨(tw 395 (by decide +kernel) rfl), (tw 2 (by decide +kernel) rfl), (tw 409 (by decide +kernel) rfl), (tw 393 (by decide +kernel) rfl), (tw 394 (by decide +kernel) rfl), by decide +kernel⟩
theorem k_X2_neighbour_s_ {p : Program} {l : Launch} {e : Env} {R : Room} {s : State} {m : MethodId} {args : Array Value} {below : List Frame} {meth : Method} {c : Code} {H : Heap} {locs : List Loc} {cells slots : Nat} {Q : State → Prop} {G : GX} {A : Nat → Prop} {ad : Nat → Nat} {u : SS} {cc : ByteArray} {nL pc : Nat} {y : MethodName} {ret : Option FieldType} {ls : Array Slot} {rest : List Value} {x1 : Int32} {x2 : Int32} {z : Int32} (F : FX p m c cc nL s args y ret RX2 meth) (hw : WD G A s (sw G ad u) H locs) (h : f_X2_neighbour x1 x2 u = some z) (hR : rmX2_neighbour.frames + 1 ≤ R.frames ∧ 8 + (3 + 11) + rmX2_neighbour.locals ≤ R.locals) (hcs : cells ≤ R.cells ∧ slots ≤ R.slots) (hsz : ls.size = nL) (hW : (rest.map fun v => v.category).sum ≤ 8) (hdg : decode cc pc = .ok (.invokevirtual 129, 3)) (kk : W p l e R s m args below meth c H locs cells slots Q (F0 m (pc + 3) ls (.int z :: rest))) : W p l e R s m args below meth c H locs cells slots Q (F0 m pc ls (.int x2 :: .int x1 :: .ref (ad 0) :: rest)) := callO (runV F yv_X2_neighbour_X2 (c_X2_neighbour h) hw.1 hw.2.1 hw.2.2.1 rfl rfl rfl ⟨rfl, rfl⟩ hR hcs rfl hsz rfl hW hdg) kk
def rmX2_firstWithin : Room := { frames := 5, cells := 0, slots := 0, locals := 112 }
noncomputable def f_X2_firstWithin (x1 : Int32) (u : SS) : Option (Int32) := (f_X2_neighbour x1 1 u).bind (fun z1 => (if z1 = ((-1) : Int32) then some (-1) else (f_X2_encloses x1 z1 u).bind (fun z4 => (if z4 = 0 then some (-1) else some z1))))
section
variable {p : Program} {l : Launch} {e : Env} {s : State} {m : MethodId} {args : Array Value} {below : List Frame} {meth : Method} {c : Code}
variable {G : GX} {A : Nat → Prop} {ad : Nat → Nat} 
set_option maxHeartbeats 4000000 in
set_option maxRecDepth 100000 in
theorem w_X2_firstWithin_0 (F : FX p m c cX2_firstWithin 3 s args yX2_firstWithin (some .int) RX2 meth) {z : Int32} : ∀ (x1 : Int32) (u : SS) (ls : Array Slot), WD G A s (sw G ad u) s.heap [] → lv_has ls 3 [(0, .ref (ad 0)), (1, .int x1)] → f_X2_firstWithin x1 u = some z → W p l e rmX2_firstWithin s m args below meth c s.heap [] 0 0 (MQ below (QO (some (.int z))) args s 0 0 (fun _ => False)) (F0 m 0 ls []) := by
  obtain ⟨⟨hx, hb, hml, hown, hts⟩, hr, hlocks⟩ := id F
  intro x1 u ls hw hl h
  unfold f_X2_firstWithin at h
  refine lv_aload_n hx hb dX2_firstWithin_0 rfl (lv_at hl 0 rfl) ?_
  refine lv_iload_n hx hb dX2_firstWithin_1 rfl (lv_at hl 1 rfl) ?_
  refine lv_iconst (v := 1) hx hb dX2_firstWithin_2 rfl ?_
  obtain ⟨z1, e2, h⟩ := bnd h
  refine k_X2_neighbour_s_ F hw e2 ⟨Nat.le_of_ble_eq_true rfl, Nat.le_of_ble_eq_true rfl⟩ ⟨Nat.zero_le _, Nat.zero_le _⟩ hl.1 (Nat.le_of_ble_eq_true rfl) dX2_firstWithin_3 ?_
  refine lv_istore_n (lv' := [(2, .int z1), (0, .ref (ad 0)), (1, .int x1)]) hx hb dX2_firstWithin_6 rfl hl (by decide) rfl (fun ls hl => ?_)
  refine lv_iload_n hx hb dX2_firstWithin_7 rfl (lv_at hl 0 rfl) ?_
  refine lv_iconst (v := (-1)) hx hb dX2_firstWithin_8 rfl ?_
  refine lv_icmp_eq (tgt := 25) hx hb dX2_firstWithin_9 rfl (fun c3 => ?_) (fun c3 => ?_)
  · replace h := itT h c3
    refine lv_iconst (v := (-1)) hx hb dX2_firstWithin_25 rfl ?_
    cases h
    exact retO_i F dX2_firstWithin_26
  · replace h := itF h c3
    refine lv_aload_n hx hb dX2_firstWithin_12 rfl (lv_at hl 1 rfl) ?_
    refine lv_iload_n hx hb dX2_firstWithin_13 rfl (lv_at hl 2 rfl) ?_
    refine lv_iload_n hx hb dX2_firstWithin_14 rfl (lv_at hl 0 rfl) ?_
    obtain ⟨z4, e5, h⟩ := bnd h
    refine k_X2_encloses_s_ F hw e5 ⟨Nat.le_of_ble_eq_true rfl, Nat.le_of_ble_eq_true rfl⟩ ⟨Nat.zero_le _, Nat.zero_le _⟩ hl.1 (Nat.le_of_ble_eq_true rfl) dX2_firstWithin_15 ?_
    refine lv_if_eq (tgt := 25) hx hb dX2_firstWithin_18 rfl (fun c6 => ?_) (fun c6 => ?_)
    · replace h := itT h c6
      refine lv_iconst (v := (-1)) hx hb dX2_firstWithin_25 rfl ?_
      cases h
      exact retO_i F dX2_firstWithin_26
    · replace h := itF h c6
      refine lv_iload_n hx hb dX2_firstWithin_21 rfl (lv_at hl 0 rfl) ?_
      refine lv_goto (tgt := 26) hx hb dX2_firstWithin_22 rfl ?_
      cases h
      exact retO_i F dX2_firstWithin_26
end
theorem c_X2_firstWithin {l : Launch} {G : GX} {ad : Nat → Nat} {x1 : Int32} {u : SS} {z : Int32} (h : f_X2_firstWithin x1 u = some z) : MO l yX2_firstWithin cX2_firstWithin 3 (some .int) rmX2_firstWithin G (sw G ad u) [.ref (ad 0), .int x1] (some (.int z)) := MO.of (by decide) (Nat.le_of_ble_eq_true rfl) (fun p e s m below meth c ls F hw hl => w_X2_firstWithin_0 F _ _ _ hw hl h)
/-! ===== X2_takeOut ===== -/
theorem dX2_takeOut_0 : decode cX2_takeOut 0 = .ok (.iload_n 3, 1) := by decide +kernel
theorem dX2_takeOut_1 : decode cX2_takeOut 1 = .ok (.iload_n 2, 1) := by decide +kernel
theorem dX2_takeOut_2 : decode cX2_takeOut 2 = .ok (.isub, 1) := by decide +kernel
theorem dX2_takeOut_3 : decode cX2_takeOut 3 = .ok (.istore 5, 2) := by decide +kernel
theorem dX2_takeOut_5 : decode cX2_takeOut 5 = .ok (.iload_n 2, 1) := by decide +kernel
theorem dX2_takeOut_6 : decode cX2_takeOut 6 = .ok (.aload_n 0, 1) := by decide +kernel
theorem dX2_takeOut_7 : decode cX2_takeOut 7 = .ok (.getfield 12, 3) := by decide +kernel
theorem dX2_takeOut_10 : decode cX2_takeOut 10 = .ok (.iload_n 1, 1) := by decide +kernel
theorem dX2_takeOut_11 : decode cX2_takeOut 11 = .ok (.invokevirtual 81, 3) := by decide +kernel
theorem dX2_takeOut_14 : decode cX2_takeOut 14 = .ok (.if_icmp .lt 28, 3) := by decide +kernel
theorem dX2_takeOut_17 : decode cX2_takeOut 17 = .ok (.iload 5, 2) := by decide +kernel
theorem dX2_takeOut_19 : decode cX2_takeOut 19 = .ok (.ifCond .lt 23, 3) := by decide +kernel
theorem dX2_takeOut_22 : decode cX2_takeOut 22 = .ok (.iload_n 3, 1) := by decide +kernel
theorem dX2_takeOut_23 : decode cX2_takeOut 23 = .ok (.aload_n 0, 1) := by decide +kernel
theorem dX2_takeOut_24 : decode cX2_takeOut 24 = .ok (.getfield 12, 3) := by decide +kernel
theorem dX2_takeOut_27 : decode cX2_takeOut 27 = .ok (.iload_n 1, 1) := by decide +kernel
theorem dX2_takeOut_28 : decode cX2_takeOut 28 = .ok (.invokevirtual 84, 3) := by decide +kernel
theorem dX2_takeOut_31 : decode cX2_takeOut 31 = .ok (.if_icmp .gt 11, 3) := by decide +kernel
theorem dX2_takeOut_34 : decode cX2_takeOut 34 = .ok (.iload 5, 2) := by decide +kernel
theorem dX2_takeOut_36 : decode cX2_takeOut 36 = .ok (.aload 4, 2) := by decide +kernel
theorem dX2_takeOut_38 : decode cX2_takeOut 38 = .ok (.arraylength, 1) := by decide +kernel
theorem dX2_takeOut_39 : decode cX2_takeOut 39 = .ok (.if_icmp .le 5, 3) := by decide +kernel
theorem dX2_takeOut_42 : decode cX2_takeOut 42 = .ok (.iconst 0, 1) := by decide +kernel
theorem dX2_takeOut_43 : decode cX2_takeOut 43 = .ok (.ireturn, 1) := by decide +kernel
theorem dX2_takeOut_44 : decode cX2_takeOut 44 = .ok (.iload_n 2, 1) := by decide +kernel
theorem dX2_takeOut_45 : decode cX2_takeOut 45 = .ok (.aload_n 0, 1) := by decide +kernel
theorem dX2_takeOut_46 : decode cX2_takeOut 46 = .ok (.getfield 12, 3) := by decide +kernel
theorem dX2_takeOut_49 : decode cX2_takeOut 49 = .ok (.iload_n 1, 1) := by decide +kernel
theorem dX2_takeOut_50 : decode cX2_takeOut 50 = .ok (.invokevirtual 81, 3) := by decide +kernel
theorem dX2_takeOut_53 : decode cX2_takeOut 53 = .ok (.if_icmp .le 16, 3) := by decide +kernel
theorem dX2_takeOut_56 : decode cX2_takeOut 56 = .ok (.aload_n 0, 1) := by decide +kernel
theorem dX2_takeOut_57 : decode cX2_takeOut 57 = .ok (.getfield 12, 3) := by decide +kernel
theorem dX2_takeOut_60 : decode cX2_takeOut 60 = .ok (.iload_n 2, 1) := by decide +kernel
theorem dX2_takeOut_61 : decode cX2_takeOut 61 = .ok (.iconst 1, 1) := by decide +kernel
theorem dX2_takeOut_62 : decode cX2_takeOut 62 = .ok (.isub, 1) := by decide +kernel
theorem dX2_takeOut_63 : decode cX2_takeOut 63 = .ok (.invokevirtual 117, 3) := by decide +kernel
theorem dX2_takeOut_66 : decode cX2_takeOut 66 = .ok (.goto 4, 3) := by decide +kernel
theorem dX2_takeOut_69 : decode cX2_takeOut 69 = .ok (.iconst (-1), 1) := by decide +kernel
theorem dX2_takeOut_70 : decode cX2_takeOut 70 = .ok (.istore 6, 2) := by decide +kernel
theorem dX2_takeOut_72 : decode cX2_takeOut 72 = .ok (.iconst 0, 1) := by decide +kernel
theorem dX2_takeOut_73 : decode cX2_takeOut 73 = .ok (.istore 7, 2) := by decide +kernel
theorem dX2_takeOut_75 : decode cX2_takeOut 75 = .ok (.iload 7, 2) := by decide +kernel
theorem dX2_takeOut_77 : decode cX2_takeOut 77 = .ok (.bipush 20, 2) := by decide +kernel
theorem dX2_takeOut_79 : decode cX2_takeOut 79 = .ok (.if_icmp .ge 93, 3) := by decide +kernel
theorem dX2_takeOut_82 : decode cX2_takeOut 82 = .ok (.aload_n 0, 1) := by decide +kernel
theorem dX2_takeOut_83 : decode cX2_takeOut 83 = .ok (.getfield 21, 3) := by decide +kernel
theorem dX2_takeOut_86 : decode cX2_takeOut 86 = .ok (.getfield 139, 3) := by decide +kernel
theorem dX2_takeOut_89 : decode cX2_takeOut 89 = .ok (.iload 7, 2) := by decide +kernel
theorem dX2_takeOut_91 : decode cX2_takeOut 91 = .ok (.iaload, 1) := by decide +kernel
theorem dX2_takeOut_92 : decode cX2_takeOut 92 = .ok (.iload_n 1, 1) := by decide +kernel
theorem dX2_takeOut_93 : decode cX2_takeOut 93 = .ok (.if_icmp .ne 73, 3) := by decide +kernel
theorem dX2_takeOut_96 : decode cX2_takeOut 96 = .ok (.aload_n 0, 1) := by decide +kernel
theorem dX2_takeOut_97 : decode cX2_takeOut 97 = .ok (.getfield 21, 3) := by decide +kernel
theorem dX2_takeOut_100 : decode cX2_takeOut 100 = .ok (.getfield 142, 3) := by decide +kernel
theorem dX2_takeOut_103 : decode cX2_takeOut 103 = .ok (.iload 7, 2) := by decide +kernel
theorem dX2_takeOut_105 : decode cX2_takeOut 105 = .ok (.iaload, 1) := by decide +kernel
theorem dX2_takeOut_106 : decode cX2_takeOut 106 = .ok (.iconst (-1), 1) := by decide +kernel
theorem dX2_takeOut_107 : decode cX2_takeOut 107 = .ok (.if_icmp .eq 59, 3) := by decide +kernel
theorem dX2_takeOut_110 : decode cX2_takeOut 110 = .ok (.aload_n 0, 1) := by decide +kernel
theorem dX2_takeOut_111 : decode cX2_takeOut 111 = .ok (.getfield 12, 3) := by decide +kernel
theorem dX2_takeOut_114 : decode cX2_takeOut 114 = .ok (.aload_n 0, 1) := by decide +kernel
theorem dX2_takeOut_115 : decode cX2_takeOut 115 = .ok (.getfield 21, 3) := by decide +kernel
theorem dX2_takeOut_118 : decode cX2_takeOut 118 = .ok (.getfield 142, 3) := by decide +kernel
theorem dX2_takeOut_121 : decode cX2_takeOut 121 = .ok (.iload 7, 2) := by decide +kernel
theorem dX2_takeOut_123 : decode cX2_takeOut 123 = .ok (.iaload, 1) := by decide +kernel
theorem dX2_takeOut_124 : decode cX2_takeOut 124 = .ok (.invokevirtual 91, 3) := by decide +kernel
theorem dX2_takeOut_127 : decode cX2_takeOut 127 = .ok (.istore 8, 2) := by decide +kernel
theorem dX2_takeOut_129 : decode cX2_takeOut 129 = .ok (.aload_n 0, 1) := by decide +kernel
theorem dX2_takeOut_130 : decode cX2_takeOut 130 = .ok (.getfield 21, 3) := by decide +kernel
theorem dX2_takeOut_133 : decode cX2_takeOut 133 = .ok (.getfield 142, 3) := by decide +kernel
theorem dX2_takeOut_136 : decode cX2_takeOut 136 = .ok (.iload 7, 2) := by decide +kernel
theorem dX2_takeOut_138 : decode cX2_takeOut 138 = .ok (.iload 8, 2) := by decide +kernel
theorem dX2_takeOut_140 : decode cX2_takeOut 140 = .ok (.iload_n 2, 1) := by decide +kernel
theorem dX2_takeOut_141 : decode cX2_takeOut 141 = .ok (.if_icmp .lt 14, 3) := by decide +kernel
theorem dX2_takeOut_144 : decode cX2_takeOut 144 = .ok (.iload 8, 2) := by decide +kernel
theorem dX2_takeOut_146 : decode cX2_takeOut 146 = .ok (.iload_n 3, 1) := by decide +kernel
theorem dX2_takeOut_147 : decode cX2_takeOut 147 = .ok (.if_icmp .ge 8, 3) := by decide +kernel
theorem dX2_takeOut_150 : decode cX2_takeOut 150 = .ok (.iload 6, 2) := by decide +kernel
theorem dX2_takeOut_152 : decode cX2_takeOut 152 = .ok (.goto 13, 3) := by decide +kernel
theorem dX2_takeOut_155 : decode cX2_takeOut 155 = .ok (.aload_n 0, 1) := by decide +kernel
theorem dX2_takeOut_156 : decode cX2_takeOut 156 = .ok (.getfield 21, 3) := by decide +kernel
theorem dX2_takeOut_159 : decode cX2_takeOut 159 = .ok (.getfield 142, 3) := by decide +kernel
theorem dX2_takeOut_162 : decode cX2_takeOut 162 = .ok (.iload 7, 2) := by decide +kernel
theorem dX2_takeOut_164 : decode cX2_takeOut 164 = .ok (.iaload, 1) := by decide +kernel
theorem dX2_takeOut_165 : decode cX2_takeOut 165 = .ok (.iastore, 1) := by decide +kernel
theorem dX2_takeOut_166 : decode cX2_takeOut 166 = .ok (.iinc 7 1, 3) := by decide +kernel
theorem dX2_takeOut_169 : decode cX2_takeOut 169 = .ok (.goto (-94), 3) := by decide +kernel
theorem dX2_takeOut_172 : decode cX2_takeOut 172 = .ok (.aload_n 0, 1) := by decide +kernel
theorem dX2_takeOut_173 : decode cX2_takeOut 173 = .ok (.getfield 12, 3) := by decide +kernel
theorem dX2_takeOut_176 : decode cX2_takeOut 176 = .ok (.getfield 104, 3) := by decide +kernel
theorem dX2_takeOut_179 : decode cX2_takeOut 179 = .ok (.iload_n 2, 1) := by decide +kernel
theorem dX2_takeOut_180 : decode cX2_takeOut 180 = .ok (.aload 4, 2) := by decide +kernel
theorem dX2_takeOut_182 : decode cX2_takeOut 182 = .ok (.iconst 0, 1) := by decide +kernel
theorem dX2_takeOut_183 : decode cX2_takeOut 183 = .ok (.iload 5, 2) := by decide +kernel
theorem dX2_takeOut_185 : decode cX2_takeOut 185 = .ok (.invokestatic 59, 3) := by decide +kernel
theorem dX2_takeOut_188 : decode cX2_takeOut 188 = .ok (.aload_n 0, 1) := by decide +kernel
theorem dX2_takeOut_189 : decode cX2_takeOut 189 = .ok (.getfield 12, 3) := by decide +kernel
theorem dX2_takeOut_192 : decode cX2_takeOut 192 = .ok (.iload_n 1, 1) := by decide +kernel
theorem dX2_takeOut_193 : decode cX2_takeOut 193 = .ok (.iload_n 2, 1) := by decide +kernel
theorem dX2_takeOut_194 : decode cX2_takeOut 194 = .ok (.iload_n 3, 1) := by decide +kernel
theorem dX2_takeOut_195 : decode cX2_takeOut 195 = .ok (.invokevirtual 145, 3) := by decide +kernel
theorem dX2_takeOut_198 : decode cX2_takeOut 198 = .ok (.iload 5, 2) := by decide +kernel
theorem dX2_takeOut_200 : decode cX2_takeOut 200 = .ok (.ireturn, 1) := by decide +kernel
theorem p_g0_0 {p : Program} {l : Launch} {e : Env} {R : Room} {s : State} {m : MethodId} {args : Array Value} {below : List Frame} {meth : Method} {c : Code} {H : Heap} {locs : List Loc} {cells slots : Nat} {Q : State → Prop} {G : GX} {A : Nat → Prop} {ad : Nat → Nat} {u : SP} {cc : ByteArray} {nL pc : Nat} {y : MethodName} {ret : Option FieldType} {ls : Array Slot} {rest : List Value} (F : FX p m c cc nL s args y ret RX2 meth) (hw : WD G A s (sp G ad u) H locs) (hdg : decode cc pc = .ok (.getfield 12, 3)) (kk : W p l e R s m args below meth c H locs cells slots Q (F0 m (pc + 3) ls (.ref (ad 1) :: rest))) : W p l e R s m args below meth c H locs cells slots Q (F0 m pc ls (.ref (ad 0) :: rest)) := va_get (D := G.1) (ci := 2) (C := RX2) (T := TX2) (N := 8) (Ts := lw_gt) F.1.1 F.1.2.1 (fun _ h => F.tb h) inX2 F.1.2.2.2.1 hw.1.1 hw.2.1 0 rfl rfl 0 (by decide) (F.tb (tw 67 (by decide +kernel) rfl)) (fun _ h9 => h9) rfl hdg kk
theorem k_X1_first_p_ {p : Program} {l : Launch} {e : Env} {R : Room} {s : State} {m : MethodId} {args : Array Value} {below : List Frame} {meth : Method} {c : Code} {H : Heap} {locs : List Loc} {cells slots : Nat} {Q : State → Prop} {G : GX} {A : Nat → Prop} {ad : Nat → Nat} {u : SP} {cc : ByteArray} {nL pc : Nat} {y : MethodName} {ret : Option FieldType} {ls : Array Slot} {rest : List Value} {x1 : Int32} {z : Int32} (F : FX p m c cc nL s args y ret RX2 meth) (hw : WD G A s (sp G ad u) H locs) (h : f_X1_first x1 u.1.1 = some z) (hR : rmX1_first.frames + 1 ≤ R.frames ∧ 8 + (2 + 11) + rmX1_first.locals ≤ R.locals) (hcs : cells ≤ R.cells ∧ slots ≤ R.slots) (hsz : ls.size = nL) (hW : (rest.map fun v => v.category).sum ≤ 8) (hdg : decode cc pc = .ok (.invokevirtual 81, 3)) (kk : W p l e R s m args below meth c H locs cells slots Q (F0 m (pc + 3) ls (.int z :: rest))) : W p l e R s m args below meth c H locs cells slots Q (F0 m pc ls (.int x1 :: .ref (ad 1) :: rest)) := callO (runV F yv_X1_first_X2 (c_X1_first h (ad := (fun k => ad (k + 1)))) hw.1 (hw.2.1.sub [1, 2, 3, 4] rfl) (hw.2.2.1.sub [1, 2, 3, 4] (by decide) rfl) rfl rfl rfl ⟨rfl, rfl⟩ hR hcs rfl hsz rfl hW hdg) kk
theorem k_X1_end_p_ {p : Program} {l : Launch} {e : Env} {R : Room} {s : State} {m : MethodId} {args : Array Value} {below : List Frame} {meth : Method} {c : Code} {H : Heap} {locs : List Loc} {cells slots : Nat} {Q : State → Prop} {G : GX} {A : Nat → Prop} {ad : Nat → Nat} {u : SP} {cc : ByteArray} {nL pc : Nat} {y : MethodName} {ret : Option FieldType} {ls : Array Slot} {rest : List Value} {x1 : Int32} {z : Int32} (F : FX p m c cc nL s args y ret RX2 meth) (hw : WD G A s (sp G ad u) H locs) (h : f_X1_end x1 u.1.1 = some z) (hR : rmX1_end.frames + 1 ≤ R.frames ∧ 8 + (2 + 11) + rmX1_end.locals ≤ R.locals) (hcs : cells ≤ R.cells ∧ slots ≤ R.slots) (hsz : ls.size = nL) (hW : (rest.map fun v => v.category).sum ≤ 8) (hdg : decode cc pc = .ok (.invokevirtual 84, 3)) (kk : W p l e R s m args below meth c H locs cells slots Q (F0 m (pc + 3) ls (.int z :: rest))) : W p l e R s m args below meth c H locs cells slots Q (F0 m pc ls (.int x1 :: .ref (ad 1) :: rest)) := callO (runV F yv_X1_end_X2 (c_X1_end h (ad := (fun k => ad (k + 1)))) hw.1 (hw.2.1.sub [1, 2, 3, 4] rfl) (hw.2.2.1.sub [1, 2, 3, 4] (by decide) rfl) rfl rfl rfl ⟨rfl, rfl⟩ hR hcs rfl hsz rfl hW hdg) kk
theorem p_n14 {p : Program} {l : Launch} {e : Env} {R : Room} {s : State} {m : MethodId} {args : Array Value} {below : List Frame} {meth : Method} {c : Code} {H : Heap} {locs : List Loc} {cells slots : Nat} {Q : State → Prop} {G : GX} {A : Nat → Prop} {ad : Nat → Nat} {u : SP} {cc : ByteArray} {nL pc : Nat} {y : MethodName} {ret : Option FieldType} {ls : Array Slot} {rest : List Value} (F : FX p m c cc nL s args y ret RX2 meth) (hw : WD G A s (sp G ad u) H locs) (hdg : decode cc pc = .ok (.arraylength, 1)) (kk : W p l e R s m args below meth c H locs cells slots Q (F0 m (pc + 1) ls (.int 600 :: rest))) : W p l e R s m args below meth c H locs cells slots Q (F0 m pc ls (.ref (ad 14) :: rest)) := va_alen F.1.1 F.1.2.1 hw.1.1 hw.2.1 14 0 rfl rfl rfl hdg kk
theorem k_X1_standAt_p_ {p : Program} {l : Launch} {e : Env} {R : Room} {s : State} {m : MethodId} {args : Array Value} {below : List Frame} {meth : Method} {c : Code} {H : Heap} {locs : List Loc} {cells slots : Nat} {Q : State → Prop} {G : GX} {A : Nat → Prop} {ad : Nat → Nat} {u : SP} {cc : ByteArray} {nL pc : Nat} {y : MethodName} {ret : Option FieldType} {ls : Array Slot} {rest : List Value} {x1 : Int32} {z : Int32} (F : FX p m c cc nL s args y ret RX2 meth) (hw : WD G A s (sp G ad u) H locs) (h : f_X1_standAt x1 u.1.1 = some z) (hR : rmX1_standAt.frames + 1 ≤ R.frames ∧ 8 + (2 + 11) + rmX1_standAt.locals ≤ R.locals) (hcs : cells ≤ R.cells ∧ slots ≤ R.slots) (hsz : ls.size = nL) (hW : (rest.map fun v => v.category).sum ≤ 8) (hdg : decode cc pc = .ok (.invokevirtual 117, 3)) (kk : W p l e R s m args below meth c H locs cells slots Q (F0 m (pc + 3) ls (.int z :: rest))) : W p l e R s m args below meth c H locs cells slots Q (F0 m pc ls (.int x1 :: .ref (ad 1) :: rest)) := callO (runV F yv_X1_standAt_X2 (c_X1_standAt h (ad := (fun k => ad (k + 1)))) hw.1 (hw.2.1.sub [1, 2, 3, 4] rfl) (hw.2.2.1.sub [1, 2, 3, 4] (by decide) rfl) rfl rfl rfl ⟨rfl, rfl⟩ hR hcs rfl hsz rfl hW hdg) kk
theorem p_g1_0 {p : Program} {l : Launch} {e : Env} {R : Room} {s : State} {m : MethodId} {args : Array Value} {below : List Frame} {meth : Method} {c : Code} {H : Heap} {locs : List Loc} {cells slots : Nat} {Q : State → Prop} {G : GX} {A : Nat → Prop} {ad : Nat → Nat} {u : SP} {cc : ByteArray} {nL pc : Nat} {y : MethodName} {ret : Option FieldType} {ls : Array Slot} {rest : List Value} (F : FX p m c cc nL s args y ret RX2 meth) (hw : WD G A s (sp G ad u) H locs) (hdg : decode cc pc = .ok (.getfield 104, 3)) (kk : W p l e R s m args below meth c H locs cells slots Q (F0 m (pc + 3) ls (.ref (ad 2) :: rest))) : W p l e R s m args below meth c H locs cells slots Q (F0 m pc ls (.ref (ad 1) :: rest)) := va_get (D := G.1) (ci := 1) (C := RX1) (T := TX1) (N := 3) (Ts := lw_gt) F.1.1 F.1.2.1 (fun _ h => F.tb h) inX1 F.1.2.2.2.1 hw.1.1 hw.2.1 1 rfl rfl 0 (by decide) (F.tb (tw 34 (by decide +kernel) rfl)) (fun _ h9 => h9) rfl hdg kk
theorem p_c2_14 {i j n : Int32} {p : Program} {l : Launch} {e : Env} {R : Room} {s : State} {m : MethodId} {args : Array Value} {below : List Frame} {meth : Method} {c : Code} {H : Heap} {locs : List Loc} {cells slots : Nat} {Q : State → Prop} {G : GX} {A : Nat → Prop} {ad : Nat → Nat} {u : SP} {cc : ByteArray} {nL pc : Nat} {y : MethodName} {ret : Option FieldType} {ls : Array Slot} {rest : List Value} (F : FX p m c cc nL s args y ret RX2 meth) (hw : WD G A s (sp G ad u) H locs) (hi : acp i j n 600 600 = true) (hsz : ls.size = nL) (hfr : 1 ≤ R.frames) (hlo : (rest.map fun v => v.category).sum + 18 ≤ R.locals) (hdg : decode cc pc = .ok (.invokestatic 59, 3)) (kk : ∀ (H : Heap) (locs : List Loc), WD G A s (sp G ad (u.1, (va_cpy (u.1.1 1) u.2 i.toNatClampNeg j.toNatClampNeg n.toNatClampNeg))) H locs → W p l e R s m args below meth c H locs cells slots Q (F0 m (pc + 3) ls (rest))) : W p l e R s m args below meth c H locs cells slots Q (F0 m pc ls (.int n :: .int j :: .ref (ad 14) :: .int i :: .ref (ad 2) :: rest)) := va_copyi (ty := .int) F.1.1 F.1.2.1 (F.1.2.2.1.trans hsz.symm) F.1.2.2.2.1 (F.tb (tw 155 (by decide +kernel) rfl)) (F.tb (tw 149 (by decide +kernel) rfl)) (F.tb (tw 148 (by decide +kernel) rfl)) (F.tb (tw 7 (by decide +kernel) rfl)) hw.1.1 hw.2.1 hw.2.2.1 hw.2.2.2 2 14 0 0 rfl rfl rfl rfl rfl (acp_ok hi).1 (acp_ok hi).2.1 (acp_ok hi).2.2.1 (acp_ok hi).2.2.2.1 (acp_ok hi).2.2.2.2 (fun _ _ => rfl) hfr (by rw [nfw]; exact hlo) hdg (fun H1 l1 hP hD hS => kk H1 l1 ⟨hw.1, hP, hD, hS⟩)
theorem yv_X1_remove_X2 : YV RX2 145 yX1_remove cX1_remove 5 none 3 := ⟨(tw 317 (by decide +kernel) rfl), (tw 3 (by decide +kernel) rfl), (tw 314 (by decide +kernel) rfl), (tw 315 (by decide +kernel) rfl), (tw 316 (by decide +kernel) rfl), by decide +kernel⟩
theorem k_X1_remove_p_ {p : Program} {l : Launch} {e : Env} {R : Room} {s : State} {m : MethodId} {args : Array Value} {below : List Frame} {meth : Method} {c : Code} {H : Heap} {locs : List Loc} {cells slots : Nat} {Q : State → Prop} {G : GX} {A : Nat → Prop} {ad : Nat → Nat} {u : SP} {cc : ByteArray} {nL pc : Nat} {y : MethodName} {ret : Option FieldType} {ls : Array Slot} {rest : List Value} {x1 : Int32} {x2 : Int32} {x3 : Int32} {z : OS} (F : FX p m c cc nL s args y ret RX2 meth) (hw : WD G A s (sp G ad u) H locs) (h : f_X1_remove x1 x2 x3 u.1.1 = some z) (hR : rmX1_remove.frames + 1 ≤ R.frames ∧ 8 + (5 + 11) + rmX1_remove.locals ≤ R.locals) (hcs : cells ≤ R.cells ∧ slots ≤ R.slots) (hsz : ls.size = nL) (hW : (rest.map fun v => v.category).sum ≤ 8) (hdg : decode cc pc = .ok (.invokevirtual 145, 3)) (kk : ∀ (H : Heap) (locs : List Loc), WD G A s (sp G ad ((sO u.1 z), u.2)) H locs → W p l e R s m args below meth c H locs cells slots Q (F0 m (pc + 3) ls (rest))) : W p l e R s m args below meth c H locs cells slots Q (F0 m pc ls (.int x3 :: .int x2 :: .int x1 :: .ref (ad 1) :: rest)) := callW (runV F yv_X1_remove_X2 (c_X1_remove h (ad := (fun k => ad (k + 1)))) hw.1 (hw.2.1.sub [1, 2, 3, 4] rfl) (hw.2.2.1.sub [1, 2, 3, 4] (by decide) rfl) rfl rfl rfl ⟨rfl, rfl⟩ hR hcs rfl hsz rfl hW hdg) hw.2.2.2 (hw.2.2.1.sub [1, 2, 3, 4] (by decide) rfl).own_in (fun H1 l1 hP hk hS => kk H1 l1 ⟨hw.1, (joinW hw.2.1 hw.2.2.1 [1, 2, 3, 4] [0, 5, 6, 7, 8, 9, 10, 11, 12, 13, 14] rfl (by decide) hk hP).sub [0, 11, 12, 13, 14, 1, 2, 3, 4, 5, 6, 7, 8, 9, 10] rfl, hw.2.2.1.addr rfl, hS⟩)
theorem p_g0_1 {p : Program} {l : Launch} {e : Env} {R : Room} {s : State} {m : MethodId} {args : Array Value} {below : List Frame} {meth : Method} {c : Code} {H : Heap} {locs : List Loc} {cells slots : Nat} {Q : State → Prop} {G : GX} {A : Nat → Prop} {ad : Nat → Nat} {u : SP} {cc : ByteArray} {nL pc : Nat} {y : MethodName} {ret : Option FieldType} {ls : Array Slot} {rest : List Value} (F : FX p m c cc nL s args y ret RX2 meth) (hw : WD G A s (sp G ad u) H locs) (hdg : decode cc pc = .ok (.getfield 21, 3)) (kk : W p l e R s m args below meth c H locs cells slots Q (F0 m (pc + 3) ls (.ref (ad 5) :: rest))) : W p l e R s m args below meth c H locs cells slots Q (F0 m pc ls (.ref (ad 0) :: rest)) := va_get (D := G.1) (ci := 2) (C := RX2) (T := TX2) (N := 8) (Ts := lw_gt) F.1.1 F.1.2.1 (fun _ h => F.tb h) inX2 F.1.2.2.2.1 hw.1.1 hw.2.1 0 rfl rfl 1 (by decide) (F.tb (tw 69 (by decide +kernel) rfl)) (fun _ h9 => h9) rfl hdg kk
theorem p_g5_0 {p : Program} {l : Launch} {e : Env} {R : Room} {s : State} {m : MethodId} {args : Array Value} {below : List Frame} {meth : Method} {c : Code} {H : Heap} {locs : List Loc} {cells slots : Nat} {Q : State → Prop} {G : GX} {A : Nat → Prop} {ad : Nat → Nat} {u : SP} {cc : ByteArray} {nL pc : Nat} {y : MethodName} {ret : Option FieldType} {ls : Array Slot} {rest : List Value} (F : FX p m c cc nL s args y ret RX2 meth) (hw : WD G A s (sp G ad u) H locs) (hdg : decode cc pc = .ok (.getfield 139, 3)) (kk : W p l e R s m args below meth c H locs cells slots Q (F0 m (pc + 3) ls (.ref (ad 6) :: rest))) : W p l e R s m args below meth c H locs cells slots Q (F0 m pc ls (.ref (ad 5) :: rest)) := va_get (D := G.1) (ci := 0) (C := RX0) (T := TX0) (N := 3) (Ts := lw_gt) F.1.1 F.1.2.1 (fun _ h => F.tb h) inX0 F.1.2.2.2.1 hw.1.1 hw.2.1 5 rfl rfl 0 (by decide) (F.tb (tw 54 (by decide +kernel) rfl)) (fun _ h9 => h9) rfl hdg kk
theorem p_l6 {i : Int32} {p : Program} {l : Launch} {e : Env} {R : Room} {s : State} {m : MethodId} {args : Array Value} {below : List Frame} {meth : Method} {c : Code} {H : Heap} {locs : List Loc} {cells slots : Nat} {Q : State → Prop} {G : GX} {A : Nat → Prop} {ad : Nat → Nat} {u : SP} {cc : ByteArray} {nL pc : Nat} {y : MethodName} {ret : Option FieldType} {ls : Array Slot} {rest : List Value} (F : FX p m c cc nL s args y ret RX2 meth) (hw : WD G A s (sp G ad u) H locs) (hi : ix i 20 = true) (hdg : decode cc pc = .ok (.iaload, 1)) (kk : W p l e R s m args below meth c H locs cells slots Q (F0 m (pc + 1) ls (.int ((u.1.2.1 1) i.toNatClampNeg) :: rest))) : W p l e R s m args below meth c H locs cells slots Q (F0 m pc ls (.int i :: .ref (ad 6) :: rest)) := va_iald F.1.1 F.1.2.1 hw.1.1 hw.2.1 6 0 rfl rfl (ix_in hi) hdg kk
theorem p_g5_1 {p : Program} {l : Launch} {e : Env} {R : Room} {s : State} {m : MethodId} {args : Array Value} {below : List Frame} {meth : Method} {c : Code} {H : Heap} {locs : List Loc} {cells slots : Nat} {Q : State → Prop} {G : GX} {A : Nat → Prop} {ad : Nat → Nat} {u : SP} {cc : ByteArray} {nL pc : Nat} {y : MethodName} {ret : Option FieldType} {ls : Array Slot} {rest : List Value} (F : FX p m c cc nL s args y ret RX2 meth) (hw : WD G A s (sp G ad u) H locs) (hdg : decode cc pc = .ok (.getfield 142, 3)) (kk : W p l e R s m args below meth c H locs cells slots Q (F0 m (pc + 3) ls (.ref (ad 7) :: rest))) : W p l e R s m args below meth c H locs cells slots Q (F0 m pc ls (.ref (ad 5) :: rest)) := va_get (D := G.1) (ci := 0) (C := RX0) (T := TX0) (N := 3) (Ts := lw_gt) F.1.1 F.1.2.1 (fun _ h => F.tb h) inX0 F.1.2.2.2.1 hw.1.1 hw.2.1 5 rfl rfl 1 (by decide) (F.tb (tw 57 (by decide +kernel) rfl)) (fun _ h9 => h9) rfl hdg kk
theorem p_l7 {i : Int32} {p : Program} {l : Launch} {e : Env} {R : Room} {s : State} {m : MethodId} {args : Array Value} {below : List Frame} {meth : Method} {c : Code} {H : Heap} {locs : List Loc} {cells slots : Nat} {Q : State → Prop} {G : GX} {A : Nat → Prop} {ad : Nat → Nat} {u : SP} {cc : ByteArray} {nL pc : Nat} {y : MethodName} {ret : Option FieldType} {ls : Array Slot} {rest : List Value} (F : FX p m c cc nL s args y ret RX2 meth) (hw : WD G A s (sp G ad u) H locs) (hi : ix i 20 = true) (hdg : decode cc pc = .ok (.iaload, 1)) (kk : W p l e R s m args below meth c H locs cells slots Q (F0 m (pc + 1) ls (.int ((u.1.2.1 2) i.toNatClampNeg) :: rest))) : W p l e R s m args below meth c H locs cells slots Q (F0 m pc ls (.int i :: .ref (ad 7) :: rest)) := va_iald F.1.1 F.1.2.1 hw.1.1 hw.2.1 7 0 rfl rfl (ix_in hi) hdg kk
theorem k_X1_placeOf_p_ {p : Program} {l : Launch} {e : Env} {R : Room} {s : State} {m : MethodId} {args : Array Value} {below : List Frame} {meth : Method} {c : Code} {H : Heap} {locs : List Loc} {cells slots : Nat} {Q : State → Prop} {G : GX} {A : Nat → Prop} {ad : Nat → Nat} {u : SP} {cc : ByteArray} {nL pc : Nat} {y : MethodName} {ret : Option FieldType} {ls : Array Slot} {rest : List Value} {x1 : Int32} {z : Int32} (F : FX p m c cc nL s args y ret RX2 meth) (hw : WD G A s (sp G ad u) H locs) (h : f_X1_placeOf x1 u.1.1 = some z) (hR : rmX1_placeOf.frames + 1 ≤ R.frames ∧ 8 + (4 + 11) + rmX1_placeOf.locals ≤ R.locals) (hcs : cells ≤ R.cells ∧ slots ≤ R.slots) (hsz : ls.size = nL) (hW : (rest.map fun v => v.category).sum ≤ 8) (hdg : decode cc pc = .ok (.invokevirtual 91, 3)) (kk : W p l e R s m args below meth c H locs cells slots Q (F0 m (pc + 3) ls (.int z :: rest))) : W p l e R s m args below meth c H locs cells slots Q (F0 m pc ls (.int x1 :: .ref (ad 1) :: rest)) := callO (runV F yv_X1_placeOf_X2 (c_X1_placeOf h (ad := (fun k => ad (k + 1)))) hw.1 (hw.2.1.sub [1, 2, 3, 4] rfl) (hw.2.2.1.sub [1, 2, 3, 4] (by decide) rfl) rfl rfl rfl ⟨rfl, rfl⟩ hR hcs rfl hsz rfl hW hdg) kk
theorem p_s7 {i : Int32} {x : Int32} {p : Program} {l : Launch} {e : Env} {R : Room} {s : State} {m : MethodId} {args : Array Value} {below : List Frame} {meth : Method} {c : Code} {H : Heap} {locs : List Loc} {cells slots : Nat} {Q : State → Prop} {G : GX} {A : Nat → Prop} {ad : Nat → Nat} {u : SP} {cc : ByteArray} {nL pc : Nat} {y : MethodName} {ret : Option FieldType} {ls : Array Slot} {rest : List Value} (F : FX p m c cc nL s args y ret RX2 meth) (hw : WD G A s (sp G ad u) H locs) (hi : ix i 20 = true) (hdg : decode cc pc = .ok (.iastore, 1)) (kk : ∀ (H : Heap) (locs : List Loc), WD G A s (sp G ad ((sK u.1 (oA u.1.2.1 2 i.toNatClampNeg x)), u.2)) H locs → W p l e R s m args below meth c H locs cells slots Q (F0 m (pc + 1) ls (rest))) : W p l e R s m args below meth c H locs cells slots Q (F0 m pc ls (.int x :: .int i :: .ref (ad 7) :: rest)) := va_iast F.1.1 F.1.2.1 hw.1.1 hw.2.1 hw.2.2.1 hw.2.2.2 7 0 rfl rfl (ix_in hi) hdg (fun H1 l1 hP hD hS => kk H1 l1 ⟨hw.1, hP, hD, hS⟩)
def rmX2_takeOut : Room := { frames := 2, cells := 0, slots := 0, locals := 45 }
noncomputable def f_X2_takeOut_75 : Nat → Int32 → Int32 → Int32 → Int32 → Int32 → Int32 → SP → Option (Int32 × SP)
  | 0, _, _, _, _, _, _, _ => none
  | n + 1, x1, x2, x3, x5, x6, x7, u => (if (20 : Int32) ≤ x7 then (if acp x2 0 x5 600 600 = true then (f_X1_remove x1 x2 x3 (u.1, (va_cpy (u.1.1 1) u.2 (Int32.toNatClampNeg x2) (Int32.toNatClampNeg 0) (Int32.toNatClampNeg x5))).1.1).bind (fun z16 => some (x5, ((sO (u.1, (va_cpy (u.1.1 1) u.2 (Int32.toNatClampNeg x2) (Int32.toNatClampNeg 0) (Int32.toNatClampNeg x5))).1 z16), (u.1, (va_cpy (u.1.1 1) u.2 (Int32.toNatClampNeg x2) (Int32.toNatClampNeg 0) (Int32.toNatClampNeg x5))).2))) else none) else (if ix x7 20 = true then (if ((u.1.2.1 1) (Int32.toNatClampNeg x7)) = x1 then (if ix x7 20 = true then (if ((u.1.2.1 2) (Int32.toNatClampNeg x7)) = ((-1) : Int32) then f_X2_takeOut_75 n x1 x2 x3 x5 x6 (x7 + 1) u else (if ix x7 20 = true then (f_X1_placeOf ((u.1.2.1 2) (Int32.toNatClampNeg x7)) u.1.1).bind (fun z23 => (if z23 < x2 then (if ix x7 20 = true then (if ix x7 20 = true then f_X2_takeOut_75 n x1 x2 x3 x5 x6 (x7 + 1) ((sK u.1 (oA u.1.2.1 2 (Int32.toNatClampNeg x7) ((u.1.2.1 2) (Int32.toNatClampNeg x7)))), u.2) else none) else none) else (if x3 ≤ z23 then (if ix x7 20 = true then (if ix x7 20 = true then f_X2_takeOut_75 n x1 x2 x3 x5 x6 (x7 + 1) ((sK u.1 (oA u.1.2.1 2 (Int32.toNatClampNeg x7) ((u.1.2.1 2) (Int32.toNatClampNeg x7)))), u.2) else none) else none) else (if ix x7 20 = true then f_X2_takeOut_75 n x1 x2 x3 x5 x6 (x7 + 1) ((sK u.1 (oA u.1.2.1 2 (Int32.toNatClampNeg x7) x6)), u.2) else none)))) else none)) else none) else f_X2_takeOut_75 n x1 x2 x3 x5 x6 (x7 + 1) u) else none))
noncomputable def f_X2_takeOut (x1 : Int32) (x2 : Int32) (x3 : Int32) (u : SP) : Option (Int32 × SP) := (f_X1_first x1 u.1.1).bind (fun z1 => (if x2 < z1 then some (0, u) else (if (x3 - x2) < 0 then some (0, u) else (f_X1_end x1 u.1.1).bind (fun z5 => (if z5 < x3 then some (0, u) else (if (x3 - x2) ≤ (600 : Int32) then (f_X1_first x1 u.1.1).bind (fun z9 => (if x2 ≤ z9 then f_X2_takeOut_75 NF x1 x2 x3 (x3 - x2) (-1) 0 u else (f_X1_standAt (x2 - 1) u.1.1).bind (fun z12 => f_X2_takeOut_75 NF x1 x2 x3 (x3 - x2) z12 0 u))) else some (0, u)))))))
section
variable {p : Program} {l : Launch} {e : Env} {s : State} {m : MethodId} {args : Array Value} {below : List Frame} {meth : Method} {c : Code}
variable {G : GX} {A : Nat → Prop} {ad : Nat → Nat} 
set_option maxHeartbeats 4000000 in
set_option maxRecDepth 100000 in
theorem w_X2_takeOut_75 (F : FX p m c cX2_takeOut 9 s args yX2_takeOut (some .int) RX2 meth) {z : Int32 × SP} : ∀ (n : Nat) (x1 : Int32) (x2 : Int32) (x3 : Int32) (x5 : Int32) (x6 : Int32) (x7 : Int32) (u : SP) (H : Heap) (locs : List Loc) (ls : Array Slot), WD G A s (sp G ad u) H locs → lv_has ls 9 [(0, .ref (ad 0)), (1, .int x1), (2, .int x2), (3, .int x3), (4, .ref (ad 14)), (5, .int x5), (6, .int x6), (7, .int x7)] → f_X2_takeOut_75 n x1 x2 x3 x5 x6 x7 u = some z → W p l e rmX2_takeOut s m args below meth c H locs 0 0 (MQ below (QW G (sp G ad z.2) A (some (.int z.1))) args s 0 0 A) (F0 m 75 ls []) := by
  obtain ⟨⟨hx, hb, hml, hown, hts⟩, hr, hlocks⟩ := id F
  intro n
  induction n with
  | zero =>
    intro x1 x2 x3 x5 x6 x7 u H locs ls hw hl h
    rw [f_X2_takeOut_75] at h
    cases h
  | succ n ih =>
    intro x1 x2 x3 x5 x6 x7 u H locs ls hw hl h
    rw [f_X2_takeOut_75] at h
    refine lv_iload hx hb dX2_takeOut_75 (lv_at hl 7 rfl) ?_
    refine lv_bipush (v := 20) hx hb dX2_takeOut_77 rfl ?_
    refine lv_icmp_ge (tgt := 172) hx hb dX2_takeOut_79 rfl (fun c14 => ?_) (fun c14 => ?_)
    · replace h := itT h c14
      refine lv_aload_n hx hb dX2_takeOut_172 rfl (lv_at hl 0 rfl) ?_
      refine p_g0_0 F hw dX2_takeOut_173 ?_
      refine p_g1_0 F hw dX2_takeOut_176 ?_
      refine lv_iload_n hx hb dX2_takeOut_179 rfl (lv_at hl 2 rfl) ?_
      refine lv_aload hx hb dX2_takeOut_180 (lv_at hl 4 rfl) ?_
      refine lv_iconst (v := 0) hx hb dX2_takeOut_182 rfl ?_
      refine lv_iload hx hb dX2_takeOut_183 (lv_at hl 5 rfl) ?_
      obtain ⟨g15, h⟩ := gd h
      refine p_c2_14 F hw g15 hl.1 (Nat.le_of_ble_eq_true rfl) (Nat.le_of_ble_eq_true rfl) dX2_takeOut_185 (fun H locs hw => ?_)
      refine lv_aload_n hx hb dX2_takeOut_188 rfl (lv_at hl 0 rfl) ?_
      refine p_g0_0 F hw dX2_takeOut_189 ?_
      refine lv_iload_n hx hb dX2_takeOut_192 rfl (lv_at hl 1 rfl) ?_
      refine lv_iload_n hx hb dX2_takeOut_193 rfl (lv_at hl 2 rfl) ?_
      refine lv_iload_n hx hb dX2_takeOut_194 rfl (lv_at hl 3 rfl) ?_
      obtain ⟨z16, e17, h⟩ := bnd h
      refine k_X1_remove_p_ F hw e17 ⟨Nat.le_of_ble_eq_true rfl, Nat.le_of_ble_eq_true rfl⟩ ⟨Nat.zero_le _, Nat.zero_le _⟩ hl.1 (Nat.le_of_ble_eq_true rfl) dX2_takeOut_195 (fun H locs hw => ?_)
      refine lv_iload hx hb dX2_takeOut_198 (lv_at hl 5 rfl) ?_
      cases h
      exact retW_i F hw dX2_takeOut_200
    · replace h := itF h c14
      refine lv_aload_n hx hb dX2_takeOut_82 rfl (lv_at hl 0 rfl) ?_
      refine p_g0_1 F hw dX2_takeOut_83 ?_
      refine p_g5_0 F hw dX2_takeOut_86 ?_
      refine lv_iload hx hb dX2_takeOut_89 (lv_at hl 7 rfl) ?_
      obtain ⟨g18, h⟩ := gd h
      refine p_l6 F hw g18 dX2_takeOut_91 ?_
      refine lv_iload_n hx hb dX2_takeOut_92 rfl (lv_at hl 1 rfl) ?_
      refine lv_icmp_ne (tgt := 166) hx hb dX2_takeOut_93 rfl (fun c19 => ?_) (fun c19 => ?_)
      · replace h := itF h c19
        refine lv_iinc (v := (x7 + 1)) (lv' := [(7, .int (x7 + 1)), (0, .ref (ad 0)), (1, .int x1), (2, .int x2), (3, .int x3), (4, .ref (ad 14)), (5, .int x5), (6, .int x6)]) hx hb dX2_takeOut_166 hl (k := 7) rfl rfl (by decide) rfl (fun ls hl => ?_)
        refine lv_goto (tgt := 75) hx hb dX2_takeOut_169 rfl ?_
        exact ih _ _ _ _ _ _ _ _ _ _ hw (lv_sub hl [1, 2, 3, 4, 5, 6, 7, 0] rfl) h
      · replace h := itT h c19
        refine lv_aload_n hx hb dX2_takeOut_96 rfl (lv_at hl 0 rfl) ?_
        refine p_g0_1 F hw dX2_takeOut_97 ?_
        refine p_g5_1 F hw dX2_takeOut_100 ?_
        refine lv_iload hx hb dX2_takeOut_103 (lv_at hl 7 rfl) ?_
        obtain ⟨g20, h⟩ := gd h
        refine p_l7 F hw g20 dX2_takeOut_105 ?_
        refine lv_iconst (v := (-1)) hx hb dX2_takeOut_106 rfl ?_
        refine lv_icmp_eq (tgt := 166) hx hb dX2_takeOut_107 rfl (fun c21 => ?_) (fun c21 => ?_)
        · replace h := itT h c21
          refine lv_iinc (v := (x7 + 1)) (lv' := [(7, .int (x7 + 1)), (0, .ref (ad 0)), (1, .int x1), (2, .int x2), (3, .int x3), (4, .ref (ad 14)), (5, .int x5), (6, .int x6)]) hx hb dX2_takeOut_166 hl (k := 7) rfl rfl (by decide) rfl (fun ls hl => ?_)
          refine lv_goto (tgt := 75) hx hb dX2_takeOut_169 rfl ?_
          exact ih _ _ _ _ _ _ _ _ _ _ hw (lv_sub hl [1, 2, 3, 4, 5, 6, 7, 0] rfl) h
        · replace h := itF h c21
          refine lv_aload_n hx hb dX2_takeOut_110 rfl (lv_at hl 0 rfl) ?_
          refine p_g0_0 F hw dX2_takeOut_111 ?_
          refine lv_aload_n hx hb dX2_takeOut_114 rfl (lv_at hl 0 rfl) ?_
          refine p_g0_1 F hw dX2_takeOut_115 ?_
          refine p_g5_1 F hw dX2_takeOut_118 ?_
          refine lv_iload hx hb dX2_takeOut_121 (lv_at hl 7 rfl) ?_
          obtain ⟨g22, h⟩ := gd h
          refine p_l7 F hw g22 dX2_takeOut_123 ?_
          obtain ⟨z23, e24, h⟩ := bnd h
          refine k_X1_placeOf_p_ F hw e24 ⟨Nat.le_of_ble_eq_true rfl, Nat.le_of_ble_eq_true rfl⟩ ⟨Nat.zero_le _, Nat.zero_le _⟩ hl.1 (Nat.le_of_ble_eq_true rfl) dX2_takeOut_124 ?_
          refine lv_istore (lv' := [(8, .int z23), (0, .ref (ad 0)), (1, .int x1), (2, .int x2), (3, .int x3), (4, .ref (ad 14)), (5, .int x5), (6, .int x6), (7, .int x7)]) hx hb dX2_takeOut_127 hl (by decide) rfl (fun ls hl => ?_)
          refine lv_aload_n hx hb dX2_takeOut_129 rfl (lv_at hl 1 rfl) ?_
          refine p_g0_1 F hw dX2_takeOut_130 ?_
          refine p_g5_1 F hw dX2_takeOut_133 ?_
          refine lv_iload hx hb dX2_takeOut_136 (lv_at hl 8 rfl) ?_
          refine lv_iload hx hb dX2_takeOut_138 (lv_at hl 0 rfl) ?_
          refine lv_iload_n hx hb dX2_takeOut_140 rfl (lv_at hl 3 rfl) ?_
          refine lv_icmp_lt (tgt := 155) hx hb dX2_takeOut_141 rfl (fun c25 => ?_) (fun c25 => ?_)
          · replace h := itT h c25
            refine lv_aload_n hx hb dX2_takeOut_155 rfl (lv_at hl 1 rfl) ?_
            refine p_g0_1 F hw dX2_takeOut_156 ?_
            refine p_g5_1 F hw dX2_takeOut_159 ?_
            refine lv_iload hx hb dX2_takeOut_162 (lv_at hl 8 rfl) ?_
            obtain ⟨g26, h⟩ := gd h
            refine p_l7 F hw g26 dX2_takeOut_164 ?_
            obtain ⟨g27, h⟩ := gd h
            refine p_s7 F hw g27 dX2_takeOut_165 (fun H locs hw => ?_)
            refine lv_iinc (v := (x7 + 1)) (lv' := [(7, .int (x7 + 1)), (8, .int z23), (0, .ref (ad 0)), (1, .int x1), (2, .int x2), (3, .int x3), (4, .ref (ad 14)), (5, .int x5), (6, .int x6)]) hx hb dX2_takeOut_166 hl (k := 8) rfl rfl (by decide) rfl (fun ls hl => ?_)
            refine lv_goto (tgt := 75) hx hb dX2_takeOut_169 rfl ?_
            exact ih _ _ _ _ _ _ _ _ _ _ hw (lv_sub hl [2, 3, 4, 5, 6, 7, 8, 0] rfl) h
          · replace h := itF h c25
            refine lv_iload hx hb dX2_takeOut_144 (lv_at hl 0 rfl) ?_
            refine lv_iload_n hx hb dX2_takeOut_146 rfl (lv_at hl 4 rfl) ?_
            refine lv_icmp_ge (tgt := 155) hx hb dX2_takeOut_147 rfl (fun c28 => ?_) (fun c28 => ?_)
            · replace h := itT h c28
              refine lv_aload_n hx hb dX2_takeOut_155 rfl (lv_at hl 1 rfl) ?_
              refine p_g0_1 F hw dX2_takeOut_156 ?_
              refine p_g5_1 F hw dX2_takeOut_159 ?_
              refine lv_iload hx hb dX2_takeOut_162 (lv_at hl 8 rfl) ?_
              obtain ⟨g29, h⟩ := gd h
              refine p_l7 F hw g29 dX2_takeOut_164 ?_
              obtain ⟨g30, h⟩ := gd h
              refine p_s7 F hw g30 dX2_takeOut_165 (fun H locs hw => ?_)
              refine lv_iinc (v := (x7 + 1)) (lv' := [(7, .int (x7 + 1)), (8, .int z23), (0, .ref (ad 0)), (1, .int x1), (2, .int x2), (3, .int x3), (4, .ref (ad 14)), (5, .int x5), (6, .int x6)]) hx hb dX2_takeOut_166 hl (k := 8) rfl rfl (by decide) rfl (fun ls hl => ?_)
              refine lv_goto (tgt := 75) hx hb dX2_takeOut_169 rfl ?_
              exact ih _ _ _ _ _ _ _ _ _ _ hw (lv_sub hl [2, 3, 4, 5, 6, 7, 8, 0] rfl) h
            · replace h := itF h c28
              refine lv_iload hx hb dX2_takeOut_150 (lv_at hl 7 rfl) ?_
              refine lv_goto (tgt := 165) hx hb dX2_takeOut_152 rfl ?_
              obtain ⟨g31, h⟩ := gd h
              refine p_s7 F hw g31 dX2_takeOut_165 (fun H locs hw => ?_)
              refine lv_iinc (v := (x7 + 1)) (lv' := [(7, .int (x7 + 1)), (8, .int z23), (0, .ref (ad 0)), (1, .int x1), (2, .int x2), (3, .int x3), (4, .ref (ad 14)), (5, .int x5), (6, .int x6)]) hx hb dX2_takeOut_166 hl (k := 8) rfl rfl (by decide) rfl (fun ls hl => ?_)
              refine lv_goto (tgt := 75) hx hb dX2_takeOut_169 rfl ?_
              exact ih _ _ _ _ _ _ _ _ _ _ hw (lv_sub hl [2, 3, 4, 5, 6, 7, 8, 0] rfl) h
set_option maxHeartbeats 4000000 in
set_option maxRecDepth 100000 in
theorem w_X2_takeOut_0 (F : FX p m c cX2_takeOut 9 s args yX2_takeOut (some .int) RX2 meth) {z : Int32 × SP} : ∀ (x1 : Int32) (x2 : Int32) (x3 : Int32) (u : SP) (H : Heap) (locs : List Loc) (ls : Array Slot), WD G A s (sp G ad u) H locs → lv_has ls 9 [(0, .ref (ad 0)), (1, .int x1), (2, .int x2), (3, .int x3), (4, .ref (ad 14))] → f_X2_takeOut x1 x2 x3 u = some z → W p l e rmX2_takeOut s m args below meth c H locs 0 0 (MQ below (QW G (sp G ad z.2) A (some (.int z.1))) args s 0 0 A) (F0 m 0 ls []) := by
  obtain ⟨⟨hx, hb, hml, hown, hts⟩, hr, hlocks⟩ := id F
  intro x1 x2 x3 u H locs ls hw hl h
  unfold f_X2_takeOut at h
  refine lv_iload_n hx hb dX2_takeOut_0 rfl (lv_at hl 3 rfl) ?_
  refine lv_iload_n hx hb dX2_takeOut_1 rfl (lv_at hl 2 rfl) ?_
  refine lv_isub hx hb dX2_takeOut_2 ?_
  refine lv_istore (lv' := [(5, .int (x3 - x2)), (0, .ref (ad 0)), (1, .int x1), (2, .int x2), (3, .int x3), (4, .ref (ad 14))]) hx hb dX2_takeOut_3 hl (by decide) rfl (fun ls hl => ?_)
  refine lv_iload_n hx hb dX2_takeOut_5 rfl (lv_at hl 3 rfl) ?_
  refine lv_aload_n hx hb dX2_takeOut_6 rfl (lv_at hl 1 rfl) ?_
  refine p_g0_0 F hw dX2_takeOut_7 ?_
  refine lv_iload_n hx hb dX2_takeOut_10 rfl (lv_at hl 2 rfl) ?_
  obtain ⟨z1, e2, h⟩ := bnd h
  refine k_X1_first_p_ F hw e2 ⟨Nat.le_of_ble_eq_true rfl, Nat.le_of_ble_eq_true rfl⟩ ⟨Nat.zero_le _, Nat.zero_le _⟩ hl.1 (Nat.le_of_ble_eq_true rfl) dX2_takeOut_11 ?_
  refine lv_icmp_lt (tgt := 42) hx hb dX2_takeOut_14 rfl (fun c3 => ?_) (fun c3 => ?_)
  · replace h := itT h c3
    refine lv_iconst (v := 0) hx hb dX2_takeOut_42 rfl ?_
    cases h
    exact retW_i F hw dX2_takeOut_43
  · replace h := itF h c3
    refine lv_iload hx hb dX2_takeOut_17 (lv_at hl 0 rfl) ?_
    refine lv_if_lt (tgt := 42) hx hb dX2_takeOut_19 rfl (fun c4 => ?_) (fun c4 => ?_)
    · replace h := itT h c4
      refine lv_iconst (v := 0) hx hb dX2_takeOut_42 rfl ?_
      cases h
      exact retW_i F hw dX2_takeOut_43
    · replace h := itF h c4
      refine lv_iload_n hx hb dX2_takeOut_22 rfl (lv_at hl 4 rfl) ?_
      refine lv_aload_n hx hb dX2_takeOut_23 rfl (lv_at hl 1 rfl) ?_
      refine p_g0_0 F hw dX2_takeOut_24 ?_
      refine lv_iload_n hx hb dX2_takeOut_27 rfl (lv_at hl 2 rfl) ?_
      obtain ⟨z5, e6, h⟩ := bnd h
      refine k_X1_end_p_ F hw e6 ⟨Nat.le_of_ble_eq_true rfl, Nat.le_of_ble_eq_true rfl⟩ ⟨Nat.zero_le _, Nat.zero_le _⟩ hl.1 (Nat.le_of_ble_eq_true rfl) dX2_takeOut_28 ?_
      refine lv_icmp_gt (tgt := 42) hx hb dX2_takeOut_31 rfl (fun c7 => ?_) (fun c7 => ?_)
      · replace h := itT h c7
        refine lv_iconst (v := 0) hx hb dX2_takeOut_42 rfl ?_
        cases h
        exact retW_i F hw dX2_takeOut_43
      · replace h := itF h c7
        refine lv_iload hx hb dX2_takeOut_34 (lv_at hl 0 rfl) ?_
        refine lv_aload hx hb dX2_takeOut_36 (lv_at hl 5 rfl) ?_
        refine p_n14 F hw dX2_takeOut_38 ?_
        refine lv_icmp_le (tgt := 44) hx hb dX2_takeOut_39 rfl (fun c8 => ?_) (fun c8 => ?_)
        · replace h := itT h c8
          refine lv_iload_n hx hb dX2_takeOut_44 rfl (lv_at hl 3 rfl) ?_
          refine lv_aload_n hx hb dX2_takeOut_45 rfl (lv_at hl 1 rfl) ?_
          refine p_g0_0 F hw dX2_takeOut_46 ?_
          refine lv_iload_n hx hb dX2_takeOut_49 rfl (lv_at hl 2 rfl) ?_
          obtain ⟨z9, e10, h⟩ := bnd h
          refine k_X1_first_p_ F hw e10 ⟨Nat.le_of_ble_eq_true rfl, Nat.le_of_ble_eq_true rfl⟩ ⟨Nat.zero_le _, Nat.zero_le _⟩ hl.1 (Nat.le_of_ble_eq_true rfl) dX2_takeOut_50 ?_
          refine lv_icmp_le (tgt := 69) hx hb dX2_takeOut_53 rfl (fun c11 => ?_) (fun c11 => ?_)
          · replace h := itT h c11
            refine lv_iconst (v := (-1)) hx hb dX2_takeOut_69 rfl ?_
            refine lv_istore (lv' := [(6, .int (-1)), (5, .int (x3 - x2)), (0, .ref (ad 0)), (1, .int x1), (2, .int x2), (3, .int x3), (4, .ref (ad 14))]) hx hb dX2_takeOut_70 hl (by decide) rfl (fun ls hl => ?_)
            refine lv_iconst (v := 0) hx hb dX2_takeOut_72 rfl ?_
            refine lv_istore (lv' := [(7, .int 0), (6, .int (-1)), (5, .int (x3 - x2)), (0, .ref (ad 0)), (1, .int x1), (2, .int x2), (3, .int x3), (4, .ref (ad 14))]) hx hb dX2_takeOut_73 hl (by decide) rfl (fun ls hl => ?_)
            exact w_X2_takeOut_75 F NF _ _ _ _ _ _ _ _ _ _ hw (lv_sub hl [3, 4, 5, 6, 7, 2, 1, 0] rfl) h
          · replace h := itF h c11
            refine lv_aload_n hx hb dX2_takeOut_56 rfl (lv_at hl 1 rfl) ?_
            refine p_g0_0 F hw dX2_takeOut_57 ?_
            refine lv_iload_n hx hb dX2_takeOut_60 rfl (lv_at hl 3 rfl) ?_
            refine lv_iconst (v := 1) hx hb dX2_takeOut_61 rfl ?_
            refine lv_isub hx hb dX2_takeOut_62 ?_
            obtain ⟨z12, e13, h⟩ := bnd h
            refine k_X1_standAt_p_ F hw e13 ⟨Nat.le_of_ble_eq_true rfl, Nat.le_of_ble_eq_true rfl⟩ ⟨Nat.zero_le _, Nat.zero_le _⟩ hl.1 (Nat.le_of_ble_eq_true rfl) dX2_takeOut_63 ?_
            refine lv_goto (tgt := 70) hx hb dX2_takeOut_66 rfl ?_
            refine lv_istore (lv' := [(6, .int z12), (5, .int (x3 - x2)), (0, .ref (ad 0)), (1, .int x1), (2, .int x2), (3, .int x3), (4, .ref (ad 14))]) hx hb dX2_takeOut_70 hl (by decide) rfl (fun ls hl => ?_)
            refine lv_iconst (v := 0) hx hb dX2_takeOut_72 rfl ?_
            refine lv_istore (lv' := [(7, .int 0), (6, .int z12), (5, .int (x3 - x2)), (0, .ref (ad 0)), (1, .int x1), (2, .int x2), (3, .int x3), (4, .ref (ad 14))]) hx hb dX2_takeOut_73 hl (by decide) rfl (fun ls hl => ?_)
            exact w_X2_takeOut_75 F NF _ _ _ _ _ _ _ _ _ _ hw (lv_sub hl [3, 4, 5, 6, 7, 2, 1, 0] rfl) h
        · replace h := itF h c8
          refine lv_iconst (v := 0) hx hb dX2_takeOut_42 rfl ?_
          cases h
          exact retW_i F hw dX2_takeOut_43
end
theorem c_X2_takeOut {l : Launch} {G : GX} {ad : Nat → Nat} {x1 : Int32} {x2 : Int32} {x3 : Int32} {u : SP} {z : Int32 × SP} (h : f_X2_takeOut x1 x2 x3 u = some z) : MW l yX2_takeOut cX2_takeOut 9 (some .int) rmX2_takeOut G (sp G ad u) (sp G ad z.2) [.ref (ad 0), .int x1, .int x2, .int x3, .ref (ad 14)] (some (.int z.1)) := MW.of (by decide) (Nat.le_of_ble_eq_true rfl) (fun p e s m below meth c ls F hw hl => w_X2_takeOut_0 F _ _ _ _ _ _ _ hw hl h)
/-! ===== X2_dealLabels ===== -/
theorem dX2_dealLabels_0 : decode cX2_dealLabels 0 = .ok (.iconst (-1), 1) := by decide +kernel
theorem dX2_dealLabels_1 : decode cX2_dealLabels 1 = .ok (.istore 8, 2) := by decide +kernel
theorem dX2_dealLabels_3 : decode cX2_dealLabels 3 = .ok (.ldc2_w 198, 3) := by decide +kernel
theorem dX2_dealLabels_6 : decode cX2_dealLabels 6 = .ok (.lstore 9, 2) := by decide +kernel
theorem dX2_dealLabels_8 : decode cX2_dealLabels 8 = .ok (.iload_n 2, 1) := by decide +kernel
theorem dX2_dealLabels_9 : decode cX2_dealLabels 9 = .ok (.istore 11, 2) := by decide +kernel
theorem dX2_dealLabels_11 : decode cX2_dealLabels 11 = .ok (.iload 11, 2) := by decide +kernel
theorem dX2_dealLabels_13 : decode cX2_dealLabels 13 = .ok (.iload_n 3, 1) := by decide +kernel
theorem dX2_dealLabels_14 : decode cX2_dealLabels 14 = .ok (.if_icmp .ge 72, 3) := by decide +kernel
theorem dX2_dealLabels_17 : decode cX2_dealLabels 17 = .ok (.aload_n 0, 1) := by decide +kernel
theorem dX2_dealLabels_18 : decode cX2_dealLabels 18 = .ok (.iload 11, 2) := by decide +kernel
theorem dX2_dealLabels_20 : decode cX2_dealLabels 20 = .ok (.invokevirtual 87, 3) := by decide +kernel
theorem dX2_dealLabels_23 : decode cX2_dealLabels 23 = .ok (.lload 9, 2) := by decide +kernel
theorem dX2_dealLabels_25 : decode cX2_dealLabels 25 = .ok (.lcmp, 1) := by decide +kernel
theorem dX2_dealLabels_26 : decode cX2_dealLabels 26 = .ok (.ifCond .eq 37, 3) := by decide +kernel
theorem dX2_dealLabels_29 : decode cX2_dealLabels 29 = .ok (.aload_n 0, 1) := by decide +kernel
theorem dX2_dealLabels_30 : decode cX2_dealLabels 30 = .ok (.iload 11, 2) := by decide +kernel
theorem dX2_dealLabels_32 : decode cX2_dealLabels 32 = .ok (.invokevirtual 87, 3) := by decide +kernel
theorem dX2_dealLabels_35 : decode cX2_dealLabels 35 = .ok (.lstore 9, 2) := by decide +kernel
theorem dX2_dealLabels_37 : decode cX2_dealLabels 37 = .ok (.iinc 8 1, 3) := by decide +kernel
theorem dX2_dealLabels_40 : decode cX2_dealLabels 40 = .ok (.aload_n 0, 1) := by decide +kernel
theorem dX2_dealLabels_41 : decode cX2_dealLabels 41 = .ok (.dup, 1) := by decide +kernel
theorem dX2_dealLabels_42 : decode cX2_dealLabels 42 = .ok (.getfield 42, 3) := by decide +kernel
theorem dX2_dealLabels_45 : decode cX2_dealLabels 45 = .ok (.lload 9, 2) := by decide +kernel
theorem dX2_dealLabels_47 : decode cX2_dealLabels 47 = .ok (.ldc2_w 79, 3) := by decide +kernel
theorem dX2_dealLabels_50 : decode cX2_dealLabels 50 = .ok (.lcmp, 1) := by decide +kernel
theorem dX2_dealLabels_51 : decode cX2_dealLabels 51 = .ok (.ifCond .eq 7, 3) := by decide +kernel
theorem dX2_dealLabels_54 : decode cX2_dealLabels 54 = .ok (.iconst 1, 1) := by decide +kernel
theorem dX2_dealLabels_55 : decode cX2_dealLabels 55 = .ok (.goto 4, 3) := by decide +kernel
theorem dX2_dealLabels_58 : decode cX2_dealLabels 58 = .ok (.iconst 0, 1) := by decide +kernel
theorem dX2_dealLabels_59 : decode cX2_dealLabels 59 = .ok (.iadd, 1) := by decide +kernel
theorem dX2_dealLabels_60 : decode cX2_dealLabels 60 = .ok (.putfield 42, 3) := by decide +kernel
theorem dX2_dealLabels_63 : decode cX2_dealLabels 63 = .ok (.aload_n 0, 1) := by decide +kernel
theorem dX2_dealLabels_64 : decode cX2_dealLabels 64 = .ok (.iload 11, 2) := by decide +kernel
theorem dX2_dealLabels_66 : decode cX2_dealLabels 66 = .ok (.lload 4, 2) := by decide +kernel
theorem dX2_dealLabels_68 : decode cX2_dealLabels 68 = .ok (.iload 6, 2) := by decide +kernel
theorem dX2_dealLabels_70 : decode cX2_dealLabels 70 = .ok (.iload 7, 2) := by decide +kernel
theorem dX2_dealLabels_72 : decode cX2_dealLabels 72 = .ok (.iload 8, 2) := by decide +kernel
theorem dX2_dealLabels_74 : decode cX2_dealLabels 74 = .ok (.invokestatic 180, 3) := by decide +kernel
theorem dX2_dealLabels_77 : decode cX2_dealLabels 77 = .ok (.invokevirtual 176, 3) := by decide +kernel
theorem dX2_dealLabels_80 : decode cX2_dealLabels 80 = .ok (.iinc 11 1, 3) := by decide +kernel
theorem dX2_dealLabels_83 : decode cX2_dealLabels 83 = .ok (.goto (-72), 3) := by decide +kernel
theorem dX2_dealLabels_86 : decode cX2_dealLabels 86 = .ok (.aload_n 0, 1) := by decide +kernel
theorem dX2_dealLabels_87 : decode cX2_dealLabels 87 = .ok (.getfield 32, 3) := by decide +kernel
theorem dX2_dealLabels_90 : decode cX2_dealLabels 90 = .ok (.iload_n 1, 1) := by decide +kernel
theorem dX2_dealLabels_91 : decode cX2_dealLabels 91 = .ok (.aload_n 0, 1) := by decide +kernel
theorem dX2_dealLabels_92 : decode cX2_dealLabels 92 = .ok (.getfield 32, 3) := by decide +kernel
theorem dX2_dealLabels_95 : decode cX2_dealLabels 95 = .ok (.iload_n 1, 1) := by decide +kernel
theorem dX2_dealLabels_96 : decode cX2_dealLabels 96 = .ok (.iaload, 1) := by decide +kernel
theorem dX2_dealLabels_97 : decode cX2_dealLabels 97 = .ok (.iload 7, 2) := by decide +kernel
theorem dX2_dealLabels_99 : decode cX2_dealLabels 99 = .ok (.invokestatic 184, 3) := by decide +kernel
theorem dX2_dealLabels_102 : decode cX2_dealLabels 102 = .ok (.iastore, 1) := by decide +kernel
theorem dX2_dealLabels_103 : decode cX2_dealLabels 103 = .ok (.return_, 1) := by decide +kernel
theorem s_g0_4 {p : Program} {l : Launch} {e : Env} {R : Room} {s : State} {m : MethodId} {args : Array Value} {below : List Frame} {meth : Method} {c : Code} {H : Heap} {locs : List Loc} {cells slots : Nat} {Q : State → Prop} {G : GX} {A : Nat → Prop} {ad : Nat → Nat} {u : SS} {cc : ByteArray} {nL pc : Nat} {y : MethodName} {ret : Option FieldType} {ls : Array Slot} {rest : List Value} (F : FX p m c cc nL s args y ret RX2 meth) (hw : WD G A s (sw G ad u) H locs) (hdg : decode cc pc = .ok (.getfield 32, 3)) (kk : W p l e R s m args below meth c H locs cells slots Q (F0 m (pc + 3) ls (.ref (ad 11) :: rest))) : W p l e R s m args below meth c H locs cells slots Q (F0 m pc ls (.ref (ad 0) :: rest)) := va_get (D := G.1) (ci := 2) (C := RX2) (T := TX2) (N := 8) (Ts := lw_gt) F.1.1 F.1.2.1 (fun _ h => F.tb h) inX2 F.1.2.2.2.1 hw.1.1 hw.2.1 0 rfl rfl 4 (by decide) (F.tb (tw 75 (by decide +kernel) rfl)) (fun _ h9 => h9) rfl hdg kk
theorem s_l11 {i : Int32} {p : Program} {l : Launch} {e : Env} {R : Room} {s : State} {m : MethodId} {args : Array Value} {below : List Frame} {meth : Method} {c : Code} {H : Heap} {locs : List Loc} {cells slots : Nat} {Q : State → Prop} {G : GX} {A : Nat → Prop} {ad : Nat → Nat} {u : SS} {cc : ByteArray} {nL pc : Nat} {y : MethodName} {ret : Option FieldType} {ls : Array Slot} {rest : List Value} (F : FX p m c cc nL s args y ret RX2 meth) (hw : WD G A s (sw G ad u) H locs) (hi : ix i 8 = true) (hdg : decode cc pc = .ok (.iaload, 1)) (kk : W p l e R s m args below meth c H locs cells slots Q (F0 m (pc + 1) ls (.int ((u.2.2.1 4) i.toNatClampNeg) :: rest))) : W p l e R s m args below meth c H locs cells slots Q (F0 m pc ls (.int i :: .ref (ad 11) :: rest)) := va_iald F.1.1 F.1.2.1 hw.1.1 hw.2.1 11 0 rfl rfl (ix_in hi) hdg kk
theorem s_s11 {i : Int32} {x : Int32} {p : Program} {l : Launch} {e : Env} {R : Room} {s : State} {m : MethodId} {args : Array Value} {below : List Frame} {meth : Method} {c : Code} {H : Heap} {locs : List Loc} {cells slots : Nat} {Q : State → Prop} {G : GX} {A : Nat → Prop} {ad : Nat → Nat} {u : SS} {cc : ByteArray} {nL pc : Nat} {y : MethodName} {ret : Option FieldType} {ls : Array Slot} {rest : List Value} (F : FX p m c cc nL s args y ret RX2 meth) (hw : WD G A s (sw G ad u) H locs) (hi : ix i 8 = true) (hdg : decode cc pc = .ok (.iastore, 1)) (kk : ∀ (H : Heap) (locs : List Loc), WD G A s (sw G ad (sA u 4 i.toNatClampNeg x)) H locs → W p l e R s m args below meth c H locs cells slots Q (F0 m (pc + 1) ls (rest))) : W p l e R s m args below meth c H locs cells slots Q (F0 m pc ls (.int x :: .int i :: .ref (ad 11) :: rest)) := va_iast F.1.1 F.1.2.1 hw.1.1 hw.2.1 hw.2.2.1 hw.2.2.2 11 0 rfl rfl (ix_in hi) hdg (fun H1 l1 hP hD hS => kk H1 l1 ⟨hw.1, hP, hD, hS⟩)
theorem yv_X3_dealt_X2 : YN RX2 180 yX3_dealt RX3 cX3_dealt 5 (some .long) 4 := ⟨(tw 271 (by decide +kernel) rfl), (tw 1 (by decide +kernel) rfl), fun _ h => h.2.1, (tw 270 (by decide +kernel) rfl), by decide +kernel⟩
theorem k_X3_dealt_s_ {p : Program} {l : Launch} {e : Env} {R : Room} {s : State} {m : MethodId} {args : Array Value} {below : List Frame} {meth : Method} {c : Code} {H : Heap} {locs : List Loc} {cells slots : Nat} {Q : State → Prop} {G : GX} {A : Nat → Prop} {ad : Nat → Nat} {u : SS} {cc : ByteArray} {nL pc : Nat} {y : MethodName} {ret : Option FieldType} {ls : Array Slot} {rest : List Value} {x0 : Int64} {x2 : Int32} {x3 : Int32} {x4 : Int32} {z : Int64} (F : FX p m c cc nL s args y ret RX2 meth) (hw : WD G A s (sw G ad u) H locs) (h : f_X3_dealt x0 x2 x3 x4 = some z) (hR : rmX3_dealt.frames + 1 ≤ R.frames ∧ 8 + (5 + 11) + rmX3_dealt.locals ≤ R.locals) (hcs : cells ≤ R.cells ∧ slots ≤ R.slots) (hsz : ls.size = nL) (hW : (rest.map fun v => v.category).sum ≤ 8) (hdg : decode cc pc = .ok (.invokestatic 180, 3)) (kk : W p l e R s m args below meth c H locs cells slots Q (F0 m (pc + 3) ls (.long z :: rest))) : W p l e R s m args below meth c H locs cells slots Q (F0 m pc ls (.int x4 :: .int x3 :: .int x2 :: .long x0 :: rest)) := callO (runN F yv_X3_dealt_X2 (c_X3_dealt h (G := G)) hw.1 nil_P (A := A) nil_D ⟨rfl, rfl⟩ hR hcs rfl hsz rfl hW hdg) kk
theorem yv_X2_setLabel_X2 : YV RX2 176 yX2_setLabel cX2_setLabel 4 none 2 := ⟨(tw 259 (by decide +kernel) rfl), (tw 2 (by decide +kernel) rfl), (tw 256 (by decide +kernel) rfl), (tw 257 (by decide +kernel) rfl), (tw 258 (by decide +kernel) rfl), by decide +kernel⟩
theorem k_X2_setLabel_s_ {p : Program} {l : Launch} {e : Env} {R : Room} {s : State} {m : MethodId} {args : Array Value} {below : List Frame} {meth : Method} {c : Code} {H : Heap} {locs : List Loc} {cells slots : Nat} {Q : State → Prop} {G : GX} {A : Nat → Prop} {ad : Nat → Nat} {u : SS} {cc : ByteArray} {nL pc : Nat} {y : MethodName} {ret : Option FieldType} {ls : Array Slot} {rest : List Value} {x1 : Int32} {x2 : Int64} {z : SS} (F : FX p m c cc nL s args y ret RX2 meth) (hw : WD G A s (sw G ad u) H locs) (h : f_X2_setLabel x1 x2 u = some z) (hR : rmX2_setLabel.frames + 1 ≤ R.frames ∧ 8 + (4 + 11) + rmX2_setLabel.locals ≤ R.locals) (hcs : cells ≤ R.cells ∧ slots ≤ R.slots) (hsz : ls.size = nL) (hW : (rest.map fun v => v.category).sum ≤ 8) (hdg : decode cc pc = .ok (.invokevirtual 176, 3)) (kk : ∀ (H : Heap) (locs : List Loc), WD G A s (sw G ad z) H locs → W p l e R s m args below meth c H locs cells slots Q (F0 m (pc + 3) ls (rest))) : W p l e R s m args below meth c H locs cells slots Q (F0 m pc ls (.long x2 :: .int x1 :: .ref (ad 0) :: rest)) := callW (runV F yv_X2_setLabel_X2 (c_X2_setLabel h) hw.1 hw.2.1 hw.2.2.1 rfl rfl rfl ⟨rfl, rfl⟩ hR hcs rfl hsz rfl hW hdg) hw.2.2.2 hw.2.2.1.own_in (fun H1 l1 hP _ hS => kk H1 l1 ⟨hw.1, hP, hw.2.2.1.addr rfl, hS⟩)
theorem s_g0_7 {p : Program} {l : Launch} {e : Env} {R : Room} {s : State} {m : MethodId} {args : Array Value} {below : List Frame} {meth : Method} {c : Code} {H : Heap} {locs : List Loc} {cells slots : Nat} {Q : State → Prop} {G : GX} {A : Nat → Prop} {ad : Nat → Nat} {u : SS} {cc : ByteArray} {nL pc : Nat} {y : MethodName} {ret : Option FieldType} {ls : Array Slot} {rest : List Value} (F : FX p m c cc nL s args y ret RX2 meth) (hw : WD G A s (sw G ad u) H locs) (hdg : decode cc pc = .ok (.getfield 42, 3)) (kk : W p l e R s m args below meth c H locs cells slots Q (F0 m (pc + 3) ls (.int u.2.2.2.2 :: rest))) : W p l e R s m args below meth c H locs cells slots Q (F0 m pc ls (.ref (ad 0) :: rest)) := va_get (D := G.1) (ci := 2) (C := RX2) (T := TX2) (N := 8) (Ts := lw_gt) F.1.1 F.1.2.1 (fun _ h => F.tb h) inX2 F.1.2.2.2.1 hw.1.1 hw.2.1 0 rfl rfl 7 (by decide) (F.tb (tw 81 (by decide +kernel) rfl)) (fun _ h9 => h9) rfl hdg kk
theorem s_p0_7 {x : Int32} {p : Program} {l : Launch} {e : Env} {R : Room} {s : State} {m : MethodId} {args : Array Value} {below : List Frame} {meth : Method} {c : Code} {H : Heap} {locs : List Loc} {cells slots : Nat} {Q : State → Prop} {G : GX} {A : Nat → Prop} {ad : Nat → Nat} {u : SS} {cc : ByteArray} {nL pc : Nat} {y : MethodName} {ret : Option FieldType} {ls : Array Slot} {rest : List Value} (F : FX p m c cc nL s args y ret RX2 meth) (hw : WD G A s (sw G ad u) H locs) (hdg : decode cc pc = .ok (.putfield 42, 3)) (kk : ∀ (H : Heap) (locs : List Loc), WD G A s (sw G ad (sR u x)) H locs → W p l e R s m args below meth c H locs cells slots Q (F0 m (pc + 3) ls (rest))) : W p l e R s m args below meth c H locs cells slots Q (F0 m pc ls (.int x :: .ref (ad 0) :: rest)) := va_put (D := G.1) (ci := 2) (ty := .int) (C := RX2) (T := TX2) (N := 8) (Ts := lw_gt) F.1.1 F.1.2.1 (fun _ h => F.tb h) inX2 tyX2 tyX2_ok nmX2 F.1.2.2.2.1 hw.1.1 hw.2.1 hw.2.2.1 hw.2.2.2 0 rfl rfl 7 (by decide) (F.tb (tw 81 (by decide +kernel) rfl)) (fun _ h9 => h9) rfl (by decide +kernel) rfl rfl (Nat.le_of_ble_eq_true rfl) hdg (fun H1 l1 hP hD hS => kk H1 l1 ⟨hw.1, hP, hD, hS⟩)
def rmX2_dealLabels : Room := { frames := 1, cells := 0, slots := 0, locals := 24 }
noncomputable def f_X2_dealLabels_11 : Nat → Int32 → Int32 → Int64 → Int32 → Int32 → Int32 → Int64 → Int32 → SS → Option (SS)
  | 0, _, _, _, _, _, _, _, _, _ => none
  | n + 1, x1, x3, x4, x6, x7, x8, x9, x11, u => (if x3 ≤ x11 then (if ix x1 8 = true then (if ix x1 8 = true then some (sA u 4 (Int32.toNatClampNeg x1) (if ((u.2.2.1 4) (Int32.toNatClampNeg x1)) < x7 then x7 else ((u.2.2.1 4) (Int32.toNatClampNeg x1)))) else none) else none) else (f_X2_labelAt x11 u).bind (fun z4 => (if (lg_cmp z4 x9) = 0 then (f_X3_dealt x4 x6 x7 x8).bind (fun z7 => (f_X2_setLabel x11 z7 u).bind (fun z9 => f_X2_dealLabels_11 n x1 x3 x4 x6 x7 x8 x9 (x11 + 1) z9)) else (f_X2_labelAt x11 u).bind (fun z11 => (if (lg_cmp z11 (-1)) = 0 then (f_X3_dealt x4 x6 x7 (x8 + 1)).bind (fun z14 => (f_X2_setLabel x11 z14 (sR u (u.2.2.2.2 + 0))).bind (fun z16 => f_X2_dealLabels_11 n x1 x3 x4 x6 x7 (x8 + 1) z11 (x11 + 1) z16)) else (f_X3_dealt x4 x6 x7 (x8 + 1)).bind (fun z18 => (f_X2_setLabel x11 z18 (sR u (u.2.2.2.2 + 1))).bind (fun z20 => f_X2_dealLabels_11 n x1 x3 x4 x6 x7 (x8 + 1) z11 (x11 + 1) z20)))))))
noncomputable def f_X2_dealLabels (x1 : Int32) (x2 : Int32) (x3 : Int32) (x4 : Int64) (x6 : Int32) (x7 : Int32) (u : SS) : Option (SS) := f_X2_dealLabels_11 NF x1 x3 x4 x6 x7 (-1) (-2) x2 u
section
variable {p : Program} {l : Launch} {e : Env} {s : State} {m : MethodId} {args : Array Value} {below : List Frame} {meth : Method} {c : Code}
variable {G : GX} {A : Nat → Prop} {ad : Nat → Nat} 
set_option maxHeartbeats 4000000 in
set_option maxRecDepth 100000 in
theorem w_X2_dealLabels_11 (F : FX p m c cX2_dealLabels 12 s args yX2_dealLabels none RX2 meth) {z : SS} : ∀ (n : Nat) (x1 : Int32) (x3 : Int32) (x4 : Int64) (x6 : Int32) (x7 : Int32) (x8 : Int32) (x9 : Int64) (x11 : Int32) (u : SS) (H : Heap) (locs : List Loc) (ls : Array Slot), WD G A s (sw G ad u) H locs → lv_has ls 12 [(0, .ref (ad 0)), (1, .int x1), (3, .int x3), (4, .long x4), (6, .int x6), (7, .int x7), (8, .int x8), (9, .long x9), (11, .int x11)] → f_X2_dealLabels_11 n x1 x3 x4 x6 x7 x8 x9 x11 u = some z → W p l e rmX2_dealLabels s m args below meth c H locs 0 0 (MQ below (QW G (sw G ad z) A none) args s 0 0 A) (F0 m 11 ls []) := by
  obtain ⟨⟨hx, hb, hml, hown, hts⟩, hr, hlocks⟩ := id F
  intro n
  induction n with
  | zero =>
    intro x1 x3 x4 x6 x7 x8 x9 x11 u H locs ls hw hl h
    rw [f_X2_dealLabels_11] at h
    cases h
  | succ n ih =>
    intro x1 x3 x4 x6 x7 x8 x9 x11 u H locs ls hw hl h
    rw [f_X2_dealLabels_11] at h
    refine lv_iload hx hb dX2_dealLabels_11 (lv_at hl 8 rfl) ?_
    refine lv_iload_n hx hb dX2_dealLabels_13 rfl (lv_at hl 2 rfl) ?_
    refine lv_icmp_ge (tgt := 86) hx hb dX2_dealLabels_14 rfl (fun c1 => ?_) (fun c1 => ?_)
    · replace h := itT h c1
      refine lv_aload_n hx hb dX2_dealLabels_86 rfl (lv_at hl 0 rfl) ?_
      refine s_g0_4 F hw dX2_dealLabels_87 ?_
      refine lv_iload_n hx hb dX2_dealLabels_90 rfl (lv_at hl 1 rfl) ?_
      refine lv_aload_n hx hb dX2_dealLabels_91 rfl (lv_at hl 0 rfl) ?_
      refine s_g0_4 F hw dX2_dealLabels_92 ?_
      refine lv_iload_n hx hb dX2_dealLabels_95 rfl (lv_at hl 1 rfl) ?_
      obtain ⟨g2, h⟩ := gd h
      refine s_l11 F hw g2 dX2_dealLabels_96 ?_
      refine lv_iload hx hb dX2_dealLabels_97 (lv_at hl 5 rfl) ?_
      refine va_mmax hx hb (hml.trans hl.1.symm) hown (F.tb (tw 273 (by decide +kernel) rfl)) (F.tb (tw 274 (by decide +kernel) rfl)) (F.tb (tw 8 (by decide +kernel) rfl)) (F.tb (tw 275 (by decide +kernel) rfl)) (Nat.le_of_ble_eq_true rfl) (Nat.le_of_ble_eq_true rfl) (Nat.zero_le _) (Nat.zero_le _) dX2_dealLabels_99 ?_
      obtain ⟨g3, h⟩ := gd h
      refine s_s11 F hw g3 dX2_dealLabels_102 (fun H locs hw => ?_)
      cases h
      exact retW_v F hw dX2_dealLabels_103
    · replace h := itF h c1
      refine lv_aload_n hx hb dX2_dealLabels_17 rfl (lv_at hl 0 rfl) ?_
      refine lv_iload hx hb dX2_dealLabels_18 (lv_at hl 8 rfl) ?_
      obtain ⟨z4, e5, h⟩ := bnd h
      refine k_X2_labelAt_s_ F hw e5 ⟨Nat.le_of_ble_eq_true rfl, Nat.le_of_ble_eq_true rfl⟩ ⟨Nat.zero_le _, Nat.zero_le _⟩ hl.1 (Nat.le_of_ble_eq_true rfl) dX2_dealLabels_20 ?_
      refine lv_lload hx hb dX2_dealLabels_23 (lv_at hl 7 rfl) ?_
      refine W.lcmp hx hb dX2_dealLabels_25 ?_
      refine lv_if_eq (tgt := 63) hx hb dX2_dealLabels_26 rfl (fun c6 => ?_) (fun c6 => ?_)
      · replace h := itT h c6
        refine lv_aload_n hx hb dX2_dealLabels_63 rfl (lv_at hl 0 rfl) ?_
        refine lv_iload hx hb dX2_dealLabels_64 (lv_at hl 8 rfl) ?_
        refine lv_lload hx hb dX2_dealLabels_66 (lv_at hl 3 rfl) ?_
        refine lv_iload hx hb dX2_dealLabels_68 (lv_at hl 4 rfl) ?_
        refine lv_iload hx hb dX2_dealLabels_70 (lv_at hl 5 rfl) ?_
        refine lv_iload hx hb dX2_dealLabels_72 (lv_at hl 6 rfl) ?_
        obtain ⟨z7, e8, h⟩ := bnd h
        refine k_X3_dealt_s_ F hw e8 ⟨Nat.le_of_ble_eq_true rfl, Nat.le_of_ble_eq_true rfl⟩ ⟨Nat.zero_le _, Nat.zero_le _⟩ hl.1 (Nat.le_of_ble_eq_true rfl) dX2_dealLabels_74 ?_
        obtain ⟨z9, e10, h⟩ := bnd h
        refine k_X2_setLabel_s_ F hw e10 ⟨Nat.le_of_ble_eq_true rfl, Nat.le_of_ble_eq_true rfl⟩ ⟨Nat.zero_le _, Nat.zero_le _⟩ hl.1 (Nat.le_of_ble_eq_true rfl) dX2_dealLabels_77 (fun H locs hw => ?_)
        refine lv_iinc (v := (x11 + 1)) (lv' := [(11, .int (x11 + 1)), (0, .ref (ad 0)), (1, .int x1), (3, .int x3), (4, .long x4), (6, .int x6), (7, .int x7), (8, .int x8), (9, .long x9)]) hx hb dX2_dealLabels_80 hl (k := 8) rfl rfl (by decide) rfl (fun ls hl => ?_)
        refine lv_goto (tgt := 11) hx hb dX2_dealLabels_83 rfl ?_
        exact ih _ _ _ _ _ _ _ _ _ _ _ _ hw (lv_sub hl [1, 2, 3, 4, 5, 6, 7, 8, 0] rfl) h
      · replace h := itF h c6
        refine lv_aload_n hx hb dX2_dealLabels_29 rfl (lv_at hl 0 rfl) ?_
        refine lv_iload hx hb dX2_dealLabels_30 (lv_at hl 8 rfl) ?_
        obtain ⟨z11, e12, h⟩ := bnd h
        refine k_X2_labelAt_s_ F hw e12 ⟨Nat.le_of_ble_eq_true rfl, Nat.le_of_ble_eq_true rfl⟩ ⟨Nat.zero_le _, Nat.zero_le _⟩ hl.1 (Nat.le_of_ble_eq_true rfl) dX2_dealLabels_32 ?_
        refine lv_lstore (lv' := [(9, .long z11), (0, .ref (ad 0)), (1, .int x1), (3, .int x3), (4, .long x4), (6, .int x6), (7, .int x7), (8, .int x8), (11, .int x11)]) hx hb dX2_dealLabels_35 hl (by decide) rfl (fun ls hl => ?_)
        refine lv_iinc (v := (x8 + 1)) (lv' := [(8, .int (x8 + 1)), (9, .long z11), (0, .ref (ad 0)), (1, .int x1), (3, .int x3), (4, .long x4), (6, .int x6), (7, .int x7), (11, .int x11)]) hx hb dX2_dealLabels_37 hl (k := 7) rfl rfl (by decide) rfl (fun ls hl => ?_)
        refine lv_aload_n hx hb dX2_dealLabels_40 rfl (lv_at hl 2 rfl) ?_
        refine lv_dup hx hb dX2_dealLabels_41 rfl ?_
        refine s_g0_7 F hw dX2_dealLabels_42 ?_
        refine lv_lload hx hb dX2_dealLabels_45 (lv_at hl 1 rfl) ?_
        refine lv_ldc2 (own := RX2) (v := (-1)) hx hb hown (F.tb (tw 236 (by decide +kernel) rfl)) dX2_dealLabels_47 ?_
        refine W.lcmp hx hb dX2_dealLabels_50 ?_
        refine lv_if_eq (tgt := 58) hx hb dX2_dealLabels_51 rfl (fun c13 => ?_) (fun c13 => ?_)
        · replace h := itT h c13
          refine lv_iconst (v := 0) hx hb dX2_dealLabels_58 rfl ?_
          refine lv_iadd hx hb dX2_dealLabels_59 ?_
          refine s_p0_7 F hw dX2_dealLabels_60 (fun H locs hw => ?_)
          refine lv_aload_n hx hb dX2_dealLabels_63 rfl (lv_at hl 2 rfl) ?_
          refine lv_iload hx hb dX2_dealLabels_64 (lv_at hl 8 rfl) ?_
          refine lv_lload hx hb dX2_dealLabels_66 (lv_at hl 5 rfl) ?_
          refine lv_iload hx hb dX2_dealLabels_68 (lv_at hl 6 rfl) ?_
          refine lv_iload hx hb dX2_dealLabels_70 (lv_at hl 7 rfl) ?_
          refine lv_iload hx hb dX2_dealLabels_72 (lv_at hl 0 rfl) ?_
          obtain ⟨z14, e15, h⟩ := bnd h
          refine k_X3_dealt_s_ F hw e15 ⟨Nat.le_of_ble_eq_true rfl, Nat.le_of_ble_eq_true rfl⟩ ⟨Nat.zero_le _, Nat.zero_le _⟩ hl.1 (Nat.le_of_ble_eq_true rfl) dX2_dealLabels_74 ?_
          obtain ⟨z16, e17, h⟩ := bnd h
          refine k_X2_setLabel_s_ F hw e17 ⟨Nat.le_of_ble_eq_true rfl, Nat.le_of_ble_eq_true rfl⟩ ⟨Nat.zero_le _, Nat.zero_le _⟩ hl.1 (Nat.le_of_ble_eq_true rfl) dX2_dealLabels_77 (fun H locs hw => ?_)
          refine lv_iinc (v := (x11 + 1)) (lv' := [(11, .int (x11 + 1)), (8, .int (x8 + 1)), (9, .long z11), (0, .ref (ad 0)), (1, .int x1), (3, .int x3), (4, .long x4), (6, .int x6), (7, .int x7)]) hx hb dX2_dealLabels_80 hl (k := 8) rfl rfl (by decide) rfl (fun ls hl => ?_)
          refine lv_goto (tgt := 11) hx hb dX2_dealLabels_83 rfl ?_
          exact ih _ _ _ _ _ _ _ _ _ _ _ _ hw (lv_sub hl [3, 4, 5, 6, 7, 8, 1, 2, 0] rfl) h
        · replace h := itF h c13
          refine lv_iconst (v := 1) hx hb dX2_dealLabels_54 rfl ?_
          refine lv_goto (tgt := 59) hx hb dX2_dealLabels_55 rfl ?_
          refine lv_iadd hx hb dX2_dealLabels_59 ?_
          refine s_p0_7 F hw dX2_dealLabels_60 (fun H locs hw => ?_)
          refine lv_aload_n hx hb dX2_dealLabels_63 rfl (lv_at hl 2 rfl) ?_
          refine lv_iload hx hb dX2_dealLabels_64 (lv_at hl 8 rfl) ?_
          refine lv_lload hx hb dX2_dealLabels_66 (lv_at hl 5 rfl) ?_
          refine lv_iload hx hb dX2_dealLabels_68 (lv_at hl 6 rfl) ?_
          refine lv_iload hx hb dX2_dealLabels_70 (lv_at hl 7 rfl) ?_
          refine lv_iload hx hb dX2_dealLabels_72 (lv_at hl 0 rfl) ?_
          obtain ⟨z18, e19, h⟩ := bnd h
          refine k_X3_dealt_s_ F hw e19 ⟨Nat.le_of_ble_eq_true rfl, Nat.le_of_ble_eq_true rfl⟩ ⟨Nat.zero_le _, Nat.zero_le _⟩ hl.1 (Nat.le_of_ble_eq_true rfl) dX2_dealLabels_74 ?_
          obtain ⟨z20, e21, h⟩ := bnd h
          refine k_X2_setLabel_s_ F hw e21 ⟨Nat.le_of_ble_eq_true rfl, Nat.le_of_ble_eq_true rfl⟩ ⟨Nat.zero_le _, Nat.zero_le _⟩ hl.1 (Nat.le_of_ble_eq_true rfl) dX2_dealLabels_77 (fun H locs hw => ?_)
          refine lv_iinc (v := (x11 + 1)) (lv' := [(11, .int (x11 + 1)), (8, .int (x8 + 1)), (9, .long z11), (0, .ref (ad 0)), (1, .int x1), (3, .int x3), (4, .long x4), (6, .int x6), (7, .int x7)]) hx hb dX2_dealLabels_80 hl (k := 8) rfl rfl (by decide) rfl (fun ls hl => ?_)
          refine lv_goto (tgt := 11) hx hb dX2_dealLabels_83 rfl ?_
          exact ih _ _ _ _ _ _ _ _ _ _ _ _ hw (lv_sub hl [3, 4, 5, 6, 7, 8, 1, 2, 0] rfl) h
set_option maxHeartbeats 4000000 in
set_option maxRecDepth 100000 in
theorem w_X2_dealLabels_0 (F : FX p m c cX2_dealLabels 12 s args yX2_dealLabels none RX2 meth) {z : SS} : ∀ (x1 : Int32) (x2 : Int32) (x3 : Int32) (x4 : Int64) (x6 : Int32) (x7 : Int32) (u : SS) (H : Heap) (locs : List Loc) (ls : Array Slot), WD G A s (sw G ad u) H locs → lv_has ls 12 [(0, .ref (ad 0)), (1, .int x1), (2, .int x2), (3, .int x3), (4, .long x4), (6, .int x6), (7, .int x7)] → f_X2_dealLabels x1 x2 x3 x4 x6 x7 u = some z → W p l e rmX2_dealLabels s m args below meth c H locs 0 0 (MQ below (QW G (sw G ad z) A none) args s 0 0 A) (F0 m 0 ls []) := by
  obtain ⟨⟨hx, hb, hml, hown, hts⟩, hr, hlocks⟩ := id F
  intro x1 x2 x3 x4 x6 x7 u H locs ls hw hl h
  unfold f_X2_dealLabels at h
  refine lv_iconst (v := (-1)) hx hb dX2_dealLabels_0 rfl ?_
  refine lv_istore (lv' := [(8, .int (-1)), (0, .ref (ad 0)), (1, .int x1), (2, .int x2), (3, .int x3), (4, .long x4), (6, .int x6), (7, .int x7)]) hx hb dX2_dealLabels_1 hl (by decide) rfl (fun ls hl => ?_)
  refine lv_ldc2 (own := RX2) (v := (-2)) hx hb hown (F.tb (tw 268 (by decide +kernel) rfl)) dX2_dealLabels_3 ?_
  refine lv_lstore (lv' := [(9, .long (-2)), (8, .int (-1)), (0, .ref (ad 0)), (1, .int x1), (2, .int x2), (3, .int x3), (4, .long x4), (6, .int x6), (7, .int x7)]) hx hb dX2_dealLabels_6 hl (by decide) rfl (fun ls hl => ?_)
  refine lv_iload_n hx hb dX2_dealLabels_8 rfl (lv_at hl 4 rfl) ?_
  refine lv_istore (lv' := [(11, .int x2), (9, .long (-2)), (8, .int (-1)), (0, .ref (ad 0)), (1, .int x1), (2, .int x2), (3, .int x3), (4, .long x4), (6, .int x6), (7, .int x7)]) hx hb dX2_dealLabels_9 hl (by decide) rfl (fun ls hl => ?_)
  exact w_X2_dealLabels_11 F NF _ _ _ _ _ _ _ _ _ _ _ _ hw (lv_sub hl [3, 4, 6, 7, 8, 9, 2, 1, 0] rfl) h
end
theorem c_X2_dealLabels {l : Launch} {G : GX} {ad : Nat → Nat} {x1 : Int32} {x2 : Int32} {x3 : Int32} {x4 : Int64} {x6 : Int32} {x7 : Int32} {u : SS} {z : SS} (h : f_X2_dealLabels x1 x2 x3 x4 x6 x7 u = some z) : MW l yX2_dealLabels cX2_dealLabels 12 none rmX2_dealLabels G (sw G ad u) (sw G ad z) [.ref (ad 0), .int x1, .int x2, .int x3, .long x4, .int x6, .int x7] none := MW.of (by decide) (Nat.le_of_ble_eq_true rfl) (fun p e s m below meth c ls F hw hl => w_X2_dealLabels_0 F _ _ _ _ _ _ _ _ _ _ hw hl h)
/-! ===== X2_spreadRuns ===== -/
theorem dX2_spreadRuns_0 : decode cX2_spreadRuns 0 = .ok (.aload_n 0, 1) := by decide +kernel
theorem dX2_spreadRuns_1 : decode cX2_spreadRuns 1 = .ok (.getfield 29, 3) := by decide +kernel
theorem dX2_spreadRuns_4 : decode cX2_spreadRuns 4 = .ok (.iload_n 1, 1) := by decide +kernel
theorem dX2_spreadRuns_5 : decode cX2_spreadRuns 5 = .ok (.iaload, 1) := by decide +kernel
theorem dX2_spreadRuns_6 : decode cX2_spreadRuns 6 = .ok (.istore 4, 2) := by decide +kernel
theorem dX2_spreadRuns_8 : decode cX2_spreadRuns 8 = .ok (.iload_n 2, 1) := by decide +kernel
theorem dX2_spreadRuns_9 : decode cX2_spreadRuns 9 = .ok (.aload_n 0, 1) := by decide +kernel
theorem dX2_spreadRuns_10 : decode cX2_spreadRuns 10 = .ok (.getfield 12, 3) := by decide +kernel
theorem dX2_spreadRuns_13 : decode cX2_spreadRuns 13 = .ok (.iload_n 1, 1) := by decide +kernel
theorem dX2_spreadRuns_14 : decode cX2_spreadRuns 14 = .ok (.invokevirtual 81, 3) := by decide +kernel
theorem dX2_spreadRuns_17 : decode cX2_spreadRuns 17 = .ok (.if_icmp .le 13, 3) := by decide +kernel
theorem dX2_spreadRuns_20 : decode cX2_spreadRuns 20 = .ok (.aload_n 0, 1) := by decide +kernel
theorem dX2_spreadRuns_21 : decode cX2_spreadRuns 21 = .ok (.iload_n 2, 1) := by decide +kernel
theorem dX2_spreadRuns_22 : decode cX2_spreadRuns 22 = .ok (.iconst 1, 1) := by decide +kernel
theorem dX2_spreadRuns_23 : decode cX2_spreadRuns 23 = .ok (.isub, 1) := by decide +kernel
theorem dX2_spreadRuns_24 : decode cX2_spreadRuns 24 = .ok (.invokevirtual 87, 3) := by decide +kernel
theorem dX2_spreadRuns_27 : decode cX2_spreadRuns 27 = .ok (.goto 8, 3) := by decide +kernel
theorem dX2_spreadRuns_30 : decode cX2_spreadRuns 30 = .ok (.aload_n 0, 1) := by decide +kernel
theorem dX2_spreadRuns_31 : decode cX2_spreadRuns 31 = .ok (.iload_n 3, 1) := by decide +kernel
theorem dX2_spreadRuns_32 : decode cX2_spreadRuns 32 = .ok (.invokevirtual 87, 3) := by decide +kernel
theorem dX2_spreadRuns_35 : decode cX2_spreadRuns 35 = .ok (.lstore 5, 2) := by decide +kernel
theorem dX2_spreadRuns_37 : decode cX2_spreadRuns 37 = .ok (.iload_n 2, 1) := by decide +kernel
theorem dX2_spreadRuns_38 : decode cX2_spreadRuns 38 = .ok (.istore 7, 2) := by decide +kernel
theorem dX2_spreadRuns_40 : decode cX2_spreadRuns 40 = .ok (.iload_n 3, 1) := by decide +kernel
theorem dX2_spreadRuns_41 : decode cX2_spreadRuns 41 = .ok (.istore 8, 2) := by decide +kernel
theorem dX2_spreadRuns_43 : decode cX2_spreadRuns 43 = .ok (.iconst 1, 1) := by decide +kernel
theorem dX2_spreadRuns_44 : decode cX2_spreadRuns 44 = .ok (.istore 9, 2) := by decide +kernel
theorem dX2_spreadRuns_46 : decode cX2_spreadRuns 46 = .ok (.iconst 1, 1) := by decide +kernel
theorem dX2_spreadRuns_47 : decode cX2_spreadRuns 47 = .ok (.istore 10, 2) := by decide +kernel
theorem dX2_spreadRuns_49 : decode cX2_spreadRuns 49 = .ok (.iload 10, 2) := by decide +kernel
theorem dX2_spreadRuns_51 : decode cX2_spreadRuns 51 = .ok (.iload 4, 2) := by decide +kernel
theorem dX2_spreadRuns_53 : decode cX2_spreadRuns 53 = .ok (.if_icmp .gt 193, 3) := by decide +kernel
theorem dX2_spreadRuns_56 : decode cX2_spreadRuns 56 = .ok (.lload 5, 2) := by decide +kernel
theorem dX2_spreadRuns_58 : decode cX2_spreadRuns 58 = .ok (.iload 10, 2) := by decide +kernel
theorem dX2_spreadRuns_60 : decode cX2_spreadRuns 60 = .ok (.lshr, 1) := by decide +kernel
theorem dX2_spreadRuns_61 : decode cX2_spreadRuns 61 = .ok (.iload 10, 2) := by decide +kernel
theorem dX2_spreadRuns_63 : decode cX2_spreadRuns 63 = .ok (.lshl, 1) := by decide +kernel
theorem dX2_spreadRuns_64 : decode cX2_spreadRuns 64 = .ok (.lstore 11, 2) := by decide +kernel
theorem dX2_spreadRuns_66 : decode cX2_spreadRuns 66 = .ok (.lload 11, 2) := by decide +kernel
theorem dX2_spreadRuns_68 : decode cX2_spreadRuns 68 = .ok (.lconst 1, 1) := by decide +kernel
theorem dX2_spreadRuns_69 : decode cX2_spreadRuns 69 = .ok (.iload 10, 2) := by decide +kernel
theorem dX2_spreadRuns_71 : decode cX2_spreadRuns 71 = .ok (.lshl, 1) := by decide +kernel
theorem dX2_spreadRuns_72 : decode cX2_spreadRuns 72 = .ok (.ladd, 1) := by decide +kernel
theorem dX2_spreadRuns_73 : decode cX2_spreadRuns 73 = .ok (.lstore 13, 2) := by decide +kernel
theorem dX2_spreadRuns_75 : decode cX2_spreadRuns 75 = .ok (.iload 7, 2) := by decide +kernel
theorem dX2_spreadRuns_77 : decode cX2_spreadRuns 77 = .ok (.aload_n 0, 1) := by decide +kernel
theorem dX2_spreadRuns_78 : decode cX2_spreadRuns 78 = .ok (.getfield 12, 3) := by decide +kernel
theorem dX2_spreadRuns_81 : decode cX2_spreadRuns 81 = .ok (.iload_n 1, 1) := by decide +kernel
theorem dX2_spreadRuns_82 : decode cX2_spreadRuns 82 = .ok (.invokevirtual 81, 3) := by decide +kernel
theorem dX2_spreadRuns_85 : decode cX2_spreadRuns 85 = .ok (.if_icmp .le 51, 3) := by decide +kernel
theorem dX2_spreadRuns_88 : decode cX2_spreadRuns 88 = .ok (.aload_n 0, 1) := by decide +kernel
theorem dX2_spreadRuns_89 : decode cX2_spreadRuns 89 = .ok (.iload 7, 2) := by decide +kernel
theorem dX2_spreadRuns_91 : decode cX2_spreadRuns 91 = .ok (.iconst 1, 1) := by decide +kernel
theorem dX2_spreadRuns_92 : decode cX2_spreadRuns 92 = .ok (.isub, 1) := by decide +kernel
theorem dX2_spreadRuns_93 : decode cX2_spreadRuns 93 = .ok (.invokevirtual 87, 3) := by decide +kernel
theorem dX2_spreadRuns_96 : decode cX2_spreadRuns 96 = .ok (.lload 11, 2) := by decide +kernel
theorem dX2_spreadRuns_98 : decode cX2_spreadRuns 98 = .ok (.lcmp, 1) := by decide +kernel
theorem dX2_spreadRuns_99 : decode cX2_spreadRuns 99 = .ok (.ifCond .lt 37, 3) := by decide +kernel
theorem dX2_spreadRuns_102 : decode cX2_spreadRuns 102 = .ok (.iinc 7 (-1), 3) := by decide +kernel
theorem dX2_spreadRuns_105 : decode cX2_spreadRuns 105 = .ok (.iload 9, 2) := by decide +kernel
theorem dX2_spreadRuns_107 : decode cX2_spreadRuns 107 = .ok (.aload_n 0, 1) := by decide +kernel
theorem dX2_spreadRuns_108 : decode cX2_spreadRuns 108 = .ok (.iload 7, 2) := by decide +kernel
theorem dX2_spreadRuns_110 : decode cX2_spreadRuns 110 = .ok (.invokevirtual 87, 3) := by decide +kernel
theorem dX2_spreadRuns_113 : decode cX2_spreadRuns 113 = .ok (.aload_n 0, 1) := by decide +kernel
theorem dX2_spreadRuns_114 : decode cX2_spreadRuns 114 = .ok (.iload 7, 2) := by decide +kernel
theorem dX2_spreadRuns_116 : decode cX2_spreadRuns 116 = .ok (.iconst 1, 1) := by decide +kernel
theorem dX2_spreadRuns_117 : decode cX2_spreadRuns 117 = .ok (.iadd, 1) := by decide +kernel
theorem dX2_spreadRuns_118 : decode cX2_spreadRuns 118 = .ok (.invokevirtual 87, 3) := by decide +kernel
theorem dX2_spreadRuns_121 : decode cX2_spreadRuns 121 = .ok (.lcmp, 1) := by decide +kernel
theorem dX2_spreadRuns_122 : decode cX2_spreadRuns 122 = .ok (.ifCond .eq 7, 3) := by decide +kernel
theorem dX2_spreadRuns_125 : decode cX2_spreadRuns 125 = .ok (.iconst 1, 1) := by decide +kernel
theorem dX2_spreadRuns_126 : decode cX2_spreadRuns 126 = .ok (.goto 4, 3) := by decide +kernel
theorem dX2_spreadRuns_129 : decode cX2_spreadRuns 129 = .ok (.iconst 0, 1) := by decide +kernel
theorem dX2_spreadRuns_130 : decode cX2_spreadRuns 130 = .ok (.iadd, 1) := by decide +kernel
theorem dX2_spreadRuns_131 : decode cX2_spreadRuns 131 = .ok (.istore 9, 2) := by decide +kernel
theorem dX2_spreadRuns_133 : decode cX2_spreadRuns 133 = .ok (.goto (-58), 3) := by decide +kernel
theorem dX2_spreadRuns_136 : decode cX2_spreadRuns 136 = .ok (.iload 8, 2) := by decide +kernel
theorem dX2_spreadRuns_138 : decode cX2_spreadRuns 138 = .ok (.aload_n 0, 1) := by decide +kernel
theorem dX2_spreadRuns_139 : decode cX2_spreadRuns 139 = .ok (.getfield 12, 3) := by decide +kernel
theorem dX2_spreadRuns_142 : decode cX2_spreadRuns 142 = .ok (.iload_n 1, 1) := by decide +kernel
theorem dX2_spreadRuns_143 : decode cX2_spreadRuns 143 = .ok (.invokevirtual 84, 3) := by decide +kernel
theorem dX2_spreadRuns_146 : decode cX2_spreadRuns 146 = .ok (.if_icmp .ge 49, 3) := by decide +kernel
theorem dX2_spreadRuns_149 : decode cX2_spreadRuns 149 = .ok (.aload_n 0, 1) := by decide +kernel
theorem dX2_spreadRuns_150 : decode cX2_spreadRuns 150 = .ok (.iload 8, 2) := by decide +kernel
theorem dX2_spreadRuns_152 : decode cX2_spreadRuns 152 = .ok (.invokevirtual 87, 3) := by decide +kernel
theorem dX2_spreadRuns_155 : decode cX2_spreadRuns 155 = .ok (.lload 13, 2) := by decide +kernel
theorem dX2_spreadRuns_157 : decode cX2_spreadRuns 157 = .ok (.lcmp, 1) := by decide +kernel
theorem dX2_spreadRuns_158 : decode cX2_spreadRuns 158 = .ok (.ifCond .ge 37, 3) := by decide +kernel
theorem dX2_spreadRuns_161 : decode cX2_spreadRuns 161 = .ok (.iload 9, 2) := by decide +kernel
theorem dX2_spreadRuns_163 : decode cX2_spreadRuns 163 = .ok (.aload_n 0, 1) := by decide +kernel
theorem dX2_spreadRuns_164 : decode cX2_spreadRuns 164 = .ok (.iload 8, 2) := by decide +kernel
theorem dX2_spreadRuns_166 : decode cX2_spreadRuns 166 = .ok (.invokevirtual 87, 3) := by decide +kernel
theorem dX2_spreadRuns_169 : decode cX2_spreadRuns 169 = .ok (.aload_n 0, 1) := by decide +kernel
theorem dX2_spreadRuns_170 : decode cX2_spreadRuns 170 = .ok (.iload 8, 2) := by decide +kernel
theorem dX2_spreadRuns_172 : decode cX2_spreadRuns 172 = .ok (.iconst 1, 1) := by decide +kernel
theorem dX2_spreadRuns_173 : decode cX2_spreadRuns 173 = .ok (.isub, 1) := by decide +kernel
theorem dX2_spreadRuns_174 : decode cX2_spreadRuns 174 = .ok (.invokevirtual 87, 3) := by decide +kernel
theorem dX2_spreadRuns_177 : decode cX2_spreadRuns 177 = .ok (.lcmp, 1) := by decide +kernel
theorem dX2_spreadRuns_178 : decode cX2_spreadRuns 178 = .ok (.ifCond .eq 7, 3) := by decide +kernel
theorem dX2_spreadRuns_181 : decode cX2_spreadRuns 181 = .ok (.iconst 1, 1) := by decide +kernel
theorem dX2_spreadRuns_182 : decode cX2_spreadRuns 182 = .ok (.goto 4, 3) := by decide +kernel
theorem dX2_spreadRuns_185 : decode cX2_spreadRuns 185 = .ok (.iconst 0, 1) := by decide +kernel
theorem dX2_spreadRuns_186 : decode cX2_spreadRuns 186 = .ok (.iadd, 1) := by decide +kernel
theorem dX2_spreadRuns_187 : decode cX2_spreadRuns 187 = .ok (.istore 9, 2) := by decide +kernel
theorem dX2_spreadRuns_189 : decode cX2_spreadRuns 189 = .ok (.iinc 8 1, 3) := by decide +kernel
theorem dX2_spreadRuns_192 : decode cX2_spreadRuns 192 = .ok (.goto (-56), 3) := by decide +kernel
theorem dX2_spreadRuns_195 : decode cX2_spreadRuns 195 = .ok (.iload 9, 2) := by decide +kernel
theorem dX2_spreadRuns_197 : decode cX2_spreadRuns 197 = .ok (.i2l, 1) := by decide +kernel
theorem dX2_spreadRuns_198 : decode cX2_spreadRuns 198 = .ok (.ldc2_w 189, 3) := by decide +kernel
theorem dX2_spreadRuns_201 : decode cX2_spreadRuns 201 = .ok (.lmul, 1) := by decide +kernel
theorem dX2_spreadRuns_202 : decode cX2_spreadRuns 202 = .ok (.iload 4, 2) := by decide +kernel
theorem dX2_spreadRuns_204 : decode cX2_spreadRuns 204 = .ok (.i2l, 1) := by decide +kernel
theorem dX2_spreadRuns_205 : decode cX2_spreadRuns 205 = .ok (.lmul, 1) := by decide +kernel
theorem dX2_spreadRuns_206 : decode cX2_spreadRuns 206 = .ok (.lconst 1, 1) := by decide +kernel
theorem dX2_spreadRuns_207 : decode cX2_spreadRuns 207 = .ok (.iload 10, 2) := by decide +kernel
theorem dX2_spreadRuns_209 : decode cX2_spreadRuns 209 = .ok (.lshl, 1) := by decide +kernel
theorem dX2_spreadRuns_210 : decode cX2_spreadRuns 210 = .ok (.iconst 2, 1) := by decide +kernel
theorem dX2_spreadRuns_211 : decode cX2_spreadRuns 211 = .ok (.iload 4, 2) := by decide +kernel
theorem dX2_spreadRuns_213 : decode cX2_spreadRuns 213 = .ok (.imul, 1) := by decide +kernel
theorem dX2_spreadRuns_214 : decode cX2_spreadRuns 214 = .ok (.iload 10, 2) := by decide +kernel
theorem dX2_spreadRuns_216 : decode cX2_spreadRuns 216 = .ok (.isub, 1) := by decide +kernel
theorem dX2_spreadRuns_217 : decode cX2_spreadRuns 217 = .ok (.i2l, 1) := by decide +kernel
theorem dX2_spreadRuns_218 : decode cX2_spreadRuns 218 = .ok (.lmul, 1) := by decide +kernel
theorem dX2_spreadRuns_219 : decode cX2_spreadRuns 219 = .ok (.lcmp, 1) := by decide +kernel
theorem dX2_spreadRuns_220 : decode cX2_spreadRuns 220 = .ok (.ifCond .gt 20, 3) := by decide +kernel
theorem dX2_spreadRuns_223 : decode cX2_spreadRuns 223 = .ok (.aload_n 0, 1) := by decide +kernel
theorem dX2_spreadRuns_224 : decode cX2_spreadRuns 224 = .ok (.iload_n 1, 1) := by decide +kernel
theorem dX2_spreadRuns_225 : decode cX2_spreadRuns 225 = .ok (.iload 7, 2) := by decide +kernel
theorem dX2_spreadRuns_227 : decode cX2_spreadRuns 227 = .ok (.iload 8, 2) := by decide +kernel
theorem dX2_spreadRuns_229 : decode cX2_spreadRuns 229 = .ok (.lload 11, 2) := by decide +kernel
theorem dX2_spreadRuns_231 : decode cX2_spreadRuns 231 = .ok (.iload 10, 2) := by decide +kernel
theorem dX2_spreadRuns_233 : decode cX2_spreadRuns 233 = .ok (.iload 9, 2) := by decide +kernel
theorem dX2_spreadRuns_235 : decode cX2_spreadRuns 235 = .ok (.invokevirtual 194, 3) := by decide +kernel
theorem dX2_spreadRuns_238 : decode cX2_spreadRuns 238 = .ok (.iconst 1, 1) := by decide +kernel
theorem dX2_spreadRuns_239 : decode cX2_spreadRuns 239 = .ok (.ireturn, 1) := by decide +kernel
theorem dX2_spreadRuns_240 : decode cX2_spreadRuns 240 = .ok (.iinc 10 1, 3) := by decide +kernel
theorem dX2_spreadRuns_243 : decode cX2_spreadRuns 243 = .ok (.goto (-194), 3) := by decide +kernel
theorem dX2_spreadRuns_246 : decode cX2_spreadRuns 246 = .ok (.iconst 0, 1) := by decide +kernel
theorem dX2_spreadRuns_247 : decode cX2_spreadRuns 247 = .ok (.ireturn, 1) := by decide +kernel
theorem s_g0_3 {p : Program} {l : Launch} {e : Env} {R : Room} {s : State} {m : MethodId} {args : Array Value} {below : List Frame} {meth : Method} {c : Code} {H : Heap} {locs : List Loc} {cells slots : Nat} {Q : State → Prop} {G : GX} {A : Nat → Prop} {ad : Nat → Nat} {u : SS} {cc : ByteArray} {nL pc : Nat} {y : MethodName} {ret : Option FieldType} {ls : Array Slot} {rest : List Value} (F : FX p m c cc nL s args y ret RX2 meth) (hw : WD G A s (sw G ad u) H locs) (hdg : decode cc pc = .ok (.getfield 29, 3)) (kk : W p l e R s m args below meth c H locs cells slots Q (F0 m (pc + 3) ls (.ref (ad 10) :: rest))) : W p l e R s m args below meth c H locs cells slots Q (F0 m pc ls (.ref (ad 0) :: rest)) := va_get (D := G.1) (ci := 2) (C := RX2) (T := TX2) (N := 8) (Ts := lw_gt) F.1.1 F.1.2.1 (fun _ h => F.tb h) inX2 F.1.2.2.2.1 hw.1.1 hw.2.1 0 rfl rfl 3 (by decide) (F.tb (tw 73 (by decide +kernel) rfl)) (fun _ h9 => h9) rfl hdg kk
theorem s_l10 {i : Int32} {p : Program} {l : Launch} {e : Env} {R : Room} {s : State} {m : MethodId} {args : Array Value} {below : List Frame} {meth : Method} {c : Code} {H : Heap} {locs : List Loc} {cells slots : Nat} {Q : State → Prop} {G : GX} {A : Nat → Prop} {ad : Nat → Nat} {u : SS} {cc : ByteArray} {nL pc : Nat} {y : MethodName} {ret : Option FieldType} {ls : Array Slot} {rest : List Value} (F : FX p m c cc nL s args y ret RX2 meth) (hw : WD G A s (sw G ad u) H locs) (hi : ix i 8 = true) (hdg : decode cc pc = .ok (.iaload, 1)) (kk : W p l e R s m args below meth c H locs cells slots Q (F0 m (pc + 1) ls (.int ((u.2.2.1 3) i.toNatClampNeg) :: rest))) : W p l e R s m args below meth c H locs cells slots Q (F0 m pc ls (.int i :: .ref (ad 10) :: rest)) := va_iald F.1.1 F.1.2.1 hw.1.1 hw.2.1 10 0 rfl rfl (ix_in hi) hdg kk
theorem yv_X2_dealLabels_X2 : YV RX2 194 yX2_dealLabels cX2_dealLabels 12 none 6 := ⟨(tw 267 (by decide +kernel) rfl), (tw 2 (by decide +kernel) rfl), (tw 264 (by decide +kernel) rfl), (tw 265 (by decide +kernel) rfl), (tw 266 (by decide +kernel) rfl), by decide +kernel⟩
theorem k_X2_dealLabels_s_ {p : Program} {l : Launch} {e : Env} {R : Room} {s : State} {m : MethodId} {args : Array Value} {below : List Frame} {meth : Method} {c : Code} {H : Heap} {locs : List Loc} {cells slots : Nat} {Q : State → Prop} {G : GX} {A : Nat → Prop} {ad : Nat → Nat} {u : SS} {cc : ByteArray} {nL pc : Nat} {y : MethodName} {ret : Option FieldType} {ls : Array Slot} {rest : List Value} {x1 : Int32} {x2 : Int32} {x3 : Int32} {x4 : Int64} {x6 : Int32} {x7 : Int32} {z : SS} (F : FX p m c cc nL s args y ret RX2 meth) (hw : WD G A s (sw G ad u) H locs) (h : f_X2_dealLabels x1 x2 x3 x4 x6 x7 u = some z) (hR : rmX2_dealLabels.frames + 1 ≤ R.frames ∧ 8 + (12 + 11) + rmX2_dealLabels.locals ≤ R.locals) (hcs : cells ≤ R.cells ∧ slots ≤ R.slots) (hsz : ls.size = nL) (hW : (rest.map fun v => v.category).sum ≤ 8) (hdg : decode cc pc = .ok (.invokevirtual 194, 3)) (kk : ∀ (H : Heap) (locs : List Loc), WD G A s (sw G ad z) H locs → W p l e R s m args below meth c H locs cells slots Q (F0 m (pc + 3) ls (rest))) : W p l e R s m args below meth c H locs cells slots Q (F0 m pc ls (.int x7 :: .int x6 :: .long x4 :: .int x3 :: .int x2 :: .int x1 :: .ref (ad 0) :: rest)) := callW (runV F yv_X2_dealLabels_X2 (c_X2_dealLabels h) hw.1 hw.2.1 hw.2.2.1 rfl rfl rfl ⟨rfl, rfl⟩ hR hcs rfl hsz rfl hW hdg) hw.2.2.2 hw.2.2.1.own_in (fun H1 l1 hP _ hS => kk H1 l1 ⟨hw.1, hP, hw.2.2.1.addr rfl, hS⟩)
def rmX2_spreadRuns : Room := { frames := 2, cells := 0, slots := 0, locals := 55 }
noncomputable def f_X2_spreadRuns_195 (k_49 : Int32 → Int32 → Int64 → Int32 → Int32 → Int32 → Int32 → SS → Option (Int32 × SS)) (x1 : Int32) (x4 : Int32) (x5 : Int64) (x7 : Int32) (x8 : Int32) (x9 : Int32) (x10 : Int32) (x11 : Int64) (u : SS) : Option (Int32 × SS) := (if 0 < (lg_cmp (((Int32.toInt64 x9) * 2) * (Int32.toInt64 x4)) (((1 : Int64) <<< (Int32.toInt64 x10 &&& 63)) * (Int32.toInt64 ((2 * x4) - x10)))) then k_49 x1 x4 x5 x7 x8 x9 (x10 + 1) u else (f_X2_dealLabels x1 x7 x8 x11 x10 x9 u).bind (fun z33 => some (1, z33)))
noncomputable def f_X2_spreadRuns_136 (k_49 : Int32 → Int32 → Int64 → Int32 → Int32 → Int32 → Int32 → SS → Option (Int32 × SS)) : Nat → Int32 → Int32 → Int64 → Int32 → Int32 → Int32 → Int32 → Int64 → Int64 → SS → Option (Int32 × SS)
  | 0, _, _, _, _, _, _, _, _, _, _ => none
  | n + 1, x1, x4, x5, x7, x8, x9, x10, x11, x13, u => (f_X1_end x1 u.1).bind (fun z21 => (if z21 ≤ x8 then f_X2_spreadRuns_195 k_49 x1 x4 x5 x7 x8 x9 x10 x11 u else (f_X2_labelAt x8 u).bind (fun z24 => (if 0 ≤ (lg_cmp z24 x13) then f_X2_spreadRuns_195 k_49 x1 x4 x5 x7 x8 x9 x10 x11 u else (f_X2_labelAt x8 u).bind (fun z27 => (f_X2_labelAt (x8 - 1) u).bind (fun z29 => (if (lg_cmp z27 z29) = 0 then f_X2_spreadRuns_136 k_49 n x1 x4 x5 x7 (x8 + 1) (x9 + 0) x10 x11 x13 u else f_X2_spreadRuns_136 k_49 n x1 x4 x5 x7 (x8 + 1) (x9 + 1) x10 x11 x13 u)))))))
noncomputable def f_X2_spreadRuns_75 (k_49 : Int32 → Int32 → Int64 → Int32 → Int32 → Int32 → Int32 → SS → Option (Int32 × SS)) : Nat → Int32 → Int32 → Int64 → Int32 → Int32 → Int32 → Int32 → Int64 → Int64 → SS → Option (Int32 × SS)
  | 0, _, _, _, _, _, _, _, _, _, _ => none
  | n + 1, x1, x4, x5, x7, x8, x9, x10, x11, x13, u => (f_X1_first x1 u.1).bind (fun z10 => (if x7 ≤ z10 then f_X2_spreadRuns_136 k_49 NF x1 x4 x5 x7 x8 x9 x10 x11 x13 u else (f_X2_labelAt (x7 - 1) u).bind (fun z13 => (if (lg_cmp z13 x11) < 0 then f_X2_spreadRuns_136 k_49 NF x1 x4 x5 x7 x8 x9 x10 x11 x13 u else (f_X2_labelAt (x7 + (-1)) u).bind (fun z16 => (f_X2_labelAt ((x7 + (-1)) + 1) u).bind (fun z18 => (if (lg_cmp z16 z18) = 0 then f_X2_spreadRuns_75 k_49 n x1 x4 x5 (x7 + (-1)) x8 (x9 + 0) x10 x11 x13 u else f_X2_spreadRuns_75 k_49 n x1 x4 x5 (x7 + (-1)) x8 (x9 + 1) x10 x11 x13 u)))))))
noncomputable def f_X2_spreadRuns_49 : Nat → Int32 → Int32 → Int64 → Int32 → Int32 → Int32 → Int32 → SS → Option (Int32 × SS)
  | 0, _, _, _, _, _, _, _, _ => none
  | n + 1, x1, x4, x5, x7, x8, x9, x10, u => (if x4 < x10 then some (0, u) else f_X2_spreadRuns_75 (f_X2_spreadRuns_49 n) NF x1 x4 x5 x7 x8 x9 x10 ((x5 >>> (Int32.toInt64 x10 &&& 63)) <<< (Int32.toInt64 x10 &&& 63)) (((x5 >>> (Int32.toInt64 x10 &&& 63)) <<< (Int32.toInt64 x10 &&& 63)) + ((1 : Int64) <<< (Int32.toInt64 x10 &&& 63))) u)
noncomputable def f_X2_spreadRuns (x1 : Int32) (x2 : Int32) (x3 : Int32) (u : SS) : Option (Int32 × SS) := (if ix x1 8 = true then (f_X1_first x1 u.1).bind (fun z2 => (if x2 ≤ z2 then (f_X2_labelAt x3 u).bind (fun z5 => f_X2_spreadRuns_49 NF x1 ((u.2.2.1 3) (Int32.toNatClampNeg x1)) z5 x2 x3 1 1 u) else (f_X2_labelAt (x2 - 1) u).bind (fun z7 => f_X2_spreadRuns_49 NF x1 ((u.2.2.1 3) (Int32.toNatClampNeg x1)) z7 x2 x3 1 1 u))) else none)
section
variable {p : Program} {l : Launch} {e : Env} {s : State} {m : MethodId} {args : Array Value} {below : List Frame} {meth : Method} {c : Code}
variable {G : GX} {A : Nat → Prop} {ad : Nat → Nat} 
set_option maxHeartbeats 4000000 in
set_option maxRecDepth 100000 in
theorem w_X2_spreadRuns_195 (F : FX p m c cX2_spreadRuns 15 s args yX2_spreadRuns (some .boolean) RX2 meth) {z : Int32 × SS} (k_49 : Int32 → Int32 → Int64 → Int32 → Int32 → Int32 → Int32 → SS → Option (Int32 × SS)) (hk_49 : ∀ (x1 : Int32) (x4 : Int32) (x5 : Int64) (x7 : Int32) (x8 : Int32) (x9 : Int32) (x10 : Int32) (u : SS) (H : Heap) (locs : List Loc) (ls : Array Slot), WD G A s (sw G ad u) H locs → lv_has ls 15 [(0, .ref (ad 0)), (1, .int x1), (4, .int x4), (5, .long x5), (7, .int x7), (8, .int x8), (9, .int x9), (10, .int x10)] → k_49 x1 x4 x5 x7 x8 x9 x10 u = some z → W p l e rmX2_spreadRuns s m args below meth c H locs 0 0 (MQ below (QW G (sw G ad z.2) A (some (.int z.1))) args s 0 0 A) (F0 m 49 ls [])) : ∀ (x1 : Int32) (x4 : Int32) (x5 : Int64) (x7 : Int32) (x8 : Int32) (x9 : Int32) (x10 : Int32) (x11 : Int64) (u : SS) (H : Heap) (locs : List Loc) (ls : Array Slot), WD G A s (sw G ad u) H locs → lv_has ls 15 [(0, .ref (ad 0)), (1, .int x1), (4, .int x4), (5, .long x5), (7, .int x7), (8, .int x8), (9, .int x9), (10, .int x10), (11, .long x11)] → f_X2_spreadRuns_195 k_49 x1 x4 x5 x7 x8 x9 x10 x11 u = some z → W p l e rmX2_spreadRuns s m args below meth c H locs 0 0 (MQ below (QW G (sw G ad z.2) A (some (.int z.1))) args s 0 0 A) (F0 m 195 ls []) := by
  obtain ⟨⟨hx, hb, hml, hown, hts⟩, hr, hlocks⟩ := id F
  intro x1 x4 x5 x7 x8 x9 x10 x11 u H locs ls hw hl h
  unfold f_X2_spreadRuns_195 at h
  refine lv_iload hx hb dX2_spreadRuns_195 (lv_at hl 6 rfl) ?_
  refine lv_i2l hx hb dX2_spreadRuns_197 rfl ?_
  refine lv_ldc2 (own := RX2) (v := 2) hx hb hown (F.tb (tw 255 (by decide +kernel) rfl)) dX2_spreadRuns_198 ?_
  refine lv_lmul hx hb dX2_spreadRuns_201 ?_
  refine lv_iload hx hb dX2_spreadRuns_202 (lv_at hl 2 rfl) ?_
  refine lv_i2l hx hb dX2_spreadRuns_204 rfl ?_
  refine lv_lmul hx hb dX2_spreadRuns_205 ?_
  refine lv_lconst (v := 1) hx hb dX2_spreadRuns_206 rfl ?_
  refine lv_iload hx hb dX2_spreadRuns_207 (lv_at hl 7 rfl) ?_
  refine lv_lshl hx hb dX2_spreadRuns_209 rfl ?_
  refine lv_iconst (v := 2) hx hb dX2_spreadRuns_210 rfl ?_
  refine lv_iload hx hb dX2_spreadRuns_211 (lv_at hl 2 rfl) ?_
  refine lv_imul hx hb dX2_spreadRuns_213 ?_
  refine lv_iload hx hb dX2_spreadRuns_214 (lv_at hl 7 rfl) ?_
  refine lv_isub hx hb dX2_spreadRuns_216 ?_
  refine lv_i2l hx hb dX2_spreadRuns_217 rfl ?_
  refine lv_lmul hx hb dX2_spreadRuns_218 ?_
  refine W.lcmp hx hb dX2_spreadRuns_219 ?_
  refine lv_if_gt (tgt := 240) hx hb dX2_spreadRuns_220 rfl (fun c32 => ?_) (fun c32 => ?_)
  · replace h := itT h c32
    refine lv_iinc (v := (x10 + 1)) (lv' := [(10, .int (x10 + 1)), (0, .ref (ad 0)), (1, .int x1), (4, .int x4), (5, .long x5), (7, .int x7), (8, .int x8), (9, .int x9), (11, .long x11)]) hx hb dX2_spreadRuns_240 hl (k := 7) rfl rfl (by decide) rfl (fun ls hl => ?_)
    refine lv_goto (tgt := 49) hx hb dX2_spreadRuns_243 rfl ?_
    exact hk_49 _ _ _ _ _ _ _ _ _ _ _ hw (lv_sub hl [1, 2, 3, 4, 5, 6, 7, 0] rfl) h
  · replace h := itF h c32
    refine lv_aload_n hx hb dX2_spreadRuns_223 rfl (lv_at hl 0 rfl) ?_
    refine lv_iload_n hx hb dX2_spreadRuns_224 rfl (lv_at hl 1 rfl) ?_
    refine lv_iload hx hb dX2_spreadRuns_225 (lv_at hl 4 rfl) ?_
    refine lv_iload hx hb dX2_spreadRuns_227 (lv_at hl 5 rfl) ?_
    refine lv_lload hx hb dX2_spreadRuns_229 (lv_at hl 8 rfl) ?_
    refine lv_iload hx hb dX2_spreadRuns_231 (lv_at hl 7 rfl) ?_
    refine lv_iload hx hb dX2_spreadRuns_233 (lv_at hl 6 rfl) ?_
    obtain ⟨z33, e34, h⟩ := bnd h
    refine k_X2_dealLabels_s_ F hw e34 ⟨Nat.le_of_ble_eq_true rfl, Nat.le_of_ble_eq_true rfl⟩ ⟨Nat.zero_le _, Nat.zero_le _⟩ hl.1 (Nat.le_of_ble_eq_true rfl) dX2_spreadRuns_235 (fun H locs hw => ?_)
    refine lv_iconst (v := 1) hx hb dX2_spreadRuns_238 rfl ?_
    cases h
    exact retW_z F hw narrow_b1 dX2_spreadRuns_239
set_option maxHeartbeats 4000000 in
set_option maxRecDepth 100000 in
theorem w_X2_spreadRuns_136 (F : FX p m c cX2_spreadRuns 15 s args yX2_spreadRuns (some .boolean) RX2 meth) {z : Int32 × SS} (k_49 : Int32 → Int32 → Int64 → Int32 → Int32 → Int32 → Int32 → SS → Option (Int32 × SS)) (hk_49 : ∀ (x1 : Int32) (x4 : Int32) (x5 : Int64) (x7 : Int32) (x8 : Int32) (x9 : Int32) (x10 : Int32) (u : SS) (H : Heap) (locs : List Loc) (ls : Array Slot), WD G A s (sw G ad u) H locs → lv_has ls 15 [(0, .ref (ad 0)), (1, .int x1), (4, .int x4), (5, .long x5), (7, .int x7), (8, .int x8), (9, .int x9), (10, .int x10)] → k_49 x1 x4 x5 x7 x8 x9 x10 u = some z → W p l e rmX2_spreadRuns s m args below meth c H locs 0 0 (MQ below (QW G (sw G ad z.2) A (some (.int z.1))) args s 0 0 A) (F0 m 49 ls [])) : ∀ (n : Nat) (x1 : Int32) (x4 : Int32) (x5 : Int64) (x7 : Int32) (x8 : Int32) (x9 : Int32) (x10 : Int32) (x11 : Int64) (x13 : Int64) (u : SS) (H : Heap) (locs : List Loc) (ls : Array Slot), WD G A s (sw G ad u) H locs → lv_has ls 15 [(0, .ref (ad 0)), (1, .int x1), (4, .int x4), (5, .long x5), (7, .int x7), (8, .int x8), (9, .int x9), (10, .int x10), (11, .long x11), (13, .long x13)] → f_X2_spreadRuns_136 k_49 n x1 x4 x5 x7 x8 x9 x10 x11 x13 u = some z → W p l e rmX2_spreadRuns s m args below meth c H locs 0 0 (MQ below (QW G (sw G ad z.2) A (some (.int z.1))) args s 0 0 A) (F0 m 136 ls []) := by
  obtain ⟨⟨hx, hb, hml, hown, hts⟩, hr, hlocks⟩ := id F
  intro n
  induction n with
  | zero =>
    intro x1 x4 x5 x7 x8 x9 x10 x11 x13 u H locs ls hw hl h
    rw [f_X2_spreadRuns_136] at h
    cases h
  | succ n ih =>
    intro x1 x4 x5 x7 x8 x9 x10 x11 x13 u H locs ls hw hl h
    rw [f_X2_spreadRuns_136] at h
    refine lv_iload hx hb dX2_spreadRuns_136 (lv_at hl 5 rfl) ?_
    refine lv_aload_n hx hb dX2_spreadRuns_138 rfl (lv_at hl 0 rfl) ?_
    refine s_g0_0 F hw dX2_spreadRuns_139 ?_
    refine lv_iload_n hx hb dX2_spreadRuns_142 rfl (lv_at hl 1 rfl) ?_
    obtain ⟨z21, e22, h⟩ := bnd h
    refine k_X1_end_s_ F hw e22 ⟨Nat.le_of_ble_eq_true rfl, Nat.le_of_ble_eq_true rfl⟩ ⟨Nat.zero_le _, Nat.zero_le _⟩ hl.1 (Nat.le_of_ble_eq_true rfl) dX2_spreadRuns_143 ?_
    refine lv_icmp_ge (tgt := 195) hx hb dX2_spreadRuns_146 rfl (fun c23 => ?_) (fun c23 => ?_)
    · replace h := itT h c23
      exact w_X2_spreadRuns_195 F k_49 hk_49 _ _ _ _ _ _ _ _ _ _ _ _ hw (lv_sub hl [0, 1, 2, 3, 4, 5, 6, 7, 8] rfl) h
    · replace h := itF h c23
      refine lv_aload_n hx hb dX2_spreadRuns_149 rfl (lv_at hl 0 rfl) ?_
      refine lv_iload hx hb dX2_spreadRuns_150 (lv_at hl 5 rfl) ?_
      obtain ⟨z24, e25, h⟩ := bnd h
      refine k_X2_labelAt_s_ F hw e25 ⟨Nat.le_of_ble_eq_true rfl, Nat.le_of_ble_eq_true rfl⟩ ⟨Nat.zero_le _, Nat.zero_le _⟩ hl.1 (Nat.le_of_ble_eq_true rfl) dX2_spreadRuns_152 ?_
      refine lv_lload hx hb dX2_spreadRuns_155 (lv_at hl 9 rfl) ?_
      refine W.lcmp hx hb dX2_spreadRuns_157 ?_
      refine lv_if_ge (tgt := 195) hx hb dX2_spreadRuns_158 rfl (fun c26 => ?_) (fun c26 => ?_)
      · replace h := itT h c26
        exact w_X2_spreadRuns_195 F k_49 hk_49 _ _ _ _ _ _ _ _ _ _ _ _ hw (lv_sub hl [0, 1, 2, 3, 4, 5, 6, 7, 8] rfl) h
      · replace h := itF h c26
        refine lv_iload hx hb dX2_spreadRuns_161 (lv_at hl 6 rfl) ?_
        refine lv_aload_n hx hb dX2_spreadRuns_163 rfl (lv_at hl 0 rfl) ?_
        refine lv_iload hx hb dX2_spreadRuns_164 (lv_at hl 5 rfl) ?_
        obtain ⟨z27, e28, h⟩ := bnd h
        refine k_X2_labelAt_s_ F hw e28 ⟨Nat.le_of_ble_eq_true rfl, Nat.le_of_ble_eq_true rfl⟩ ⟨Nat.zero_le _, Nat.zero_le _⟩ hl.1 (Nat.le_of_ble_eq_true rfl) dX2_spreadRuns_166 ?_
        refine lv_aload_n hx hb dX2_spreadRuns_169 rfl (lv_at hl 0 rfl) ?_
        refine lv_iload hx hb dX2_spreadRuns_170 (lv_at hl 5 rfl) ?_
        refine lv_iconst (v := 1) hx hb dX2_spreadRuns_172 rfl ?_
        refine lv_isub hx hb dX2_spreadRuns_173 ?_
        obtain ⟨z29, e30, h⟩ := bnd h
        refine k_X2_labelAt_s_ F hw e30 ⟨Nat.le_of_ble_eq_true rfl, Nat.le_of_ble_eq_true rfl⟩ ⟨Nat.zero_le _, Nat.zero_le _⟩ hl.1 (Nat.le_of_ble_eq_true rfl) dX2_spreadRuns_174 ?_
        refine W.lcmp hx hb dX2_spreadRuns_177 ?_
        refine lv_if_eq (tgt := 185) hx hb dX2_spreadRuns_178 rfl (fun c31 => ?_) (fun c31 => ?_)
        · replace h := itT h c31
          refine lv_iconst (v := 0) hx hb dX2_spreadRuns_185 rfl ?_
          refine lv_iadd hx hb dX2_spreadRuns_186 ?_
          refine lv_istore (lv' := [(9, .int (x9 + 0)), (0, .ref (ad 0)), (1, .int x1), (4, .int x4), (5, .long x5), (7, .int x7), (8, .int x8), (10, .int x10), (11, .long x11), (13, .long x13)]) hx hb dX2_spreadRuns_187 hl (by decide) rfl (fun ls hl => ?_)
          refine lv_iinc (v := (x8 + 1)) (lv' := [(8, .int (x8 + 1)), (9, .int (x9 + 0)), (0, .ref (ad 0)), (1, .int x1), (4, .int x4), (5, .long x5), (7, .int x7), (10, .int x10), (11, .long x11), (13, .long x13)]) hx hb dX2_spreadRuns_189 hl (k := 6) rfl rfl (by decide) rfl (fun ls hl => ?_)
          refine lv_goto (tgt := 136) hx hb dX2_spreadRuns_192 rfl ?_
          exact ih _ _ _ _ _ _ _ _ _ _ _ _ _ hw (lv_sub hl [2, 3, 4, 5, 6, 0, 1, 7, 8, 9] rfl) h
        · replace h := itF h c31
          refine lv_iconst (v := 1) hx hb dX2_spreadRuns_181 rfl ?_
          refine lv_goto (tgt := 186) hx hb dX2_spreadRuns_182 rfl ?_
          refine lv_iadd hx hb dX2_spreadRuns_186 ?_
          refine lv_istore (lv' := [(9, .int (x9 + 1)), (0, .ref (ad 0)), (1, .int x1), (4, .int x4), (5, .long x5), (7, .int x7), (8, .int x8), (10, .int x10), (11, .long x11), (13, .long x13)]) hx hb dX2_spreadRuns_187 hl (by decide) rfl (fun ls hl => ?_)
          refine lv_iinc (v := (x8 + 1)) (lv' := [(8, .int (x8 + 1)), (9, .int (x9 + 1)), (0, .ref (ad 0)), (1, .int x1), (4, .int x4), (5, .long x5), (7, .int x7), (10, .int x10), (11, .long x11), (13, .long x13)]) hx hb dX2_spreadRuns_189 hl (k := 6) rfl rfl (by decide) rfl (fun ls hl => ?_)
          refine lv_goto (tgt := 136) hx hb dX2_spreadRuns_192 rfl ?_
          exact ih _ _ _ _ _ _ _ _ _ _ _ _ _ hw (lv_sub hl [2, 3, 4, 5, 6, 0, 1, 7, 8, 9] rfl) h
set_option maxHeartbeats 4000000 in
set_option maxRecDepth 100000 in
theorem w_X2_spreadRuns_75 (F : FX p m c cX2_spreadRuns 15 s args yX2_spreadRuns (some .boolean) RX2 meth) {z : Int32 × SS} (k_49 : Int32 → Int32 → Int64 → Int32 → Int32 → Int32 → Int32 → SS → Option (Int32 × SS)) (hk_49 : ∀ (x1 : Int32) (x4 : Int32) (x5 : Int64) (x7 : Int32) (x8 : Int32) (x9 : Int32) (x10 : Int32) (u : SS) (H : Heap) (locs : List Loc) (ls : Array Slot), WD G A s (sw G ad u) H locs → lv_has ls 15 [(0, .ref (ad 0)), (1, .int x1), (4, .int x4), (5, .long x5), (7, .int x7), (8, .int x8), (9, .int x9), (10, .int x10)] → k_49 x1 x4 x5 x7 x8 x9 x10 u = some z → W p l e rmX2_spreadRuns s m args below meth c H locs 0 0 (MQ below (QW G (sw G ad z.2) A (some (.int z.1))) args s 0 0 A) (F0 m 49 ls [])) : ∀ (n : Nat) (x1 : Int32) (x4 : Int32) (x5 : Int64) (x7 : Int32) (x8 : Int32) (x9 : Int32) (x10 : Int32) (x11 : Int64) (x13 : Int64) (u : SS) (H : Heap) (locs : List Loc) (ls : Array Slot), WD G A s (sw G ad u) H locs → lv_has ls 15 [(0, .ref (ad 0)), (1, .int x1), (4, .int x4), (5, .long x5), (7, .int x7), (8, .int x8), (9, .int x9), (10, .int x10), (11, .long x11), (13, .long x13)] → f_X2_spreadRuns_75 k_49 n x1 x4 x5 x7 x8 x9 x10 x11 x13 u = some z → W p l e rmX2_spreadRuns s m args below meth c H locs 0 0 (MQ below (QW G (sw G ad z.2) A (some (.int z.1))) args s 0 0 A) (F0 m 75 ls []) := by
  obtain ⟨⟨hx, hb, hml, hown, hts⟩, hr, hlocks⟩ := id F
  intro n
  induction n with
  | zero =>
    intro x1 x4 x5 x7 x8 x9 x10 x11 x13 u H locs ls hw hl h
    rw [f_X2_spreadRuns_75] at h
    cases h
  | succ n ih =>
    intro x1 x4 x5 x7 x8 x9 x10 x11 x13 u H locs ls hw hl h
    rw [f_X2_spreadRuns_75] at h
    refine lv_iload hx hb dX2_spreadRuns_75 (lv_at hl 4 rfl) ?_
    refine lv_aload_n hx hb dX2_spreadRuns_77 rfl (lv_at hl 0 rfl) ?_
    refine s_g0_0 F hw dX2_spreadRuns_78 ?_
    refine lv_iload_n hx hb dX2_spreadRuns_81 rfl (lv_at hl 1 rfl) ?_
    obtain ⟨z10, e11, h⟩ := bnd h
    refine k_X1_first_s_ F hw e11 ⟨Nat.le_of_ble_eq_true rfl, Nat.le_of_ble_eq_true rfl⟩ ⟨Nat.zero_le _, Nat.zero_le _⟩ hl.1 (Nat.le_of_ble_eq_true rfl) dX2_spreadRuns_82 ?_
    refine lv_icmp_le (tgt := 136) hx hb dX2_spreadRuns_85 rfl (fun c12 => ?_) (fun c12 => ?_)
    · replace h := itT h c12
      exact w_X2_spreadRuns_136 F k_49 hk_49 NF _ _ _ _ _ _ _ _ _ _ _ _ _ hw (lv_sub hl [0, 1, 2, 3, 4, 5, 6, 7, 8, 9] rfl) h
    · replace h := itF h c12
      refine lv_aload_n hx hb dX2_spreadRuns_88 rfl (lv_at hl 0 rfl) ?_
      refine lv_iload hx hb dX2_spreadRuns_89 (lv_at hl 4 rfl) ?_
      refine lv_iconst (v := 1) hx hb dX2_spreadRuns_91 rfl ?_
      refine lv_isub hx hb dX2_spreadRuns_92 ?_
      obtain ⟨z13, e14, h⟩ := bnd h
      refine k_X2_labelAt_s_ F hw e14 ⟨Nat.le_of_ble_eq_true rfl, Nat.le_of_ble_eq_true rfl⟩ ⟨Nat.zero_le _, Nat.zero_le _⟩ hl.1 (Nat.le_of_ble_eq_true rfl) dX2_spreadRuns_93 ?_
      refine lv_lload hx hb dX2_spreadRuns_96 (lv_at hl 8 rfl) ?_
      refine W.lcmp hx hb dX2_spreadRuns_98 ?_
      refine lv_if_lt (tgt := 136) hx hb dX2_spreadRuns_99 rfl (fun c15 => ?_) (fun c15 => ?_)
      · replace h := itT h c15
        exact w_X2_spreadRuns_136 F k_49 hk_49 NF _ _ _ _ _ _ _ _ _ _ _ _ _ hw (lv_sub hl [0, 1, 2, 3, 4, 5, 6, 7, 8, 9] rfl) h
      · replace h := itF h c15
        refine lv_iinc (v := (x7 + (-1))) (lv' := [(7, .int (x7 + (-1))), (0, .ref (ad 0)), (1, .int x1), (4, .int x4), (5, .long x5), (8, .int x8), (9, .int x9), (10, .int x10), (11, .long x11), (13, .long x13)]) hx hb dX2_spreadRuns_102 hl (k := 4) rfl rfl (by decide) rfl (fun ls hl => ?_)
        refine lv_iload hx hb dX2_spreadRuns_105 (lv_at hl 6 rfl) ?_
        refine lv_aload_n hx hb dX2_spreadRuns_107 rfl (lv_at hl 1 rfl) ?_
        refine lv_iload hx hb dX2_spreadRuns_108 (lv_at hl 0 rfl) ?_
        obtain ⟨z16, e17, h⟩ := bnd h
        refine k_X2_labelAt_s_ F hw e17 ⟨Nat.le_of_ble_eq_true rfl, Nat.le_of_ble_eq_true rfl⟩ ⟨Nat.zero_le _, Nat.zero_le _⟩ hl.1 (Nat.le_of_ble_eq_true rfl) dX2_spreadRuns_110 ?_
        refine lv_aload_n hx hb dX2_spreadRuns_113 rfl (lv_at hl 1 rfl) ?_
        refine lv_iload hx hb dX2_spreadRuns_114 (lv_at hl 0 rfl) ?_
        refine lv_iconst (v := 1) hx hb dX2_spreadRuns_116 rfl ?_
        refine lv_iadd hx hb dX2_spreadRuns_117 ?_
        obtain ⟨z18, e19, h⟩ := bnd h
        refine k_X2_labelAt_s_ F hw e19 ⟨Nat.le_of_ble_eq_true rfl, Nat.le_of_ble_eq_true rfl⟩ ⟨Nat.zero_le _, Nat.zero_le _⟩ hl.1 (Nat.le_of_ble_eq_true rfl) dX2_spreadRuns_118 ?_
        refine W.lcmp hx hb dX2_spreadRuns_121 ?_
        refine lv_if_eq (tgt := 129) hx hb dX2_spreadRuns_122 rfl (fun c20 => ?_) (fun c20 => ?_)
        · replace h := itT h c20
          refine lv_iconst (v := 0) hx hb dX2_spreadRuns_129 rfl ?_
          refine lv_iadd hx hb dX2_spreadRuns_130 ?_
          refine lv_istore (lv' := [(9, .int (x9 + 0)), (7, .int (x7 + (-1))), (0, .ref (ad 0)), (1, .int x1), (4, .int x4), (5, .long x5), (8, .int x8), (10, .int x10), (11, .long x11), (13, .long x13)]) hx hb dX2_spreadRuns_131 hl (by decide) rfl (fun ls hl => ?_)
          refine lv_goto (tgt := 75) hx hb dX2_spreadRuns_133 rfl ?_
          exact ih _ _ _ _ _ _ _ _ _ _ _ _ _ hw (lv_sub hl [2, 3, 4, 5, 1, 6, 0, 7, 8, 9] rfl) h
        · replace h := itF h c20
          refine lv_iconst (v := 1) hx hb dX2_spreadRuns_125 rfl ?_
          refine lv_goto (tgt := 130) hx hb dX2_spreadRuns_126 rfl ?_
          refine lv_iadd hx hb dX2_spreadRuns_130 ?_
          refine lv_istore (lv' := [(9, .int (x9 + 1)), (7, .int (x7 + (-1))), (0, .ref (ad 0)), (1, .int x1), (4, .int x4), (5, .long x5), (8, .int x8), (10, .int x10), (11, .long x11), (13, .long x13)]) hx hb dX2_spreadRuns_131 hl (by decide) rfl (fun ls hl => ?_)
          refine lv_goto (tgt := 75) hx hb dX2_spreadRuns_133 rfl ?_
          exact ih _ _ _ _ _ _ _ _ _ _ _ _ _ hw (lv_sub hl [2, 3, 4, 5, 1, 6, 0, 7, 8, 9] rfl) h
set_option maxHeartbeats 4000000 in
set_option maxRecDepth 100000 in
theorem w_X2_spreadRuns_49 (F : FX p m c cX2_spreadRuns 15 s args yX2_spreadRuns (some .boolean) RX2 meth) {z : Int32 × SS} : ∀ (n : Nat) (x1 : Int32) (x4 : Int32) (x5 : Int64) (x7 : Int32) (x8 : Int32) (x9 : Int32) (x10 : Int32) (u : SS) (H : Heap) (locs : List Loc) (ls : Array Slot), WD G A s (sw G ad u) H locs → lv_has ls 15 [(0, .ref (ad 0)), (1, .int x1), (4, .int x4), (5, .long x5), (7, .int x7), (8, .int x8), (9, .int x9), (10, .int x10)] → f_X2_spreadRuns_49 n x1 x4 x5 x7 x8 x9 x10 u = some z → W p l e rmX2_spreadRuns s m args below meth c H locs 0 0 (MQ below (QW G (sw G ad z.2) A (some (.int z.1))) args s 0 0 A) (F0 m 49 ls []) := by
  obtain ⟨⟨hx, hb, hml, hown, hts⟩, hr, hlocks⟩ := id F
  intro n
  induction n with
  | zero =>
    intro x1 x4 x5 x7 x8 x9 x10 u H locs ls hw hl h
    rw [f_X2_spreadRuns_49] at h
    cases h
  | succ n ih =>
    intro x1 x4 x5 x7 x8 x9 x10 u H locs ls hw hl h
    rw [f_X2_spreadRuns_49] at h
    refine lv_iload hx hb dX2_spreadRuns_49 (lv_at hl 7 rfl) ?_
    refine lv_iload hx hb dX2_spreadRuns_51 (lv_at hl 2 rfl) ?_
    refine lv_icmp_gt (tgt := 246) hx hb dX2_spreadRuns_53 rfl (fun c9 => ?_) (fun c9 => ?_)
    · replace h := itT h c9
      refine lv_iconst (v := 0) hx hb dX2_spreadRuns_246 rfl ?_
      cases h
      exact retW_z F hw narrow_b0 dX2_spreadRuns_247
    · replace h := itF h c9
      refine lv_lload hx hb dX2_spreadRuns_56 (lv_at hl 3 rfl) ?_
      refine lv_iload hx hb dX2_spreadRuns_58 (lv_at hl 7 rfl) ?_
      refine lv_lshr hx hb dX2_spreadRuns_60 rfl ?_
      refine lv_iload hx hb dX2_spreadRuns_61 (lv_at hl 7 rfl) ?_
      refine lv_lshl hx hb dX2_spreadRuns_63 rfl ?_
      refine lv_lstore (lv' := [(11, .long ((x5 >>> (Int32.toInt64 x10 &&& 63)) <<< (Int32.toInt64 x10 &&& 63))), (0, .ref (ad 0)), (1, .int x1), (4, .int x4), (5, .long x5), (7, .int x7), (8, .int x8), (9, .int x9), (10, .int x10)]) hx hb dX2_spreadRuns_64 hl (by decide) rfl (fun ls hl => ?_)
      refine lv_lload hx hb dX2_spreadRuns_66 (lv_at hl 0 rfl) ?_
      refine lv_lconst (v := 1) hx hb dX2_spreadRuns_68 rfl ?_
      refine lv_iload hx hb dX2_spreadRuns_69 (lv_at hl 8 rfl) ?_
      refine lv_lshl hx hb dX2_spreadRuns_71 rfl ?_
      refine lv_ladd hx hb dX2_spreadRuns_72 ?_
      refine lv_lstore (lv' := [(13, .long (((x5 >>> (Int32.toInt64 x10 &&& 63)) <<< (Int32.toInt64 x10 &&& 63)) + ((1 : Int64) <<< (Int32.toInt64 x10 &&& 63)))), (11, .long ((x5 >>> (Int32.toInt64 x10 &&& 63)) <<< (Int32.toInt64 x10 &&& 63))), (0, .ref (ad 0)), (1, .int x1), (4, .int x4), (5, .long x5), (7, .int x7), (8, .int x8), (9, .int x9), (10, .int x10)]) hx hb dX2_spreadRuns_73 hl (by decide) rfl (fun ls hl => ?_)
      exact w_X2_spreadRuns_75 F (f_X2_spreadRuns_49 n) (fun x1 x4 x5 x7 x8 x9 x10 u H locs ls hw hl h => ih x1 x4 x5 x7 x8 x9 x10 u H locs ls hw hl h) NF _ _ _ _ _ _ _ _ _ _ _ _ _ hw (lv_sub hl [2, 3, 4, 5, 6, 7, 8, 9, 1, 0] rfl) h
set_option maxHeartbeats 4000000 in
set_option maxRecDepth 100000 in
theorem w_X2_spreadRuns_0 (F : FX p m c cX2_spreadRuns 15 s args yX2_spreadRuns (some .boolean) RX2 meth) {z : Int32 × SS} : ∀ (x1 : Int32) (x2 : Int32) (x3 : Int32) (u : SS) (H : Heap) (locs : List Loc) (ls : Array Slot), WD G A s (sw G ad u) H locs → lv_has ls 15 [(0, .ref (ad 0)), (1, .int x1), (2, .int x2), (3, .int x3)] → f_X2_spreadRuns x1 x2 x3 u = some z → W p l e rmX2_spreadRuns s m args below meth c H locs 0 0 (MQ below (QW G (sw G ad z.2) A (some (.int z.1))) args s 0 0 A) (F0 m 0 ls []) := by
  obtain ⟨⟨hx, hb, hml, hown, hts⟩, hr, hlocks⟩ := id F
  intro x1 x2 x3 u H locs ls hw hl h
  unfold f_X2_spreadRuns at h
  refine lv_aload_n hx hb dX2_spreadRuns_0 rfl (lv_at hl 0 rfl) ?_
  refine s_g0_3 F hw dX2_spreadRuns_1 ?_
  refine lv_iload_n hx hb dX2_spreadRuns_4 rfl (lv_at hl 1 rfl) ?_
  obtain ⟨g1, h⟩ := gd h
  refine s_l10 F hw g1 dX2_spreadRuns_5 ?_
  refine lv_istore (lv' := [(4, .int ((u.2.2.1 3) (Int32.toNatClampNeg x1))), (0, .ref (ad 0)), (1, .int x1), (2, .int x2), (3, .int x3)]) hx hb dX2_spreadRuns_6 hl (by decide) rfl (fun ls hl => ?_)
  refine lv_iload_n hx hb dX2_spreadRuns_8 rfl (lv_at hl 3 rfl) ?_
  refine lv_aload_n hx hb dX2_spreadRuns_9 rfl (lv_at hl 1 rfl) ?_
  refine s_g0_0 F hw dX2_spreadRuns_10 ?_
  refine lv_iload_n hx hb dX2_spreadRuns_13 rfl (lv_at hl 2 rfl) ?_
  obtain ⟨z2, e3, h⟩ := bnd h
  refine k_X1_first_s_ F hw e3 ⟨Nat.le_of_ble_eq_true rfl, Nat.le_of_ble_eq_true rfl⟩ ⟨Nat.zero_le _, Nat.zero_le _⟩ hl.1 (Nat.le_of_ble_eq_true rfl) dX2_spreadRuns_14 ?_
  refine lv_icmp_le (tgt := 30) hx hb dX2_spreadRuns_17 rfl (fun c4 => ?_) (fun c4 => ?_)
  · replace h := itT h c4
    refine lv_aload_n hx hb dX2_spreadRuns_30 rfl (lv_at hl 1 rfl) ?_
    refine lv_iload_n hx hb dX2_spreadRuns_31 rfl (lv_at hl 4 rfl) ?_
    obtain ⟨z5, e6, h⟩ := bnd h
    refine k_X2_labelAt_s_ F hw e6 ⟨Nat.le_of_ble_eq_true rfl, Nat.le_of_ble_eq_true rfl⟩ ⟨Nat.zero_le _, Nat.zero_le _⟩ hl.1 (Nat.le_of_ble_eq_true rfl) dX2_spreadRuns_32 ?_
    refine lv_lstore (lv' := [(5, .long z5), (4, .int ((u.2.2.1 3) (Int32.toNatClampNeg x1))), (0, .ref (ad 0)), (1, .int x1), (2, .int x2), (3, .int x3)]) hx hb dX2_spreadRuns_35 hl (by decide) rfl (fun ls hl => ?_)
    refine lv_iload_n hx hb dX2_spreadRuns_37 rfl (lv_at hl 4 rfl) ?_
    refine lv_istore (lv' := [(7, .int x2), (5, .long z5), (4, .int ((u.2.2.1 3) (Int32.toNatClampNeg x1))), (0, .ref (ad 0)), (1, .int x1), (2, .int x2), (3, .int x3)]) hx hb dX2_spreadRuns_38 hl (by decide) rfl (fun ls hl => ?_)
    refine lv_iload_n hx hb dX2_spreadRuns_40 rfl (lv_at hl 6 rfl) ?_
    refine lv_istore (lv' := [(8, .int x3), (7, .int x2), (5, .long z5), (4, .int ((u.2.2.1 3) (Int32.toNatClampNeg x1))), (0, .ref (ad 0)), (1, .int x1), (2, .int x2), (3, .int x3)]) hx hb dX2_spreadRuns_41 hl (by decide) rfl (fun ls hl => ?_)
    refine lv_iconst (v := 1) hx hb dX2_spreadRuns_43 rfl ?_
    refine lv_istore (lv' := [(9, .int 1), (8, .int x3), (7, .int x2), (5, .long z5), (4, .int ((u.2.2.1 3) (Int32.toNatClampNeg x1))), (0, .ref (ad 0)), (1, .int x1), (2, .int x2), (3, .int x3)]) hx hb dX2_spreadRuns_44 hl (by decide) rfl (fun ls hl => ?_)
    refine lv_iconst (v := 1) hx hb dX2_spreadRuns_46 rfl ?_
    refine lv_istore (lv' := [(10, .int 1), (9, .int 1), (8, .int x3), (7, .int x2), (5, .long z5), (4, .int ((u.2.2.1 3) (Int32.toNatClampNeg x1))), (0, .ref (ad 0)), (1, .int x1), (2, .int x2), (3, .int x3)]) hx hb dX2_spreadRuns_47 hl (by decide) rfl (fun ls hl => ?_)
    exact w_X2_spreadRuns_49 F NF _ _ _ _ _ _ _ _ _ _ _ hw (lv_sub hl [6, 7, 5, 4, 3, 2, 1, 0] rfl) h
  · replace h := itF h c4
    refine lv_aload_n hx hb dX2_spreadRuns_20 rfl (lv_at hl 1 rfl) ?_
    refine lv_iload_n hx hb dX2_spreadRuns_21 rfl (lv_at hl 3 rfl) ?_
    refine lv_iconst (v := 1) hx hb dX2_spreadRuns_22 rfl ?_
    refine lv_isub hx hb dX2_spreadRuns_23 ?_
    obtain ⟨z7, e8, h⟩ := bnd h
    refine k_X2_labelAt_s_ F hw e8 ⟨Nat.le_of_ble_eq_true rfl, Nat.le_of_ble_eq_true rfl⟩ ⟨Nat.zero_le _, Nat.zero_le _⟩ hl.1 (Nat.le_of_ble_eq_true rfl) dX2_spreadRuns_24 ?_
    refine lv_goto (tgt := 35) hx hb dX2_spreadRuns_27 rfl ?_
    refine lv_lstore (lv' := [(5, .long z7), (4, .int ((u.2.2.1 3) (Int32.toNatClampNeg x1))), (0, .ref (ad 0)), (1, .int x1), (2, .int x2), (3, .int x3)]) hx hb dX2_spreadRuns_35 hl (by decide) rfl (fun ls hl => ?_)
    refine lv_iload_n hx hb dX2_spreadRuns_37 rfl (lv_at hl 4 rfl) ?_
    refine lv_istore (lv' := [(7, .int x2), (5, .long z7), (4, .int ((u.2.2.1 3) (Int32.toNatClampNeg x1))), (0, .ref (ad 0)), (1, .int x1), (2, .int x2), (3, .int x3)]) hx hb dX2_spreadRuns_38 hl (by decide) rfl (fun ls hl => ?_)
    refine lv_iload_n hx hb dX2_spreadRuns_40 rfl (lv_at hl 6 rfl) ?_
    refine lv_istore (lv' := [(8, .int x3), (7, .int x2), (5, .long z7), (4, .int ((u.2.2.1 3) (Int32.toNatClampNeg x1))), (0, .ref (ad 0)), (1, .int x1), (2, .int x2), (3, .int x3)]) hx hb dX2_spreadRuns_41 hl (by decide) rfl (fun ls hl => ?_)
    refine lv_iconst (v := 1) hx hb dX2_spreadRuns_43 rfl ?_
    refine lv_istore (lv' := [(9, .int 1), (8, .int x3), (7, .int x2), (5, .long z7), (4, .int ((u.2.2.1 3) (Int32.toNatClampNeg x1))), (0, .ref (ad 0)), (1, .int x1), (2, .int x2), (3, .int x3)]) hx hb dX2_spreadRuns_44 hl (by decide) rfl (fun ls hl => ?_)
    refine lv_iconst (v := 1) hx hb dX2_spreadRuns_46 rfl ?_
    refine lv_istore (lv' := [(10, .int 1), (9, .int 1), (8, .int x3), (7, .int x2), (5, .long z7), (4, .int ((u.2.2.1 3) (Int32.toNatClampNeg x1))), (0, .ref (ad 0)), (1, .int x1), (2, .int x2), (3, .int x3)]) hx hb dX2_spreadRuns_47 hl (by decide) rfl (fun ls hl => ?_)
    exact w_X2_spreadRuns_49 F NF _ _ _ _ _ _ _ _ _ _ _ hw (lv_sub hl [6, 7, 5, 4, 3, 2, 1, 0] rfl) h
end
theorem c_X2_spreadRuns {l : Launch} {G : GX} {ad : Nat → Nat} {x1 : Int32} {x2 : Int32} {x3 : Int32} {u : SS} {z : Int32 × SS} (h : f_X2_spreadRuns x1 x2 x3 u = some z) : MW l yX2_spreadRuns cX2_spreadRuns 15 (some .boolean) rmX2_spreadRuns G (sw G ad u) (sw G ad z.2) [.ref (ad 0), .int x1, .int x2, .int x3] (some (.int z.1)) := MW.of (by decide) (Nat.le_of_ble_eq_true rfl) (fun p e s m below meth c ls F hw hl => w_X2_spreadRuns_0 F _ _ _ _ _ _ _ hw hl h)
/-! ===== X2_labelRun ===== -/
theorem dX2_labelRun_0 : decode cX2_labelRun 0 = .ok (.lconst 1, 1) := by decide +kernel
theorem dX2_labelRun_1 : decode cX2_labelRun 1 = .ok (.aload_n 0, 1) := by decide +kernel
theorem dX2_labelRun_2 : decode cX2_labelRun 2 = .ok (.getfield 29, 3) := by decide +kernel
theorem dX2_labelRun_5 : decode cX2_labelRun 5 = .ok (.iload_n 1, 1) := by decide +kernel
theorem dX2_labelRun_6 : decode cX2_labelRun 6 = .ok (.iaload, 1) := by decide +kernel
theorem dX2_labelRun_7 : decode cX2_labelRun 7 = .ok (.lshl, 1) := by decide +kernel
theorem dX2_labelRun_8 : decode cX2_labelRun 8 = .ok (.lstore 4, 2) := by decide +kernel
theorem dX2_labelRun_10 : decode cX2_labelRun 10 = .ok (.iload_n 2, 1) := by decide +kernel
theorem dX2_labelRun_11 : decode cX2_labelRun 11 = .ok (.aload_n 0, 1) := by decide +kernel
theorem dX2_labelRun_12 : decode cX2_labelRun 12 = .ok (.getfield 12, 3) := by decide +kernel
theorem dX2_labelRun_15 : decode cX2_labelRun 15 = .ok (.iload_n 1, 1) := by decide +kernel
theorem dX2_labelRun_16 : decode cX2_labelRun 16 = .ok (.invokevirtual 81, 3) := by decide +kernel
theorem dX2_labelRun_19 : decode cX2_labelRun 19 = .ok (.if_icmp .le 13, 3) := by decide +kernel
theorem dX2_labelRun_22 : decode cX2_labelRun 22 = .ok (.aload_n 0, 1) := by decide +kernel
theorem dX2_labelRun_23 : decode cX2_labelRun 23 = .ok (.iload_n 2, 1) := by decide +kernel
theorem dX2_labelRun_24 : decode cX2_labelRun 24 = .ok (.iconst 1, 1) := by decide +kernel
theorem dX2_labelRun_25 : decode cX2_labelRun 25 = .ok (.isub, 1) := by decide +kernel
theorem dX2_labelRun_26 : decode cX2_labelRun 26 = .ok (.invokevirtual 87, 3) := by decide +kernel
theorem dX2_labelRun_29 : decode cX2_labelRun 29 = .ok (.goto 6, 3) := by decide +kernel
theorem dX2_labelRun_32 : decode cX2_labelRun 32 = .ok (.ldc2_w 79, 3) := by decide +kernel
theorem dX2_labelRun_35 : decode cX2_labelRun 35 = .ok (.lstore 6, 2) := by decide +kernel
theorem dX2_labelRun_37 : decode cX2_labelRun 37 = .ok (.iload_n 3, 1) := by decide +kernel
theorem dX2_labelRun_38 : decode cX2_labelRun 38 = .ok (.aload_n 0, 1) := by decide +kernel
theorem dX2_labelRun_39 : decode cX2_labelRun 39 = .ok (.getfield 12, 3) := by decide +kernel
theorem dX2_labelRun_42 : decode cX2_labelRun 42 = .ok (.iload_n 1, 1) := by decide +kernel
theorem dX2_labelRun_43 : decode cX2_labelRun 43 = .ok (.invokevirtual 84, 3) := by decide +kernel
theorem dX2_labelRun_46 : decode cX2_labelRun 46 = .ok (.if_icmp .ge 11, 3) := by decide +kernel
theorem dX2_labelRun_49 : decode cX2_labelRun 49 = .ok (.aload_n 0, 1) := by decide +kernel
theorem dX2_labelRun_50 : decode cX2_labelRun 50 = .ok (.iload_n 3, 1) := by decide +kernel
theorem dX2_labelRun_51 : decode cX2_labelRun 51 = .ok (.invokevirtual 87, 3) := by decide +kernel
theorem dX2_labelRun_54 : decode cX2_labelRun 54 = .ok (.goto 5, 3) := by decide +kernel
theorem dX2_labelRun_57 : decode cX2_labelRun 57 = .ok (.lload 4, 2) := by decide +kernel
theorem dX2_labelRun_59 : decode cX2_labelRun 59 = .ok (.lstore 8, 2) := by decide +kernel
theorem dX2_labelRun_61 : decode cX2_labelRun 61 = .ok (.lload 8, 2) := by decide +kernel
theorem dX2_labelRun_63 : decode cX2_labelRun 63 = .ok (.lload 6, 2) := by decide +kernel
theorem dX2_labelRun_65 : decode cX2_labelRun 65 = .ok (.lsub, 1) := by decide +kernel
theorem dX2_labelRun_66 : decode cX2_labelRun 66 = .ok (.ldc2_w 189, 3) := by decide +kernel
theorem dX2_labelRun_69 : decode cX2_labelRun 69 = .ok (.lcmp, 1) := by decide +kernel
theorem dX2_labelRun_70 : decode cX2_labelRun 70 = .ok (.ifCond .lt 35, 3) := by decide +kernel
theorem dX2_labelRun_73 : decode cX2_labelRun 73 = .ok (.iload_n 2, 1) := by decide +kernel
theorem dX2_labelRun_74 : decode cX2_labelRun 74 = .ok (.istore 10, 2) := by decide +kernel
theorem dX2_labelRun_76 : decode cX2_labelRun 76 = .ok (.iload 10, 2) := by decide +kernel
theorem dX2_labelRun_78 : decode cX2_labelRun 78 = .ok (.iload_n 3, 1) := by decide +kernel
theorem dX2_labelRun_79 : decode cX2_labelRun 79 = .ok (.if_icmp .ge 24, 3) := by decide +kernel
theorem dX2_labelRun_82 : decode cX2_labelRun 82 = .ok (.aload_n 0, 1) := by decide +kernel
theorem dX2_labelRun_83 : decode cX2_labelRun 83 = .ok (.iload 10, 2) := by decide +kernel
theorem dX2_labelRun_85 : decode cX2_labelRun 85 = .ok (.lload 6, 2) := by decide +kernel
theorem dX2_labelRun_87 : decode cX2_labelRun 87 = .ok (.lload 8, 2) := by decide +kernel
theorem dX2_labelRun_89 : decode cX2_labelRun 89 = .ok (.ladd, 1) := by decide +kernel
theorem dX2_labelRun_90 : decode cX2_labelRun 90 = .ok (.ldc2_w 189, 3) := by decide +kernel
theorem dX2_labelRun_93 : decode cX2_labelRun 93 = .ok (.ldiv, 1) := by decide +kernel
theorem dX2_labelRun_94 : decode cX2_labelRun 94 = .ok (.invokevirtual 176, 3) := by decide +kernel
theorem dX2_labelRun_97 : decode cX2_labelRun 97 = .ok (.iinc 10 1, 3) := by decide +kernel
theorem dX2_labelRun_100 : decode cX2_labelRun 100 = .ok (.goto (-24), 3) := by decide +kernel
theorem dX2_labelRun_103 : decode cX2_labelRun 103 = .ok (.iconst 1, 1) := by decide +kernel
theorem dX2_labelRun_104 : decode cX2_labelRun 104 = .ok (.ireturn, 1) := by decide +kernel
theorem dX2_labelRun_105 : decode cX2_labelRun 105 = .ok (.aload_n 0, 1) := by decide +kernel
theorem dX2_labelRun_106 : decode cX2_labelRun 106 = .ok (.getfield 25, 3) := by decide +kernel
theorem dX2_labelRun_109 : decode cX2_labelRun 109 = .ok (.iload_n 1, 1) := by decide +kernel
theorem dX2_labelRun_110 : decode cX2_labelRun 110 = .ok (.iaload, 1) := by decide +kernel
theorem dX2_labelRun_111 : decode cX2_labelRun 111 = .ok (.ifCond .eq 11, 3) := by decide +kernel
theorem dX2_labelRun_114 : decode cX2_labelRun 114 = .ok (.aload_n 0, 1) := by decide +kernel
theorem dX2_labelRun_115 : decode cX2_labelRun 115 = .ok (.iload_n 1, 1) := by decide +kernel
theorem dX2_labelRun_116 : decode cX2_labelRun 116 = .ok (.iload_n 2, 1) := by decide +kernel
theorem dX2_labelRun_117 : decode cX2_labelRun 117 = .ok (.iload_n 3, 1) := by decide +kernel
theorem dX2_labelRun_118 : decode cX2_labelRun 118 = .ok (.invokevirtual 191, 3) := by decide +kernel
theorem dX2_labelRun_121 : decode cX2_labelRun 121 = .ok (.ireturn, 1) := by decide +kernel
theorem dX2_labelRun_122 : decode cX2_labelRun 122 = .ok (.aload_n 0, 1) := by decide +kernel
theorem dX2_labelRun_123 : decode cX2_labelRun 123 = .ok (.getfield 12, 3) := by decide +kernel
theorem dX2_labelRun_126 : decode cX2_labelRun 126 = .ok (.iload_n 1, 1) := by decide +kernel
theorem dX2_labelRun_127 : decode cX2_labelRun 127 = .ok (.invokevirtual 69, 3) := by decide +kernel
theorem dX2_labelRun_130 : decode cX2_labelRun 130 = .ok (.i2l, 1) := by decide +kernel
theorem dX2_labelRun_131 : decode cX2_labelRun 131 = .ok (.lload 4, 2) := by decide +kernel
theorem dX2_labelRun_133 : decode cX2_labelRun 133 = .ok (.lcmp, 1) := by decide +kernel
theorem dX2_labelRun_134 : decode cX2_labelRun 134 = .ok (.ifCond .le 5, 3) := by decide +kernel
theorem dX2_labelRun_137 : decode cX2_labelRun 137 = .ok (.iconst 0, 1) := by decide +kernel
theorem dX2_labelRun_138 : decode cX2_labelRun 138 = .ok (.ireturn, 1) := by decide +kernel
theorem dX2_labelRun_139 : decode cX2_labelRun 139 = .ok (.aload_n 0, 1) := by decide +kernel
theorem dX2_labelRun_140 : decode cX2_labelRun 140 = .ok (.iload_n 1, 1) := by decide +kernel
theorem dX2_labelRun_141 : decode cX2_labelRun 141 = .ok (.aload_n 0, 1) := by decide +kernel
theorem dX2_labelRun_142 : decode cX2_labelRun 142 = .ok (.getfield 12, 3) := by decide +kernel
theorem dX2_labelRun_145 : decode cX2_labelRun 145 = .ok (.iload_n 1, 1) := by decide +kernel
theorem dX2_labelRun_146 : decode cX2_labelRun 146 = .ok (.invokevirtual 81, 3) := by decide +kernel
theorem dX2_labelRun_149 : decode cX2_labelRun 149 = .ok (.aload_n 0, 1) := by decide +kernel
theorem dX2_labelRun_150 : decode cX2_labelRun 150 = .ok (.getfield 12, 3) := by decide +kernel
theorem dX2_labelRun_153 : decode cX2_labelRun 153 = .ok (.iload_n 1, 1) := by decide +kernel
theorem dX2_labelRun_154 : decode cX2_labelRun 154 = .ok (.invokevirtual 84, 3) := by decide +kernel
theorem dX2_labelRun_157 : decode cX2_labelRun 157 = .ok (.lconst 0, 1) := by decide +kernel
theorem dX2_labelRun_158 : decode cX2_labelRun 158 = .ok (.aload_n 0, 1) := by decide +kernel
theorem dX2_labelRun_159 : decode cX2_labelRun 159 = .ok (.getfield 29, 3) := by decide +kernel
theorem dX2_labelRun_162 : decode cX2_labelRun 162 = .ok (.iload_n 1, 1) := by decide +kernel
theorem dX2_labelRun_163 : decode cX2_labelRun 163 = .ok (.iaload, 1) := by decide +kernel
theorem dX2_labelRun_164 : decode cX2_labelRun 164 = .ok (.aload_n 0, 1) := by decide +kernel
theorem dX2_labelRun_165 : decode cX2_labelRun 165 = .ok (.getfield 12, 3) := by decide +kernel
theorem dX2_labelRun_168 : decode cX2_labelRun 168 = .ok (.iload_n 1, 1) := by decide +kernel
theorem dX2_labelRun_169 : decode cX2_labelRun 169 = .ok (.invokevirtual 69, 3) := by decide +kernel
theorem dX2_labelRun_172 : decode cX2_labelRun 172 = .ok (.invokevirtual 194, 3) := by decide +kernel
theorem dX2_labelRun_175 : decode cX2_labelRun 175 = .ok (.iconst 1, 1) := by decide +kernel
theorem dX2_labelRun_176 : decode cX2_labelRun 176 = .ok (.ireturn, 1) := by decide +kernel
theorem yv_X2_spreadRuns_X2 : YV RX2 191 yX2_spreadRuns cX2_spreadRuns 15 (some .boolean) 3 := ⟨(tw 263 (by decide +kernel) rfl), (tw 2 (by decide +kernel) rfl), (tw 260 (by decide +kernel) rfl), (tw 261 (by decide +kernel) rfl), (tw 262 (by decide +kernel) rfl), by decide +kernel⟩
theorem k_X2_spreadRuns_s_ {p : Program} {l : Launch} {e : Env} {R : Room} {s : State} {m : MethodId} {args : Array Value} {below : List Frame} {meth : Method} {c : Code} {H : Heap} {locs : List Loc} {cells slots : Nat} {Q : State → Prop} {G : GX} {A : Nat → Prop} {ad : Nat → Nat} {u : SS} {cc : ByteArray} {nL pc : Nat} {y : MethodName} {ret : Option FieldType} {ls : Array Slot} {rest : List Value} {x1 : Int32} {x2 : Int32} {x3 : Int32} {z : Int32 × SS} (F : FX p m c cc nL s args y ret RX2 meth) (hw : WD G A s (sw G ad u) H locs) (h : f_X2_spreadRuns x1 x2 x3 u = some z) (hR : rmX2_spreadRuns.frames + 1 ≤ R.frames ∧ 8 + (15 + 11) + rmX2_spreadRuns.locals ≤ R.locals) (hcs : cells ≤ R.cells ∧ slots ≤ R.slots) (hsz : ls.size = nL) (hW : (rest.map fun v => v.category).sum ≤ 8) (hdg : decode cc pc = .ok (.invokevirtual 191, 3)) (kk : ∀ (H : Heap) (locs : List Loc), WD G A s (sw G ad z.2) H locs → W p l e R s m args below meth c H locs cells slots Q (F0 m (pc + 3) ls (.int z.1 :: rest))) : W p l e R s m args below meth c H locs cells slots Q (F0 m pc ls (.int x3 :: .int x2 :: .int x1 :: .ref (ad 0) :: rest)) := callW (runV F yv_X2_spreadRuns_X2 (c_X2_spreadRuns h) hw.1 hw.2.1 hw.2.2.1 rfl rfl rfl ⟨rfl, rfl⟩ hR hcs rfl hsz rfl hW hdg) hw.2.2.2 hw.2.2.1.own_in (fun H1 l1 hP _ hS => kk H1 l1 ⟨hw.1, hP, hw.2.2.1.addr rfl, hS⟩)
def rmX2_labelRun : Room := { frames := 3, cells := 0, slots := 0, locals := 89 }
noncomputable def f_X2_labelRun_76 : Nat → Int32 → Int64 → Int64 → Int32 → SS → Option (Int32 × SS)
  | 0, _, _, _, _, _ => none
  | n + 1, x3, x6, x8, x10, u => (if x3 ≤ x10 then some (1, u) else (f_X2_setLabel x10 ((x6 + x8) / 2) u).bind (fun z36 => f_X2_labelRun_76 n x3 x6 x8 (x10 + 1) z36))
noncomputable def f_X2_labelRun_59 (x1 : Int32) (x2 : Int32) (x3 : Int32) (x4 : Int64) (x6 : Int64) (t0 : Int64) (u : SS) : Option (Int32 × SS) := (if (lg_cmp (t0 - x6) 2) < 0 then (if ix x1 8 = true then (if ((u.2.2.1 2) (Int32.toNatClampNeg x1)) = 0 then (f_X1_length x1 u.1).bind (fun z20 => (if (lg_cmp (Int32.toInt64 z20) x4) ≤ 0 then (f_X1_first x1 u.1).bind (fun z23 => (f_X1_end x1 u.1).bind (fun z25 => (if ix x1 8 = true then (f_X1_length x1 u.1).bind (fun z28 => (f_X2_dealLabels x1 z23 z25 0 ((u.2.2.1 3) (Int32.toNatClampNeg x1)) z28 u).bind (fun z30 => some (1, z30))) else none))) else some (0, u))) else (f_X2_spreadRuns x1 x2 x3 u).bind (fun z32 => (if zb z32.1 = true then some (z32.1, z32.2) else none))) else none) else f_X2_labelRun_76 NF x3 x6 t0 x2 u)
noncomputable def f_X2_labelRun (x1 : Int32) (x2 : Int32) (x3 : Int32) (u : SS) : Option (Int32 × SS) := (if ix x1 8 = true then (f_X1_first x1 u.1).bind (fun z2 => (if x2 ≤ z2 then (f_X1_end x1 u.1).bind (fun z5 => (if z5 ≤ x3 then f_X2_labelRun_59 x1 x2 x3 ((1 : Int64) <<< (Int32.toInt64 ((u.2.2.1 3) (Int32.toNatClampNeg x1)) &&& 63)) (-1) ((1 : Int64) <<< (Int32.toInt64 ((u.2.2.1 3) (Int32.toNatClampNeg x1)) &&& 63)) u else (f_X2_labelAt x3 u).bind (fun z8 => f_X2_labelRun_59 x1 x2 x3 ((1 : Int64) <<< (Int32.toInt64 ((u.2.2.1 3) (Int32.toNatClampNeg x1)) &&& 63)) (-1) z8 u))) else (f_X2_labelAt (x2 - 1) u).bind (fun z10 => (f_X1_end x1 u.1).bind (fun z12 => (if z12 ≤ x3 then f_X2_labelRun_59 x1 x2 x3 ((1 : Int64) <<< (Int32.toInt64 ((u.2.2.1 3) (Int32.toNatClampNeg x1)) &&& 63)) z10 ((1 : Int64) <<< (Int32.toInt64 ((u.2.2.1 3) (Int32.toNatClampNeg x1)) &&& 63)) u else (f_X2_labelAt x3 u).bind (fun z15 => f_X2_labelRun_59 x1 x2 x3 ((1 : Int64) <<< (Int32.toInt64 ((u.2.2.1 3) (Int32.toNatClampNeg x1)) &&& 63)) z10 z15 u)))))) else none)
section
variable {p : Program} {l : Launch} {e : Env} {s : State} {m : MethodId} {args : Array Value} {below : List Frame} {meth : Method} {c : Code}
variable {G : GX} {A : Nat → Prop} {ad : Nat → Nat} 
set_option maxHeartbeats 4000000 in
set_option maxRecDepth 100000 in
theorem w_X2_labelRun_76 (F : FX p m c cX2_labelRun 11 s args yX2_labelRun (some .boolean) RX2 meth) {z : Int32 × SS} : ∀ (n : Nat) (x3 : Int32) (x6 : Int64) (x8 : Int64) (x10 : Int32) (u : SS) (H : Heap) (locs : List Loc) (ls : Array Slot), WD G A s (sw G ad u) H locs → lv_has ls 11 [(0, .ref (ad 0)), (3, .int x3), (6, .long x6), (8, .long x8), (10, .int x10)] → f_X2_labelRun_76 n x3 x6 x8 x10 u = some z → W p l e rmX2_labelRun s m args below meth c H locs 0 0 (MQ below (QW G (sw G ad z.2) A (some (.int z.1))) args s 0 0 A) (F0 m 76 ls []) := by
  obtain ⟨⟨hx, hb, hml, hown, hts⟩, hr, hlocks⟩ := id F
  intro n
  induction n with
  | zero =>
    intro x3 x6 x8 x10 u H locs ls hw hl h
    rw [f_X2_labelRun_76] at h
    cases h
  | succ n ih =>
    intro x3 x6 x8 x10 u H locs ls hw hl h
    rw [f_X2_labelRun_76] at h
    refine lv_iload hx hb dX2_labelRun_76 (lv_at hl 4 rfl) ?_
    refine lv_iload_n hx hb dX2_labelRun_78 rfl (lv_at hl 1 rfl) ?_
    refine lv_icmp_ge (tgt := 103) hx hb dX2_labelRun_79 rfl (fun c35 => ?_) (fun c35 => ?_)
    · replace h := itT h c35
      refine lv_iconst (v := 1) hx hb dX2_labelRun_103 rfl ?_
      cases h
      exact retW_z F hw narrow_b1 dX2_labelRun_104
    · replace h := itF h c35
      refine lv_aload_n hx hb dX2_labelRun_82 rfl (lv_at hl 0 rfl) ?_
      refine lv_iload hx hb dX2_labelRun_83 (lv_at hl 4 rfl) ?_
      refine lv_lload hx hb dX2_labelRun_85 (lv_at hl 2 rfl) ?_
      refine lv_lload hx hb dX2_labelRun_87 (lv_at hl 3 rfl) ?_
      refine lv_ladd hx hb dX2_labelRun_89 ?_
      refine lv_ldc2 (own := RX2) (v := 2) hx hb hown (F.tb (tw 255 (by decide +kernel) rfl)) dX2_labelRun_90 ?_
      refine lv_ldiv hx hb dX2_labelRun_93 (by decide) ?_
      obtain ⟨z36, e37, h⟩ := bnd h
      refine k_X2_setLabel_s_ F hw e37 ⟨Nat.le_of_ble_eq_true rfl, Nat.le_of_ble_eq_true rfl⟩ ⟨Nat.zero_le _, Nat.zero_le _⟩ hl.1 (Nat.le_of_ble_eq_true rfl) dX2_labelRun_94 (fun H locs hw => ?_)
      refine lv_iinc (v := (x10 + 1)) (lv' := [(10, .int (x10 + 1)), (0, .ref (ad 0)), (3, .int x3), (6, .long x6), (8, .long x8)]) hx hb dX2_labelRun_97 hl (k := 4) rfl rfl (by decide) rfl (fun ls hl => ?_)
      refine lv_goto (tgt := 76) hx hb dX2_labelRun_100 rfl ?_
      exact ih _ _ _ _ _ _ _ _ hw (lv_sub hl [1, 2, 3, 4, 0] rfl) h
set_option maxHeartbeats 4000000 in
set_option maxRecDepth 100000 in
theorem w_X2_labelRun_59 (F : FX p m c cX2_labelRun 11 s args yX2_labelRun (some .boolean) RX2 meth) {z : Int32 × SS} : ∀ (x1 : Int32) (x2 : Int32) (x3 : Int32) (x4 : Int64) (x6 : Int64) (t0 : Int64) (u : SS) (H : Heap) (locs : List Loc) (ls : Array Slot), WD G A s (sw G ad u) H locs → lv_has ls 11 [(0, .ref (ad 0)), (1, .int x1), (2, .int x2), (3, .int x3), (4, .long x4), (6, .long x6)] → f_X2_labelRun_59 x1 x2 x3 x4 x6 t0 u = some z → W p l e rmX2_labelRun s m args below meth c H locs 0 0 (MQ below (QW G (sw G ad z.2) A (some (.int z.1))) args s 0 0 A) (F0 m 59 ls [.long t0]) := by
  obtain ⟨⟨hx, hb, hml, hown, hts⟩, hr, hlocks⟩ := id F
  intro x1 x2 x3 x4 x6 t0 u H locs ls hw hl h
  unfold f_X2_labelRun_59 at h
  refine lv_lstore (lv' := [(8, .long t0), (0, .ref (ad 0)), (1, .int x1), (2, .int x2), (3, .int x3), (4, .long x4), (6, .long x6)]) hx hb dX2_labelRun_59 hl (by decide) rfl (fun ls hl => ?_)
  refine lv_lload hx hb dX2_labelRun_61 (lv_at hl 0 rfl) ?_
  refine lv_lload hx hb dX2_labelRun_63 (lv_at hl 6 rfl) ?_
  refine lv_lsub hx hb dX2_labelRun_65 ?_
  refine lv_ldc2 (own := RX2) (v := 2) hx hb hown (F.tb (tw 255 (by decide +kernel) rfl)) dX2_labelRun_66 ?_
  refine W.lcmp hx hb dX2_labelRun_69 ?_
  refine lv_if_lt (tgt := 105) hx hb dX2_labelRun_70 rfl (fun c17 => ?_) (fun c17 => ?_)
  · replace h := itT h c17
    refine lv_aload_n hx hb dX2_labelRun_105 rfl (lv_at hl 1 rfl) ?_
    refine s_g0_2 F hw dX2_labelRun_106 ?_
    refine lv_iload_n hx hb dX2_labelRun_109 rfl (lv_at hl 2 rfl) ?_
    obtain ⟨g18, h⟩ := gd h
    refine s_l9 F hw g18 dX2_labelRun_110 ?_
    refine lv_if_eq (tgt := 122) hx hb dX2_labelRun_111 rfl (fun c19 => ?_) (fun c19 => ?_)
    · replace h := itT h c19
      refine lv_aload_n hx hb dX2_labelRun_122 rfl (lv_at hl 1 rfl) ?_
      refine s_g0_0 F hw dX2_labelRun_123 ?_
      refine lv_iload_n hx hb dX2_labelRun_126 rfl (lv_at hl 2 rfl) ?_
      obtain ⟨z20, e21, h⟩ := bnd h
      refine k_X1_length_s_ F hw e21 ⟨Nat.le_of_ble_eq_true rfl, Nat.le_of_ble_eq_true rfl⟩ ⟨Nat.zero_le _, Nat.zero_le _⟩ hl.1 (Nat.le_of_ble_eq_true rfl) dX2_labelRun_127 ?_
      refine lv_i2l hx hb dX2_labelRun_130 rfl ?_
      refine lv_lload hx hb dX2_labelRun_131 (lv_at hl 5 rfl) ?_
      refine W.lcmp hx hb dX2_labelRun_133 ?_
      refine lv_if_le (tgt := 139) hx hb dX2_labelRun_134 rfl (fun c22 => ?_) (fun c22 => ?_)
      · replace h := itT h c22
        refine lv_aload_n hx hb dX2_labelRun_139 rfl (lv_at hl 1 rfl) ?_
        refine lv_iload_n hx hb dX2_labelRun_140 rfl (lv_at hl 2 rfl) ?_
        refine lv_aload_n hx hb dX2_labelRun_141 rfl (lv_at hl 1 rfl) ?_
        refine s_g0_0 F hw dX2_labelRun_142 ?_
        refine lv_iload_n hx hb dX2_labelRun_145 rfl (lv_at hl 2 rfl) ?_
        obtain ⟨z23, e24, h⟩ := bnd h
        refine k_X1_first_s_ F hw e24 ⟨Nat.le_of_ble_eq_true rfl, Nat.le_of_ble_eq_true rfl⟩ ⟨Nat.zero_le _, Nat.zero_le _⟩ hl.1 (Nat.le_of_ble_eq_true rfl) dX2_labelRun_146 ?_
        refine lv_aload_n hx hb dX2_labelRun_149 rfl (lv_at hl 1 rfl) ?_
        refine s_g0_0 F hw dX2_labelRun_150 ?_
        refine lv_iload_n hx hb dX2_labelRun_153 rfl (lv_at hl 2 rfl) ?_
        obtain ⟨z25, e26, h⟩ := bnd h
        refine k_X1_end_s_ F hw e26 ⟨Nat.le_of_ble_eq_true rfl, Nat.le_of_ble_eq_true rfl⟩ ⟨Nat.zero_le _, Nat.zero_le _⟩ hl.1 (Nat.le_of_ble_eq_true rfl) dX2_labelRun_154 ?_
        refine lv_lconst (v := 0) hx hb dX2_labelRun_157 rfl ?_
        refine lv_aload_n hx hb dX2_labelRun_158 rfl (lv_at hl 1 rfl) ?_
        refine s_g0_3 F hw dX2_labelRun_159 ?_
        refine lv_iload_n hx hb dX2_labelRun_162 rfl (lv_at hl 2 rfl) ?_
        obtain ⟨g27, h⟩ := gd h
        refine s_l10 F hw g27 dX2_labelRun_163 ?_
        refine lv_aload_n hx hb dX2_labelRun_164 rfl (lv_at hl 1 rfl) ?_
        refine s_g0_0 F hw dX2_labelRun_165 ?_
        refine lv_iload_n hx hb dX2_labelRun_168 rfl (lv_at hl 2 rfl) ?_
        obtain ⟨z28, e29, h⟩ := bnd h
        refine k_X1_length_s_ F hw e29 ⟨Nat.le_of_ble_eq_true rfl, Nat.le_of_ble_eq_true rfl⟩ ⟨Nat.zero_le _, Nat.zero_le _⟩ hl.1 (Nat.le_of_ble_eq_true rfl) dX2_labelRun_169 ?_
        obtain ⟨z30, e31, h⟩ := bnd h
        refine k_X2_dealLabels_s_ F hw e31 ⟨Nat.le_of_ble_eq_true rfl, Nat.le_of_ble_eq_true rfl⟩ ⟨Nat.zero_le _, Nat.zero_le _⟩ hl.1 (Nat.le_of_ble_eq_true rfl) dX2_labelRun_172 (fun H locs hw => ?_)
        refine lv_iconst (v := 1) hx hb dX2_labelRun_175 rfl ?_
        cases h
        exact retW_z F hw narrow_b1 dX2_labelRun_176
      · replace h := itF h c22
        refine lv_iconst (v := 0) hx hb dX2_labelRun_137 rfl ?_
        cases h
        exact retW_z F hw narrow_b0 dX2_labelRun_138
    · replace h := itF h c19
      refine lv_aload_n hx hb dX2_labelRun_114 rfl (lv_at hl 1 rfl) ?_
      refine lv_iload_n hx hb dX2_labelRun_115 rfl (lv_at hl 2 rfl) ?_
      refine lv_iload_n hx hb dX2_labelRun_116 rfl (lv_at hl 3 rfl) ?_
      refine lv_iload_n hx hb dX2_labelRun_117 rfl (lv_at hl 4 rfl) ?_
      obtain ⟨z32, e33, h⟩ := bnd h
      refine k_X2_spreadRuns_s_ F hw e33 ⟨Nat.le_of_ble_eq_true rfl, Nat.le_of_ble_eq_true rfl⟩ ⟨Nat.zero_le _, Nat.zero_le _⟩ hl.1 (Nat.le_of_ble_eq_true rfl) dX2_labelRun_118 (fun H locs hw => ?_)
      obtain ⟨g34, h⟩ := gd h
      cases h
      exact retW_z F hw (zb_ok g34) dX2_labelRun_121
  · replace h := itF h c17
    refine lv_iload_n hx hb dX2_labelRun_73 rfl (lv_at hl 3 rfl) ?_
    refine lv_istore (lv' := [(10, .int x2), (8, .long t0), (0, .ref (ad 0)), (1, .int x1), (2, .int x2), (3, .int x3), (4, .long x4), (6, .long x6)]) hx hb dX2_labelRun_74 hl (by decide) rfl (fun ls hl => ?_)
    exact w_X2_labelRun_76 F NF _ _ _ _ _ _ _ _ hw (lv_sub hl [2, 5, 7, 1, 0] rfl) h
set_option maxHeartbeats 4000000 in
set_option maxRecDepth 100000 in
theorem w_X2_labelRun_0 (F : FX p m c cX2_labelRun 11 s args yX2_labelRun (some .boolean) RX2 meth) {z : Int32 × SS} : ∀ (x1 : Int32) (x2 : Int32) (x3 : Int32) (u : SS) (H : Heap) (locs : List Loc) (ls : Array Slot), WD G A s (sw G ad u) H locs → lv_has ls 11 [(0, .ref (ad 0)), (1, .int x1), (2, .int x2), (3, .int x3)] → f_X2_labelRun x1 x2 x3 u = some z → W p l e rmX2_labelRun s m args below meth c H locs 0 0 (MQ below (QW G (sw G ad z.2) A (some (.int z.1))) args s 0 0 A) (F0 m 0 ls []) := by
  obtain ⟨⟨hx, hb, hml, hown, hts⟩, hr, hlocks⟩ := id F
  intro x1 x2 x3 u H locs ls hw hl h
  unfold f_X2_labelRun at h
  refine lv_lconst (v := 1) hx hb dX2_labelRun_0 rfl ?_
  refine lv_aload_n hx hb dX2_labelRun_1 rfl (lv_at hl 0 rfl) ?_
  refine s_g0_3 F hw dX2_labelRun_2 ?_
  refine lv_iload_n hx hb dX2_labelRun_5 rfl (lv_at hl 1 rfl) ?_
  obtain ⟨g1, h⟩ := gd h
  refine s_l10 F hw g1 dX2_labelRun_6 ?_
  refine lv_lshl hx hb dX2_labelRun_7 rfl ?_
  refine lv_lstore (lv' := [(4, .long ((1 : Int64) <<< (Int32.toInt64 ((u.2.2.1 3) (Int32.toNatClampNeg x1)) &&& 63))), (0, .ref (ad 0)), (1, .int x1), (2, .int x2), (3, .int x3)]) hx hb dX2_labelRun_8 hl (by decide) rfl (fun ls hl => ?_)
  refine lv_iload_n hx hb dX2_labelRun_10 rfl (lv_at hl 3 rfl) ?_
  refine lv_aload_n hx hb dX2_labelRun_11 rfl (lv_at hl 1 rfl) ?_
  refine s_g0_0 F hw dX2_labelRun_12 ?_
  refine lv_iload_n hx hb dX2_labelRun_15 rfl (lv_at hl 2 rfl) ?_
  obtain ⟨z2, e3, h⟩ := bnd h
  refine k_X1_first_s_ F hw e3 ⟨Nat.le_of_ble_eq_true rfl, Nat.le_of_ble_eq_true rfl⟩ ⟨Nat.zero_le _, Nat.zero_le _⟩ hl.1 (Nat.le_of_ble_eq_true rfl) dX2_labelRun_16 ?_
  refine lv_icmp_le (tgt := 32) hx hb dX2_labelRun_19 rfl (fun c4 => ?_) (fun c4 => ?_)
  · replace h := itT h c4
    refine lv_ldc2 (own := RX2) (v := (-1)) hx hb hown (F.tb (tw 236 (by decide +kernel) rfl)) dX2_labelRun_32 ?_
    refine lv_lstore (lv' := [(6, .long (-1)), (4, .long ((1 : Int64) <<< (Int32.toInt64 ((u.2.2.1 3) (Int32.toNatClampNeg x1)) &&& 63))), (0, .ref (ad 0)), (1, .int x1), (2, .int x2), (3, .int x3)]) hx hb dX2_labelRun_35 hl (by decide) rfl (fun ls hl => ?_)
    refine lv_iload_n hx hb dX2_labelRun_37 rfl (lv_at hl 5 rfl) ?_
    refine lv_aload_n hx hb dX2_labelRun_38 rfl (lv_at hl 2 rfl) ?_
    refine s_g0_0 F hw dX2_labelRun_39 ?_
    refine lv_iload_n hx hb dX2_labelRun_42 rfl (lv_at hl 3 rfl) ?_
    obtain ⟨z5, e6, h⟩ := bnd h
    refine k_X1_end_s_ F hw e6 ⟨Nat.le_of_ble_eq_true rfl, Nat.le_of_ble_eq_true rfl⟩ ⟨Nat.zero_le _, Nat.zero_le _⟩ hl.1 (Nat.le_of_ble_eq_true rfl) dX2_labelRun_43 ?_
    refine lv_icmp_ge (tgt := 57) hx hb dX2_labelRun_46 rfl (fun c7 => ?_) (fun c7 => ?_)
    · replace h := itT h c7
      refine lv_lload hx hb dX2_labelRun_57 (lv_at hl 1 rfl) ?_
      exact w_X2_labelRun_59 F _ _ _ _ _ _ _ _ _ _ hw (lv_sub hl [2, 3, 4, 5, 1, 0] rfl) h
    · replace h := itF h c7
      refine lv_aload_n hx hb dX2_labelRun_49 rfl (lv_at hl 2 rfl) ?_
      refine lv_iload_n hx hb dX2_labelRun_50 rfl (lv_at hl 5 rfl) ?_
      obtain ⟨z8, e9, h⟩ := bnd h
      refine k_X2_labelAt_s_ F hw e9 ⟨Nat.le_of_ble_eq_true rfl, Nat.le_of_ble_eq_true rfl⟩ ⟨Nat.zero_le _, Nat.zero_le _⟩ hl.1 (Nat.le_of_ble_eq_true rfl) dX2_labelRun_51 ?_
      refine lv_goto (tgt := 59) hx hb dX2_labelRun_54 rfl ?_
      exact w_X2_labelRun_59 F _ _ _ _ _ _ _ _ _ _ hw (lv_sub hl [2, 3, 4, 5, 1, 0] rfl) h
  · replace h := itF h c4
    refine lv_aload_n hx hb dX2_labelRun_22 rfl (lv_at hl 1 rfl) ?_
    refine lv_iload_n hx hb dX2_labelRun_23 rfl (lv_at hl 3 rfl) ?_
    refine lv_iconst (v := 1) hx hb dX2_labelRun_24 rfl ?_
    refine lv_isub hx hb dX2_labelRun_25 ?_
    obtain ⟨z10, e11, h⟩ := bnd h
    refine k_X2_labelAt_s_ F hw e11 ⟨Nat.le_of_ble_eq_true rfl, Nat.le_of_ble_eq_true rfl⟩ ⟨Nat.zero_le _, Nat.zero_le _⟩ hl.1 (Nat.le_of_ble_eq_true rfl) dX2_labelRun_26 ?_
    refine lv_goto (tgt := 35) hx hb dX2_labelRun_29 rfl ?_
    refine lv_lstore (lv' := [(6, .long z10), (4, .long ((1 : Int64) <<< (Int32.toInt64 ((u.2.2.1 3) (Int32.toNatClampNeg x1)) &&& 63))), (0, .ref (ad 0)), (1, .int x1), (2, .int x2), (3, .int x3)]) hx hb dX2_labelRun_35 hl (by decide) rfl (fun ls hl => ?_)
    refine lv_iload_n hx hb dX2_labelRun_37 rfl (lv_at hl 5 rfl) ?_
    refine lv_aload_n hx hb dX2_labelRun_38 rfl (lv_at hl 2 rfl) ?_
    refine s_g0_0 F hw dX2_labelRun_39 ?_
    refine lv_iload_n hx hb dX2_labelRun_42 rfl (lv_at hl 3 rfl) ?_
    obtain ⟨z12, e13, h⟩ := bnd h
    refine k_X1_end_s_ F hw e13 ⟨Nat.le_of_ble_eq_true rfl, Nat.le_of_ble_eq_true rfl⟩ ⟨Nat.zero_le _, Nat.zero_le _⟩ hl.1 (Nat.le_of_ble_eq_true rfl) dX2_labelRun_43 ?_
    refine lv_icmp_ge (tgt := 57) hx hb dX2_labelRun_46 rfl (fun c14 => ?_) (fun c14 => ?_)
    · replace h := itT h c14
      refine lv_lload hx hb dX2_labelRun_57 (lv_at hl 1 rfl) ?_
      exact w_X2_labelRun_59 F _ _ _ _ _ _ _ _ _ _ hw (lv_sub hl [2, 3, 4, 5, 1, 0] rfl) h
    · replace h := itF h c14
      refine lv_aload_n hx hb dX2_labelRun_49 rfl (lv_at hl 2 rfl) ?_
      refine lv_iload_n hx hb dX2_labelRun_50 rfl (lv_at hl 5 rfl) ?_
      obtain ⟨z15, e16, h⟩ := bnd h
      refine k_X2_labelAt_s_ F hw e16 ⟨Nat.le_of_ble_eq_true rfl, Nat.le_of_ble_eq_true rfl⟩ ⟨Nat.zero_le _, Nat.zero_le _⟩ hl.1 (Nat.le_of_ble_eq_true rfl) dX2_labelRun_51 ?_
      refine lv_goto (tgt := 59) hx hb dX2_labelRun_54 rfl ?_
      exact w_X2_labelRun_59 F _ _ _ _ _ _ _ _ _ _ hw (lv_sub hl [2, 3, 4, 5, 1, 0] rfl) h
end
theorem c_X2_labelRun {l : Launch} {G : GX} {ad : Nat → Nat} {x1 : Int32} {x2 : Int32} {x3 : Int32} {u : SS} {z : Int32 × SS} (h : f_X2_labelRun x1 x2 x3 u = some z) : MW l yX2_labelRun cX2_labelRun 11 (some .boolean) rmX2_labelRun G (sw G ad u) (sw G ad z.2) [.ref (ad 0), .int x1, .int x2, .int x3] (some (.int z.1)) := MW.of (by decide) (Nat.le_of_ble_eq_true rfl) (fun p e s m below meth c ls F hw hl => w_X2_labelRun_0 F _ _ _ _ _ _ _ hw hl h)
/-! ===== X2_dealInners ===== -/
theorem dX2_dealInners_0 : decode cX2_dealInners 0 = .ok (.iload_n 2, 1) := by decide +kernel
theorem dX2_dealInners_1 : decode cX2_dealInners 1 = .ok (.istore 4, 2) := by decide +kernel
theorem dX2_dealInners_3 : decode cX2_dealInners 3 = .ok (.iload 4, 2) := by decide +kernel
theorem dX2_dealInners_5 : decode cX2_dealInners 5 = .ok (.iload_n 3, 1) := by decide +kernel
theorem dX2_dealInners_6 : decode cX2_dealInners 6 = .ok (.if_icmp .ge 29, 3) := by decide +kernel
theorem dX2_dealInners_9 : decode cX2_dealInners 9 = .ok (.aload_n 0, 1) := by decide +kernel
theorem dX2_dealInners_10 : decode cX2_dealInners 10 = .ok (.iload 4, 2) := by decide +kernel
theorem dX2_dealInners_12 : decode cX2_dealInners 12 = .ok (.lconst 0, 1) := by decide +kernel
theorem dX2_dealInners_13 : decode cX2_dealInners 13 = .ok (.bipush 8, 2) := by decide +kernel
theorem dX2_dealInners_15 : decode cX2_dealInners 15 = .ok (.iload_n 3, 1) := by decide +kernel
theorem dX2_dealInners_16 : decode cX2_dealInners 16 = .ok (.iload_n 2, 1) := by decide +kernel
theorem dX2_dealInners_17 : decode cX2_dealInners 17 = .ok (.isub, 1) := by decide +kernel
theorem dX2_dealInners_18 : decode cX2_dealInners 18 = .ok (.iload 4, 2) := by decide +kernel
theorem dX2_dealInners_20 : decode cX2_dealInners 20 = .ok (.iload_n 2, 1) := by decide +kernel
theorem dX2_dealInners_21 : decode cX2_dealInners 21 = .ok (.isub, 1) := by decide +kernel
theorem dX2_dealInners_22 : decode cX2_dealInners 22 = .ok (.invokestatic 180, 3) := by decide +kernel
theorem dX2_dealInners_25 : decode cX2_dealInners 25 = .ok (.l2i, 1) := by decide +kernel
theorem dX2_dealInners_26 : decode cX2_dealInners 26 = .ok (.invokevirtual 169, 3) := by decide +kernel
theorem dX2_dealInners_29 : decode cX2_dealInners 29 = .ok (.iinc 4 1, 3) := by decide +kernel
theorem dX2_dealInners_32 : decode cX2_dealInners 32 = .ok (.goto (-29), 3) := by decide +kernel
theorem dX2_dealInners_35 : decode cX2_dealInners 35 = .ok (.aload_n 0, 1) := by decide +kernel
theorem dX2_dealInners_36 : decode cX2_dealInners 36 = .ok (.getfield 32, 3) := by decide +kernel
theorem dX2_dealInners_39 : decode cX2_dealInners 39 = .ok (.iload_n 1, 1) := by decide +kernel
theorem dX2_dealInners_40 : decode cX2_dealInners 40 = .ok (.aload_n 0, 1) := by decide +kernel
theorem dX2_dealInners_41 : decode cX2_dealInners 41 = .ok (.getfield 32, 3) := by decide +kernel
theorem dX2_dealInners_44 : decode cX2_dealInners 44 = .ok (.iload_n 1, 1) := by decide +kernel
theorem dX2_dealInners_45 : decode cX2_dealInners 45 = .ok (.iaload, 1) := by decide +kernel
theorem dX2_dealInners_46 : decode cX2_dealInners 46 = .ok (.iload_n 3, 1) := by decide +kernel
theorem dX2_dealInners_47 : decode cX2_dealInners 47 = .ok (.iload_n 2, 1) := by decide +kernel
theorem dX2_dealInners_48 : decode cX2_dealInners 48 = .ok (.isub, 1) := by decide +kernel
theorem dX2_dealInners_49 : decode cX2_dealInners 49 = .ok (.invokestatic 184, 3) := by decide +kernel
theorem dX2_dealInners_52 : decode cX2_dealInners 52 = .ok (.iastore, 1) := by decide +kernel
theorem dX2_dealInners_53 : decode cX2_dealInners 53 = .ok (.return_, 1) := by decide +kernel
theorem yv_X2_setInner_X2 : YV RX2 169 yX2_setInner cX2_setInner 3 none 2 := ⟨(tw 287 (by decide +kernel) rfl), (tw 2 (by decide +kernel) rfl), (tw 284 (by decide +kernel) rfl), (tw 285 (by decide +kernel) rfl), (tw 286 (by decide +kernel) rfl), by decide +kernel⟩
theorem k_X2_setInner_s_ {p : Program} {l : Launch} {e : Env} {R : Room} {s : State} {m : MethodId} {args : Array Value} {below : List Frame} {meth : Method} {c : Code} {H : Heap} {locs : List Loc} {cells slots : Nat} {Q : State → Prop} {G : GX} {A : Nat → Prop} {ad : Nat → Nat} {u : SS} {cc : ByteArray} {nL pc : Nat} {y : MethodName} {ret : Option FieldType} {ls : Array Slot} {rest : List Value} {x1 : Int32} {x2 : Int32} {z : SS} (F : FX p m c cc nL s args y ret RX2 meth) (hw : WD G A s (sw G ad u) H locs) (h : f_X2_setInner x1 x2 u = some z) (hR : rmX2_setInner.frames + 1 ≤ R.frames ∧ 8 + (3 + 11) + rmX2_setInner.locals ≤ R.locals) (hcs : cells ≤ R.cells ∧ slots ≤ R.slots) (hsz : ls.size = nL) (hW : (rest.map fun v => v.category).sum ≤ 8) (hdg : decode cc pc = .ok (.invokevirtual 169, 3)) (kk : ∀ (H : Heap) (locs : List Loc), WD G A s (sw G ad z) H locs → W p l e R s m args below meth c H locs cells slots Q (F0 m (pc + 3) ls (rest))) : W p l e R s m args below meth c H locs cells slots Q (F0 m pc ls (.int x2 :: .int x1 :: .ref (ad 0) :: rest)) := callW (runV F yv_X2_setInner_X2 (c_X2_setInner h) hw.1 hw.2.1 hw.2.2.1 rfl rfl rfl ⟨rfl, rfl⟩ hR hcs rfl hsz rfl hW hdg) hw.2.2.2 hw.2.2.1.own_in (fun H1 l1 hP _ hS => kk H1 l1 ⟨hw.1, hP, hw.2.2.1.addr rfl, hS⟩)
def rmX2_dealInners : Room := { frames := 1, cells := 0, slots := 0, locals := 24 }
noncomputable def f_X2_dealInners_3 : Nat → Int32 → Int32 → Int32 → Int32 → SS → Option (SS)
  | 0, _, _, _, _, _ => none
  | n + 1, x1, x2, x3, x4, u => (if x3 ≤ x4 then (if ix x1 8 = true then (if ix x1 8 = true then some (sA u 4 (Int32.toNatClampNeg x1) (if ((u.2.2.1 4) (Int32.toNatClampNeg x1)) < (x3 - x2) then (x3 - x2) else ((u.2.2.1 4) (Int32.toNatClampNeg x1)))) else none) else none) else (f_X3_dealt 0 8 (x3 - x2) (x4 - x2)).bind (fun z4 => (f_X2_setInner x4 (Int64.toInt32 z4) u).bind (fun z6 => f_X2_dealInners_3 n x1 x2 x3 (x4 + 1) z6)))
noncomputable def f_X2_dealInners (x1 : Int32) (x2 : Int32) (x3 : Int32) (u : SS) : Option (SS) := f_X2_dealInners_3 NF x1 x2 x3 x2 u
section
variable {p : Program} {l : Launch} {e : Env} {s : State} {m : MethodId} {args : Array Value} {below : List Frame} {meth : Method} {c : Code}
variable {G : GX} {A : Nat → Prop} {ad : Nat → Nat} 
set_option maxHeartbeats 4000000 in
set_option maxRecDepth 100000 in
theorem w_X2_dealInners_3 (F : FX p m c cX2_dealInners 5 s args yX2_dealInners none RX2 meth) {z : SS} : ∀ (n : Nat) (x1 : Int32) (x2 : Int32) (x3 : Int32) (x4 : Int32) (u : SS) (H : Heap) (locs : List Loc) (ls : Array Slot), WD G A s (sw G ad u) H locs → lv_has ls 5 [(0, .ref (ad 0)), (1, .int x1), (2, .int x2), (3, .int x3), (4, .int x4)] → f_X2_dealInners_3 n x1 x2 x3 x4 u = some z → W p l e rmX2_dealInners s m args below meth c H locs 0 0 (MQ below (QW G (sw G ad z) A none) args s 0 0 A) (F0 m 3 ls []) := by
  obtain ⟨⟨hx, hb, hml, hown, hts⟩, hr, hlocks⟩ := id F
  intro n
  induction n with
  | zero =>
    intro x1 x2 x3 x4 u H locs ls hw hl h
    rw [f_X2_dealInners_3] at h
    cases h
  | succ n ih =>
    intro x1 x2 x3 x4 u H locs ls hw hl h
    rw [f_X2_dealInners_3] at h
    refine lv_iload hx hb dX2_dealInners_3 (lv_at hl 4 rfl) ?_
    refine lv_iload_n hx hb dX2_dealInners_5 rfl (lv_at hl 3 rfl) ?_
    refine lv_icmp_ge (tgt := 35) hx hb dX2_dealInners_6 rfl (fun c1 => ?_) (fun c1 => ?_)
    · replace h := itT h c1
      refine lv_aload_n hx hb dX2_dealInners_35 rfl (lv_at hl 0 rfl) ?_
      refine s_g0_4 F hw dX2_dealInners_36 ?_
      refine lv_iload_n hx hb dX2_dealInners_39 rfl (lv_at hl 1 rfl) ?_
      refine lv_aload_n hx hb dX2_dealInners_40 rfl (lv_at hl 0 rfl) ?_
      refine s_g0_4 F hw dX2_dealInners_41 ?_
      refine lv_iload_n hx hb dX2_dealInners_44 rfl (lv_at hl 1 rfl) ?_
      obtain ⟨g2, h⟩ := gd h
      refine s_l11 F hw g2 dX2_dealInners_45 ?_
      refine lv_iload_n hx hb dX2_dealInners_46 rfl (lv_at hl 3 rfl) ?_
      refine lv_iload_n hx hb dX2_dealInners_47 rfl (lv_at hl 2 rfl) ?_
      refine lv_isub hx hb dX2_dealInners_48 ?_
      refine va_mmax hx hb (hml.trans hl.1.symm) hown (F.tb (tw 273 (by decide +kernel) rfl)) (F.tb (tw 274 (by decide +kernel) rfl)) (F.tb (tw 8 (by decide +kernel) rfl)) (F.tb (tw 275 (by decide +kernel) rfl)) (Nat.le_of_ble_eq_true rfl) (Nat.le_of_ble_eq_true rfl) (Nat.zero_le _) (Nat.zero_le _) dX2_dealInners_49 ?_
      obtain ⟨g3, h⟩ := gd h
      refine s_s11 F hw g3 dX2_dealInners_52 (fun H locs hw => ?_)
      cases h
      exact retW_v F hw dX2_dealInners_53
    · replace h := itF h c1
      refine lv_aload_n hx hb dX2_dealInners_9 rfl (lv_at hl 0 rfl) ?_
      refine lv_iload hx hb dX2_dealInners_10 (lv_at hl 4 rfl) ?_
      refine lv_lconst (v := 0) hx hb dX2_dealInners_12 rfl ?_
      refine lv_bipush (v := 8) hx hb dX2_dealInners_13 rfl ?_
      refine lv_iload_n hx hb dX2_dealInners_15 rfl (lv_at hl 3 rfl) ?_
      refine lv_iload_n hx hb dX2_dealInners_16 rfl (lv_at hl 2 rfl) ?_
      refine lv_isub hx hb dX2_dealInners_17 ?_
      refine lv_iload hx hb dX2_dealInners_18 (lv_at hl 4 rfl) ?_
      refine lv_iload_n hx hb dX2_dealInners_20 rfl (lv_at hl 2 rfl) ?_
      refine lv_isub hx hb dX2_dealInners_21 ?_
      obtain ⟨z4, e5, h⟩ := bnd h
      refine k_X3_dealt_s_ F hw e5 ⟨Nat.le_of_ble_eq_true rfl, Nat.le_of_ble_eq_true rfl⟩ ⟨Nat.zero_le _, Nat.zero_le _⟩ hl.1 (Nat.le_of_ble_eq_true rfl) dX2_dealInners_22 ?_
      refine lv_l2i hx hb dX2_dealInners_25 rfl ?_
      obtain ⟨z6, e7, h⟩ := bnd h
      refine k_X2_setInner_s_ F hw e7 ⟨Nat.le_of_ble_eq_true rfl, Nat.le_of_ble_eq_true rfl⟩ ⟨Nat.zero_le _, Nat.zero_le _⟩ hl.1 (Nat.le_of_ble_eq_true rfl) dX2_dealInners_26 (fun H locs hw => ?_)
      refine lv_iinc (v := (x4 + 1)) (lv' := [(4, .int (x4 + 1)), (0, .ref (ad 0)), (1, .int x1), (2, .int x2), (3, .int x3)]) hx hb dX2_dealInners_29 hl (k := 4) rfl rfl (by decide) rfl (fun ls hl => ?_)
      refine lv_goto (tgt := 3) hx hb dX2_dealInners_32 rfl ?_
      exact ih _ _ _ _ _ _ _ _ hw (lv_sub hl [1, 2, 3, 4, 0] rfl) h
set_option maxHeartbeats 4000000 in
set_option maxRecDepth 100000 in
theorem w_X2_dealInners_0 (F : FX p m c cX2_dealInners 5 s args yX2_dealInners none RX2 meth) {z : SS} : ∀ (x1 : Int32) (x2 : Int32) (x3 : Int32) (u : SS) (H : Heap) (locs : List Loc) (ls : Array Slot), WD G A s (sw G ad u) H locs → lv_has ls 5 [(0, .ref (ad 0)), (1, .int x1), (2, .int x2), (3, .int x3)] → f_X2_dealInners x1 x2 x3 u = some z → W p l e rmX2_dealInners s m args below meth c H locs 0 0 (MQ below (QW G (sw G ad z) A none) args s 0 0 A) (F0 m 0 ls []) := by
  obtain ⟨⟨hx, hb, hml, hown, hts⟩, hr, hlocks⟩ := id F
  intro x1 x2 x3 u H locs ls hw hl h
  unfold f_X2_dealInners at h
  refine lv_iload_n hx hb dX2_dealInners_0 rfl (lv_at hl 2 rfl) ?_
  refine lv_istore (lv' := [(4, .int x2), (0, .ref (ad 0)), (1, .int x1), (2, .int x2), (3, .int x3)]) hx hb dX2_dealInners_1 hl (by decide) rfl (fun ls hl => ?_)
  exact w_X2_dealInners_3 F NF _ _ _ _ _ _ _ _ hw (lv_sub hl [1, 2, 3, 4, 0] rfl) h
end
theorem c_X2_dealInners {l : Launch} {G : GX} {ad : Nat → Nat} {x1 : Int32} {x2 : Int32} {x3 : Int32} {u : SS} {z : SS} (h : f_X2_dealInners x1 x2 x3 u = some z) : MW l yX2_dealInners cX2_dealInners 5 none rmX2_dealInners G (sw G ad u) (sw G ad z) [.ref (ad 0), .int x1, .int x2, .int x3] none := MW.of (by decide) (Nat.le_of_ble_eq_true rfl) (fun p e s m below meth c ls F hw hl => w_X2_dealInners_0 F _ _ _ _ _ _ _ hw hl h)
/-! ===== X2_labelWithin ===== -/
theorem dX2_labelWithin_0 : decode cX2_labelWithin 0 = .ok (.iload_n 2, 1) := by decide +kernel
theorem dX2_labelWithin_1 : decode cX2_labelWithin 1 = .ok (.iload_n 3, 1) := by decide +kernel
theorem dX2_labelWithin_2 : decode cX2_labelWithin 2 = .ok (.if_icmp .le 13, 3) := by decide +kernel
theorem dX2_labelWithin_5 : decode cX2_labelWithin 5 = .ok (.aload_n 0, 1) := by decide +kernel
theorem dX2_labelWithin_6 : decode cX2_labelWithin 6 = .ok (.iload_n 2, 1) := by decide +kernel
theorem dX2_labelWithin_7 : decode cX2_labelWithin 7 = .ok (.iconst 1, 1) := by decide +kernel
theorem dX2_labelWithin_8 : decode cX2_labelWithin 8 = .ok (.isub, 1) := by decide +kernel
theorem dX2_labelWithin_9 : decode cX2_labelWithin 9 = .ok (.invokevirtual 166, 3) := by decide +kernel
theorem dX2_labelWithin_12 : decode cX2_labelWithin 12 = .ok (.goto 4, 3) := by decide +kernel
theorem dX2_labelWithin_15 : decode cX2_labelWithin 15 = .ok (.iconst (-1), 1) := by decide +kernel
theorem dX2_labelWithin_16 : decode cX2_labelWithin 16 = .ok (.istore 5, 2) := by decide +kernel
theorem dX2_labelWithin_18 : decode cX2_labelWithin 18 = .ok (.iload_n 2, 1) := by decide +kernel
theorem dX2_labelWithin_19 : decode cX2_labelWithin 19 = .ok (.iconst 1, 1) := by decide +kernel
theorem dX2_labelWithin_20 : decode cX2_labelWithin 20 = .ok (.iadd, 1) := by decide +kernel
theorem dX2_labelWithin_21 : decode cX2_labelWithin 21 = .ok (.iload 4, 2) := by decide +kernel
theorem dX2_labelWithin_23 : decode cX2_labelWithin 23 = .ok (.if_icmp .ge 13, 3) := by decide +kernel
theorem dX2_labelWithin_26 : decode cX2_labelWithin 26 = .ok (.aload_n 0, 1) := by decide +kernel
theorem dX2_labelWithin_27 : decode cX2_labelWithin 27 = .ok (.iload_n 2, 1) := by decide +kernel
theorem dX2_labelWithin_28 : decode cX2_labelWithin 28 = .ok (.iconst 1, 1) := by decide +kernel
theorem dX2_labelWithin_29 : decode cX2_labelWithin 29 = .ok (.iadd, 1) := by decide +kernel
theorem dX2_labelWithin_30 : decode cX2_labelWithin 30 = .ok (.invokevirtual 166, 3) := by decide +kernel
theorem dX2_labelWithin_33 : decode cX2_labelWithin 33 = .ok (.goto 6, 3) := by decide +kernel
theorem dX2_labelWithin_36 : decode cX2_labelWithin 36 = .ok (.sipush 256, 3) := by decide +kernel
theorem dX2_labelWithin_39 : decode cX2_labelWithin 39 = .ok (.istore 6, 2) := by decide +kernel
theorem dX2_labelWithin_41 : decode cX2_labelWithin 41 = .ok (.iload 6, 2) := by decide +kernel
theorem dX2_labelWithin_43 : decode cX2_labelWithin 43 = .ok (.iload 5, 2) := by decide +kernel
theorem dX2_labelWithin_45 : decode cX2_labelWithin 45 = .ok (.isub, 1) := by decide +kernel
theorem dX2_labelWithin_46 : decode cX2_labelWithin 46 = .ok (.iconst 2, 1) := by decide +kernel
theorem dX2_labelWithin_47 : decode cX2_labelWithin 47 = .ok (.if_icmp .lt 18, 3) := by decide +kernel
theorem dX2_labelWithin_50 : decode cX2_labelWithin 50 = .ok (.aload_n 0, 1) := by decide +kernel
theorem dX2_labelWithin_51 : decode cX2_labelWithin 51 = .ok (.iload_n 2, 1) := by decide +kernel
theorem dX2_labelWithin_52 : decode cX2_labelWithin 52 = .ok (.iload 5, 2) := by decide +kernel
theorem dX2_labelWithin_54 : decode cX2_labelWithin 54 = .ok (.iload 6, 2) := by decide +kernel
theorem dX2_labelWithin_56 : decode cX2_labelWithin 56 = .ok (.iadd, 1) := by decide +kernel
theorem dX2_labelWithin_57 : decode cX2_labelWithin 57 = .ok (.iconst 2, 1) := by decide +kernel
theorem dX2_labelWithin_58 : decode cX2_labelWithin 58 = .ok (.idiv, 1) := by decide +kernel
theorem dX2_labelWithin_59 : decode cX2_labelWithin 59 = .ok (.invokevirtual 169, 3) := by decide +kernel
theorem dX2_labelWithin_62 : decode cX2_labelWithin 62 = .ok (.goto 26, 3) := by decide +kernel
theorem dX2_labelWithin_65 : decode cX2_labelWithin 65 = .ok (.aload_n 0, 1) := by decide +kernel
theorem dX2_labelWithin_66 : decode cX2_labelWithin 66 = .ok (.iload_n 1, 1) := by decide +kernel
theorem dX2_labelWithin_67 : decode cX2_labelWithin 67 = .ok (.iload_n 3, 1) := by decide +kernel
theorem dX2_labelWithin_68 : decode cX2_labelWithin 68 = .ok (.iload 4, 2) := by decide +kernel
theorem dX2_labelWithin_70 : decode cX2_labelWithin 70 = .ok (.invokevirtual 173, 3) := by decide +kernel
theorem dX2_labelWithin_73 : decode cX2_labelWithin 73 = .ok (.aload_n 0, 1) := by decide +kernel
theorem dX2_labelWithin_74 : decode cX2_labelWithin 74 = .ok (.dup, 1) := by decide +kernel
theorem dX2_labelWithin_75 : decode cX2_labelWithin 75 = .ok (.getfield 42, 3) := by decide +kernel
theorem dX2_labelWithin_78 : decode cX2_labelWithin 78 = .ok (.iload 4, 2) := by decide +kernel
theorem dX2_labelWithin_80 : decode cX2_labelWithin 80 = .ok (.iload_n 3, 1) := by decide +kernel
theorem dX2_labelWithin_81 : decode cX2_labelWithin 81 = .ok (.isub, 1) := by decide +kernel
theorem dX2_labelWithin_82 : decode cX2_labelWithin 82 = .ok (.iconst 1, 1) := by decide +kernel
theorem dX2_labelWithin_83 : decode cX2_labelWithin 83 = .ok (.isub, 1) := by decide +kernel
theorem dX2_labelWithin_84 : decode cX2_labelWithin 84 = .ok (.iadd, 1) := by decide +kernel
theorem dX2_labelWithin_85 : decode cX2_labelWithin 85 = .ok (.putfield 42, 3) := by decide +kernel
theorem dX2_labelWithin_88 : decode cX2_labelWithin 88 = .ok (.return_, 1) := by decide +kernel
theorem yv_X2_innerAt_X2 : YV RX2 166 yX2_innerAt cX2_innerAt 2 (some .int) 1 := ⟨(tw 283 (by decide +kernel) rfl), (tw 2 (by decide +kernel) rfl), (tw 280 (by decide +kernel) rfl), (tw 281 (by decide +kernel) rfl), (tw 282 (by decide +kernel) rfl), by decide +kernel⟩
theorem k_X2_innerAt_s_ {p : Program} {l : Launch} {e : Env} {R : Room} {s : State} {m : MethodId} {args : Array Value} {below : List Frame} {meth : Method} {c : Code} {H : Heap} {locs : List Loc} {cells slots : Nat} {Q : State → Prop} {G : GX} {A : Nat → Prop} {ad : Nat → Nat} {u : SS} {cc : ByteArray} {nL pc : Nat} {y : MethodName} {ret : Option FieldType} {ls : Array Slot} {rest : List Value} {x1 : Int32} {z : Int32} (F : FX p m c cc nL s args y ret RX2 meth) (hw : WD G A s (sw G ad u) H locs) (h : f_X2_innerAt x1 u = some z) (hR : rmX2_innerAt.frames + 1 ≤ R.frames ∧ 8 + (2 + 11) + rmX2_innerAt.locals ≤ R.locals) (hcs : cells ≤ R.cells ∧ slots ≤ R.slots) (hsz : ls.size = nL) (hW : (rest.map fun v => v.category).sum ≤ 8) (hdg : decode cc pc = .ok (.invokevirtual 166, 3)) (kk : W p l e R s m args below meth c H locs cells slots Q (F0 m (pc + 3) ls (.int z :: rest))) : W p l e R s m args below meth c H locs cells slots Q (F0 m pc ls (.int x1 :: .ref (ad 0) :: rest)) := callO (runV F yv_X2_innerAt_X2 (c_X2_innerAt h) hw.1 hw.2.1 hw.2.2.1 rfl rfl rfl ⟨rfl, rfl⟩ hR hcs rfl hsz rfl hW hdg) kk
theorem yv_X2_dealInners_X2 : YV RX2 173 yX2_dealInners cX2_dealInners 5 none 3 := ⟨(tw 291 (by decide +kernel) rfl), (tw 2 (by decide +kernel) rfl), (tw 288 (by decide +kernel) rfl), (tw 289 (by decide +kernel) rfl), (tw 290 (by decide +kernel) rfl), by decide +kernel⟩
theorem k_X2_dealInners_s_ {p : Program} {l : Launch} {e : Env} {R : Room} {s : State} {m : MethodId} {args : Array Value} {below : List Frame} {meth : Method} {c : Code} {H : Heap} {locs : List Loc} {cells slots : Nat} {Q : State → Prop} {G : GX} {A : Nat → Prop} {ad : Nat → Nat} {u : SS} {cc : ByteArray} {nL pc : Nat} {y : MethodName} {ret : Option FieldType} {ls : Array Slot} {rest : List Value} {x1 : Int32} {x2 : Int32} {x3 : Int32} {z : SS} (F : FX p m c cc nL s args y ret RX2 meth) (hw : WD G A s (sw G ad u) H locs) (h : f_X2_dealInners x1 x2 x3 u = some z) (hR : rmX2_dealInners.frames + 1 ≤ R.frames ∧ 8 + (5 + 11) + rmX2_dealInners.locals ≤ R.locals) (hcs : cells ≤ R.cells ∧ slots ≤ R.slots) (hsz : ls.size = nL) (hW : (rest.map fun v => v.category).sum ≤ 8) (hdg : decode cc pc = .ok (.invokevirtual 173, 3)) (kk : ∀ (H : Heap) (locs : List Loc), WD G A s (sw G ad z) H locs → W p l e R s m args below meth c H locs cells slots Q (F0 m (pc + 3) ls (rest))) : W p l e R s m args below meth c H locs cells slots Q (F0 m pc ls (.int x3 :: .int x2 :: .int x1 :: .ref (ad 0) :: rest)) := callW (runV F yv_X2_dealInners_X2 (c_X2_dealInners h) hw.1 hw.2.1 hw.2.2.1 rfl rfl rfl ⟨rfl, rfl⟩ hR hcs rfl hsz rfl hW hdg) hw.2.2.2 hw.2.2.1.own_in (fun H1 l1 hP _ hS => kk H1 l1 ⟨hw.1, hP, hw.2.2.1.addr rfl, hS⟩)
def rmX2_labelWithin : Room := { frames := 2, cells := 0, slots := 0, locals := 48 }
noncomputable def f_X2_labelWithin_39 (x1 : Int32) (x2 : Int32) (x3 : Int32) (x4 : Int32) (x5 : Int32) (t0 : Int32) (u : SS) : Option (SS) := (if (t0 - x5) < (2 : Int32) then (f_X2_dealInners x1 x3 x4 u).bind (fun z11 => some (sR z11 (z11.2.2.2.2 + ((x4 - x3) - 1)))) else (f_X2_setInner x2 ((x5 + t0) / 2) u).bind (fun z13 => some z13))
noncomputable def f_X2_labelWithin (x1 : Int32) (x2 : Int32) (x3 : Int32) (x4 : Int32) (u : SS) : Option (SS) := (if x2 ≤ x3 then (if x4 ≤ (x2 + 1) then f_X2_labelWithin_39 x1 x2 x3 x4 (-1) 256 u else (f_X2_innerAt (x2 + 1) u).bind (fun z3 => f_X2_labelWithin_39 x1 x2 x3 x4 (-1) z3 u)) else (f_X2_innerAt (x2 - 1) u).bind (fun z5 => (if x4 ≤ (x2 + 1) then f_X2_labelWithin_39 x1 x2 x3 x4 z5 256 u else (f_X2_innerAt (x2 + 1) u).bind (fun z8 => f_X2_labelWithin_39 x1 x2 x3 x4 z5 z8 u))))
section
variable {p : Program} {l : Launch} {e : Env} {s : State} {m : MethodId} {args : Array Value} {below : List Frame} {meth : Method} {c : Code}
variable {G : GX} {A : Nat → Prop} {ad : Nat → Nat} 
set_option maxHeartbeats 4000000 in
set_option maxRecDepth 100000 in
theorem w_X2_labelWithin_39 (F : FX p m c cX2_labelWithin 7 s args yX2_labelWithin none RX2 meth) {z : SS} : ∀ (x1 : Int32) (x2 : Int32) (x3 : Int32) (x4 : Int32) (x5 : Int32) (t0 : Int32) (u : SS) (H : Heap) (locs : List Loc) (ls : Array Slot), WD G A s (sw G ad u) H locs → lv_has ls 7 [(0, .ref (ad 0)), (1, .int x1), (2, .int x2), (3, .int x3), (4, .int x4), (5, .int x5)] → f_X2_labelWithin_39 x1 x2 x3 x4 x5 t0 u = some z → W p l e rmX2_labelWithin s m args below meth c H locs 0 0 (MQ below (QW G (sw G ad z) A none) args s 0 0 A) (F0 m 39 ls [.int t0]) := by
  obtain ⟨⟨hx, hb, hml, hown, hts⟩, hr, hlocks⟩ := id F
  intro x1 x2 x3 x4 x5 t0 u H locs ls hw hl h
  unfold f_X2_labelWithin_39 at h
  refine lv_istore (lv' := [(6, .int t0), (0, .ref (ad 0)), (1, .int x1), (2, .int x2), (3, .int x3), (4, .int x4), (5, .int x5)]) hx hb dX2_labelWithin_39 hl (by decide) rfl (fun ls hl => ?_)
  refine lv_iload hx hb dX2_labelWithin_41 (lv_at hl 0 rfl) ?_
  refine lv_iload hx hb dX2_labelWithin_43 (lv_at hl 6 rfl) ?_
  refine lv_isub hx hb dX2_labelWithin_45 ?_
  refine lv_iconst (v := 2) hx hb dX2_labelWithin_46 rfl ?_
  refine lv_icmp_lt (tgt := 65) hx hb dX2_labelWithin_47 rfl (fun c10 => ?_) (fun c10 => ?_)
  · replace h := itT h c10
    refine lv_aload_n hx hb dX2_labelWithin_65 rfl (lv_at hl 1 rfl) ?_
    refine lv_iload_n hx hb dX2_labelWithin_66 rfl (lv_at hl 2 rfl) ?_
    refine lv_iload_n hx hb dX2_labelWithin_67 rfl (lv_at hl 4 rfl) ?_
    refine lv_iload hx hb dX2_labelWithin_68 (lv_at hl 5 rfl) ?_
    obtain ⟨z11, e12, h⟩ := bnd h
    refine k_X2_dealInners_s_ F hw e12 ⟨Nat.le_of_ble_eq_true rfl, Nat.le_of_ble_eq_true rfl⟩ ⟨Nat.zero_le _, Nat.zero_le _⟩ hl.1 (Nat.le_of_ble_eq_true rfl) dX2_labelWithin_70 (fun H locs hw => ?_)
    refine lv_aload_n hx hb dX2_labelWithin_73 rfl (lv_at hl 1 rfl) ?_
    refine lv_dup hx hb dX2_labelWithin_74 rfl ?_
    refine s_g0_7 F hw dX2_labelWithin_75 ?_
    refine lv_iload hx hb dX2_labelWithin_78 (lv_at hl 5 rfl) ?_
    refine lv_iload_n hx hb dX2_labelWithin_80 rfl (lv_at hl 4 rfl) ?_
    refine lv_isub hx hb dX2_labelWithin_81 ?_
    refine lv_iconst (v := 1) hx hb dX2_labelWithin_82 rfl ?_
    refine lv_isub hx hb dX2_labelWithin_83 ?_
    refine lv_iadd hx hb dX2_labelWithin_84 ?_
    refine s_p0_7 F hw dX2_labelWithin_85 (fun H locs hw => ?_)
    cases h
    exact retW_v F hw dX2_labelWithin_88
  · replace h := itF h c10
    refine lv_aload_n hx hb dX2_labelWithin_50 rfl (lv_at hl 1 rfl) ?_
    refine lv_iload_n hx hb dX2_labelWithin_51 rfl (lv_at hl 3 rfl) ?_
    refine lv_iload hx hb dX2_labelWithin_52 (lv_at hl 6 rfl) ?_
    refine lv_iload hx hb dX2_labelWithin_54 (lv_at hl 0 rfl) ?_
    refine lv_iadd hx hb dX2_labelWithin_56 ?_
    refine lv_iconst (v := 2) hx hb dX2_labelWithin_57 rfl ?_
    refine lv_idiv hx hb dX2_labelWithin_58 (by decide) ?_
    obtain ⟨z13, e14, h⟩ := bnd h
    refine k_X2_setInner_s_ F hw e14 ⟨Nat.le_of_ble_eq_true rfl, Nat.le_of_ble_eq_true rfl⟩ ⟨Nat.zero_le _, Nat.zero_le _⟩ hl.1 (Nat.le_of_ble_eq_true rfl) dX2_labelWithin_59 (fun H locs hw => ?_)
    refine lv_goto (tgt := 88) hx hb dX2_labelWithin_62 rfl ?_
    cases h
    exact retW_v F hw dX2_labelWithin_88
set_option maxHeartbeats 4000000 in
set_option maxRecDepth 100000 in
theorem w_X2_labelWithin_0 (F : FX p m c cX2_labelWithin 7 s args yX2_labelWithin none RX2 meth) {z : SS} : ∀ (x1 : Int32) (x2 : Int32) (x3 : Int32) (x4 : Int32) (u : SS) (H : Heap) (locs : List Loc) (ls : Array Slot), WD G A s (sw G ad u) H locs → lv_has ls 7 [(0, .ref (ad 0)), (1, .int x1), (2, .int x2), (3, .int x3), (4, .int x4)] → f_X2_labelWithin x1 x2 x3 x4 u = some z → W p l e rmX2_labelWithin s m args below meth c H locs 0 0 (MQ below (QW G (sw G ad z) A none) args s 0 0 A) (F0 m 0 ls []) := by
  obtain ⟨⟨hx, hb, hml, hown, hts⟩, hr, hlocks⟩ := id F
  intro x1 x2 x3 x4 u H locs ls hw hl h
  unfold f_X2_labelWithin at h
  refine lv_iload_n hx hb dX2_labelWithin_0 rfl (lv_at hl 2 rfl) ?_
  refine lv_iload_n hx hb dX2_labelWithin_1 rfl (lv_at hl 3 rfl) ?_
  refine lv_icmp_le (tgt := 15) hx hb dX2_labelWithin_2 rfl (fun c1 => ?_) (fun c1 => ?_)
  · replace h := itT h c1
    refine lv_iconst (v := (-1)) hx hb dX2_labelWithin_15 rfl ?_
    refine lv_istore (lv' := [(5, .int (-1)), (0, .ref (ad 0)), (1, .int x1), (2, .int x2), (3, .int x3), (4, .int x4)]) hx hb dX2_labelWithin_16 hl (by decide) rfl (fun ls hl => ?_)
    refine lv_iload_n hx hb dX2_labelWithin_18 rfl (lv_at hl 3 rfl) ?_
    refine lv_iconst (v := 1) hx hb dX2_labelWithin_19 rfl ?_
    refine lv_iadd hx hb dX2_labelWithin_20 ?_
    refine lv_iload hx hb dX2_labelWithin_21 (lv_at hl 5 rfl) ?_
    refine lv_icmp_ge (tgt := 36) hx hb dX2_labelWithin_23 rfl (fun c2 => ?_) (fun c2 => ?_)
    · replace h := itT h c2
      refine lv_sipush (v := 256) hx hb dX2_labelWithin_36 rfl ?_
      exact w_X2_labelWithin_39 F _ _ _ _ _ _ _ _ _ _ hw (lv_sub hl [1, 2, 3, 4, 5, 0] rfl) h
    · replace h := itF h c2
      refine lv_aload_n hx hb dX2_labelWithin_26 rfl (lv_at hl 1 rfl) ?_
      refine lv_iload_n hx hb dX2_labelWithin_27 rfl (lv_at hl 3 rfl) ?_
      refine lv_iconst (v := 1) hx hb dX2_labelWithin_28 rfl ?_
      refine lv_iadd hx hb dX2_labelWithin_29 ?_
      obtain ⟨z3, e4, h⟩ := bnd h
      refine k_X2_innerAt_s_ F hw e4 ⟨Nat.le_of_ble_eq_true rfl, Nat.le_of_ble_eq_true rfl⟩ ⟨Nat.zero_le _, Nat.zero_le _⟩ hl.1 (Nat.le_of_ble_eq_true rfl) dX2_labelWithin_30 ?_
      refine lv_goto (tgt := 39) hx hb dX2_labelWithin_33 rfl ?_
      exact w_X2_labelWithin_39 F _ _ _ _ _ _ _ _ _ _ hw (lv_sub hl [1, 2, 3, 4, 5, 0] rfl) h
  · replace h := itF h c1
    refine lv_aload_n hx hb dX2_labelWithin_5 rfl (lv_at hl 0 rfl) ?_
    refine lv_iload_n hx hb dX2_labelWithin_6 rfl (lv_at hl 2 rfl) ?_
    refine lv_iconst (v := 1) hx hb dX2_labelWithin_7 rfl ?_
    refine lv_isub hx hb dX2_labelWithin_8 ?_
    obtain ⟨z5, e6, h⟩ := bnd h
    refine k_X2_innerAt_s_ F hw e6 ⟨Nat.le_of_ble_eq_true rfl, Nat.le_of_ble_eq_true rfl⟩ ⟨Nat.zero_le _, Nat.zero_le _⟩ hl.1 (Nat.le_of_ble_eq_true rfl) dX2_labelWithin_9 ?_
    refine lv_goto (tgt := 16) hx hb dX2_labelWithin_12 rfl ?_
    refine lv_istore (lv' := [(5, .int z5), (0, .ref (ad 0)), (1, .int x1), (2, .int x2), (3, .int x3), (4, .int x4)]) hx hb dX2_labelWithin_16 hl (by decide) rfl (fun ls hl => ?_)
    refine lv_iload_n hx hb dX2_labelWithin_18 rfl (lv_at hl 3 rfl) ?_
    refine lv_iconst (v := 1) hx hb dX2_labelWithin_19 rfl ?_
    refine lv_iadd hx hb dX2_labelWithin_20 ?_
    refine lv_iload hx hb dX2_labelWithin_21 (lv_at hl 5 rfl) ?_
    refine lv_icmp_ge (tgt := 36) hx hb dX2_labelWithin_23 rfl (fun c7 => ?_) (fun c7 => ?_)
    · replace h := itT h c7
      refine lv_sipush (v := 256) hx hb dX2_labelWithin_36 rfl ?_
      exact w_X2_labelWithin_39 F _ _ _ _ _ _ _ _ _ _ hw (lv_sub hl [1, 2, 3, 4, 5, 0] rfl) h
    · replace h := itF h c7
      refine lv_aload_n hx hb dX2_labelWithin_26 rfl (lv_at hl 1 rfl) ?_
      refine lv_iload_n hx hb dX2_labelWithin_27 rfl (lv_at hl 3 rfl) ?_
      refine lv_iconst (v := 1) hx hb dX2_labelWithin_28 rfl ?_
      refine lv_iadd hx hb dX2_labelWithin_29 ?_
      obtain ⟨z8, e9, h⟩ := bnd h
      refine k_X2_innerAt_s_ F hw e9 ⟨Nat.le_of_ble_eq_true rfl, Nat.le_of_ble_eq_true rfl⟩ ⟨Nat.zero_le _, Nat.zero_le _⟩ hl.1 (Nat.le_of_ble_eq_true rfl) dX2_labelWithin_30 ?_
      refine lv_goto (tgt := 39) hx hb dX2_labelWithin_33 rfl ?_
      exact w_X2_labelWithin_39 F _ _ _ _ _ _ _ _ _ _ hw (lv_sub hl [1, 2, 3, 4, 5, 0] rfl) h
end
theorem c_X2_labelWithin {l : Launch} {G : GX} {ad : Nat → Nat} {x1 : Int32} {x2 : Int32} {x3 : Int32} {x4 : Int32} {u : SS} {z : SS} (h : f_X2_labelWithin x1 x2 x3 x4 u = some z) : MW l yX2_labelWithin cX2_labelWithin 7 none rmX2_labelWithin G (sw G ad u) (sw G ad z) [.ref (ad 0), .int x1, .int x2, .int x3, .int x4] none := MW.of (by decide) (Nat.le_of_ble_eq_true rfl) (fun p e s m below meth c ls F hw hl => w_X2_labelWithin_0 F _ _ _ _ _ _ _ _ hw hl h)
/-! ===== X2_partBlock ===== -/
theorem dX2_partBlock_0 : decode cX2_partBlock 0 = .ok (.iload_n 2, 1) := by decide +kernel
theorem dX2_partBlock_1 : decode cX2_partBlock 1 = .ok (.iconst 5, 1) := by decide +kernel
theorem dX2_partBlock_2 : decode cX2_partBlock 2 = .ok (.iadd, 1) := by decide +kernel
theorem dX2_partBlock_3 : decode cX2_partBlock 3 = .ok (.istore 4, 2) := by decide +kernel
theorem dX2_partBlock_5 : decode cX2_partBlock 5 = .ok (.iload 4, 2) := by decide +kernel
theorem dX2_partBlock_7 : decode cX2_partBlock 7 = .ok (.istore 5, 2) := by decide +kernel
theorem dX2_partBlock_9 : decode cX2_partBlock 9 = .ok (.iload 5, 2) := by decide +kernel
theorem dX2_partBlock_11 : decode cX2_partBlock 11 = .ok (.iload_n 3, 1) := by decide +kernel
theorem dX2_partBlock_12 : decode cX2_partBlock 12 = .ok (.if_icmp .ge 18, 3) := by decide +kernel
theorem dX2_partBlock_15 : decode cX2_partBlock 15 = .ok (.aload_n 0, 1) := by decide +kernel
theorem dX2_partBlock_16 : decode cX2_partBlock 16 = .ok (.iload 5, 2) := by decide +kernel
theorem dX2_partBlock_18 : decode cX2_partBlock 18 = .ok (.ldc2_w 79, 3) := by decide +kernel
theorem dX2_partBlock_21 : decode cX2_partBlock 21 = .ok (.invokevirtual 176, 3) := by decide +kernel
theorem dX2_partBlock_24 : decode cX2_partBlock 24 = .ok (.iinc 5 1, 3) := by decide +kernel
theorem dX2_partBlock_27 : decode cX2_partBlock 27 = .ok (.goto (-18), 3) := by decide +kernel
theorem dX2_partBlock_30 : decode cX2_partBlock 30 = .ok (.aload_n 0, 1) := by decide +kernel
theorem dX2_partBlock_31 : decode cX2_partBlock 31 = .ok (.iload_n 1, 1) := by decide +kernel
theorem dX2_partBlock_32 : decode cX2_partBlock 32 = .ok (.iload 4, 2) := by decide +kernel
theorem dX2_partBlock_34 : decode cX2_partBlock 34 = .ok (.iload_n 3, 1) := by decide +kernel
theorem dX2_partBlock_35 : decode cX2_partBlock 35 = .ok (.invokevirtual 155, 3) := by decide +kernel
theorem dX2_partBlock_38 : decode cX2_partBlock 38 = .ok (.ifCond .ne 5, 3) := by decide +kernel
theorem dX2_partBlock_41 : decode cX2_partBlock 41 = .ok (.iconst 0, 1) := by decide +kernel
theorem dX2_partBlock_42 : decode cX2_partBlock 42 = .ok (.ireturn, 1) := by decide +kernel
theorem dX2_partBlock_43 : decode cX2_partBlock 43 = .ok (.aload_n 0, 1) := by decide +kernel
theorem dX2_partBlock_44 : decode cX2_partBlock 44 = .ok (.iload_n 1, 1) := by decide +kernel
theorem dX2_partBlock_45 : decode cX2_partBlock 45 = .ok (.iload_n 2, 1) := by decide +kernel
theorem dX2_partBlock_46 : decode cX2_partBlock 46 = .ok (.iload 4, 2) := by decide +kernel
theorem dX2_partBlock_48 : decode cX2_partBlock 48 = .ok (.invokevirtual 173, 3) := by decide +kernel
theorem dX2_partBlock_51 : decode cX2_partBlock 51 = .ok (.aload_n 0, 1) := by decide +kernel
theorem dX2_partBlock_52 : decode cX2_partBlock 52 = .ok (.iload_n 1, 1) := by decide +kernel
theorem dX2_partBlock_53 : decode cX2_partBlock 53 = .ok (.iload 4, 2) := by decide +kernel
theorem dX2_partBlock_55 : decode cX2_partBlock 55 = .ok (.iload_n 3, 1) := by decide +kernel
theorem dX2_partBlock_56 : decode cX2_partBlock 56 = .ok (.invokevirtual 173, 3) := by decide +kernel
theorem dX2_partBlock_59 : decode cX2_partBlock 59 = .ok (.aload_n 0, 1) := by decide +kernel
theorem dX2_partBlock_60 : decode cX2_partBlock 60 = .ok (.dup, 1) := by decide +kernel
theorem dX2_partBlock_61 : decode cX2_partBlock 61 = .ok (.getfield 42, 3) := by decide +kernel
theorem dX2_partBlock_64 : decode cX2_partBlock 64 = .ok (.iload_n 3, 1) := by decide +kernel
theorem dX2_partBlock_65 : decode cX2_partBlock 65 = .ok (.iload_n 2, 1) := by decide +kernel
theorem dX2_partBlock_66 : decode cX2_partBlock 66 = .ok (.isub, 1) := by decide +kernel
theorem dX2_partBlock_67 : decode cX2_partBlock 67 = .ok (.iadd, 1) := by decide +kernel
theorem dX2_partBlock_68 : decode cX2_partBlock 68 = .ok (.putfield 42, 3) := by decide +kernel
theorem dX2_partBlock_71 : decode cX2_partBlock 71 = .ok (.iconst 1, 1) := by decide +kernel
theorem dX2_partBlock_72 : decode cX2_partBlock 72 = .ok (.ireturn, 1) := by decide +kernel
theorem yv_X2_labelRun_X2 : YV RX2 155 yX2_labelRun cX2_labelRun 11 (some .boolean) 3 := ⟨(tw 249 (by decide +kernel) rfl), (tw 2 (by decide +kernel) rfl), (tw 246 (by decide +kernel) rfl), (tw 247 (by decide +kernel) rfl), (tw 248 (by decide +kernel) rfl), by decide +kernel⟩
theorem k_X2_labelRun_s_ {p : Program} {l : Launch} {e : Env} {R : Room} {s : State} {m : MethodId} {args : Array Value} {below : List Frame} {meth : Method} {c : Code} {H : Heap} {locs : List Loc} {cells slots : Nat} {Q : State → Prop} {G : GX} {A : Nat → Prop} {ad : Nat → Nat} {u : SS} {cc : ByteArray} {nL pc : Nat} {y : MethodName} {ret : Option FieldType} {ls : Array Slot} {rest : List Value} {x1 : Int32} {x2 : Int32} {x3 : Int32} {z : Int32 × SS} (F : FX p m c cc nL s args y ret RX2 meth) (hw : WD G A s (sw G ad u) H locs) (h : f_X2_labelRun x1 x2 x3 u = some z) (hR : rmX2_labelRun.frames + 1 ≤ R.frames ∧ 8 + (11 + 11) + rmX2_labelRun.locals ≤ R.locals) (hcs : cells ≤ R.cells ∧ slots ≤ R.slots) (hsz : ls.size = nL) (hW : (rest.map fun v => v.category).sum ≤ 8) (hdg : decode cc pc = .ok (.invokevirtual 155, 3)) (kk : ∀ (H : Heap) (locs : List Loc), WD G A s (sw G ad z.2) H locs → W p l e R s m args below meth c H locs cells slots Q (F0 m (pc + 3) ls (.int z.1 :: rest))) : W p l e R s m args below meth c H locs cells slots Q (F0 m pc ls (.int x3 :: .int x2 :: .int x1 :: .ref (ad 0) :: rest)) := callW (runV F yv_X2_labelRun_X2 (c_X2_labelRun h) hw.1 hw.2.1 hw.2.2.1 rfl rfl rfl ⟨rfl, rfl⟩ hR hcs rfl hsz rfl hW hdg) hw.2.2.2 hw.2.2.1.own_in (fun H1 l1 hP _ hS => kk H1 l1 ⟨hw.1, hP, hw.2.2.1.addr rfl, hS⟩)
def rmX2_partBlock : Room := { frames := 4, cells := 0, slots := 0, locals := 119 }
noncomputable def f_X2_partBlock_9 : Nat → Int32 → Int32 → Int32 → Int32 → Int32 → SS → Option (Int32 × SS)
  | 0, _, _, _, _, _, _ => none
  | n + 1, x1, x2, x3, x4, x5, u => (if x3 ≤ x5 then (f_X2_labelRun x1 x4 x3 u).bind (fun z2 => (if z2.1 = 0 then some (0, z2.2) else (f_X2_dealInners x1 x2 x4 z2.2).bind (fun z5 => (f_X2_dealInners x1 x4 x3 z5).bind (fun z7 => some (1, (sR z7 (z7.2.2.2.2 + (x3 - x2)))))))) else (f_X2_setLabel x5 (-1) u).bind (fun z9 => f_X2_partBlock_9 n x1 x2 x3 x4 (x5 + 1) z9))
noncomputable def f_X2_partBlock (x1 : Int32) (x2 : Int32) (x3 : Int32) (u : SS) : Option (Int32 × SS) := f_X2_partBlock_9 NF x1 x2 x3 (x2 + 5) (x2 + 5) u
section
variable {p : Program} {l : Launch} {e : Env} {s : State} {m : MethodId} {args : Array Value} {below : List Frame} {meth : Method} {c : Code}
variable {G : GX} {A : Nat → Prop} {ad : Nat → Nat} 
set_option maxHeartbeats 4000000 in
set_option maxRecDepth 100000 in
theorem w_X2_partBlock_9 (F : FX p m c cX2_partBlock 6 s args yX2_partBlock (some .boolean) RX2 meth) {z : Int32 × SS} : ∀ (n : Nat) (x1 : Int32) (x2 : Int32) (x3 : Int32) (x4 : Int32) (x5 : Int32) (u : SS) (H : Heap) (locs : List Loc) (ls : Array Slot), WD G A s (sw G ad u) H locs → lv_has ls 6 [(0, .ref (ad 0)), (1, .int x1), (2, .int x2), (3, .int x3), (4, .int x4), (5, .int x5)] → f_X2_partBlock_9 n x1 x2 x3 x4 x5 u = some z → W p l e rmX2_partBlock s m args below meth c H locs 0 0 (MQ below (QW G (sw G ad z.2) A (some (.int z.1))) args s 0 0 A) (F0 m 9 ls []) := by
  obtain ⟨⟨hx, hb, hml, hown, hts⟩, hr, hlocks⟩ := id F
  intro n
  induction n with
  | zero =>
    intro x1 x2 x3 x4 x5 u H locs ls hw hl h
    rw [f_X2_partBlock_9] at h
    cases h
  | succ n ih =>
    intro x1 x2 x3 x4 x5 u H locs ls hw hl h
    rw [f_X2_partBlock_9] at h
    refine lv_iload hx hb dX2_partBlock_9 (lv_at hl 5 rfl) ?_
    refine lv_iload_n hx hb dX2_partBlock_11 rfl (lv_at hl 3 rfl) ?_
    refine lv_icmp_ge (tgt := 30) hx hb dX2_partBlock_12 rfl (fun c1 => ?_) (fun c1 => ?_)
    · replace h := itT h c1
      refine lv_aload_n hx hb dX2_partBlock_30 rfl (lv_at hl 0 rfl) ?_
      refine lv_iload_n hx hb dX2_partBlock_31 rfl (lv_at hl 1 rfl) ?_
      refine lv_iload hx hb dX2_partBlock_32 (lv_at hl 4 rfl) ?_
      refine lv_iload_n hx hb dX2_partBlock_34 rfl (lv_at hl 3 rfl) ?_
      obtain ⟨z2, e3, h⟩ := bnd h
      refine k_X2_labelRun_s_ F hw e3 ⟨Nat.le_of_ble_eq_true rfl, Nat.le_of_ble_eq_true rfl⟩ ⟨Nat.zero_le _, Nat.zero_le _⟩ hl.1 (Nat.le_of_ble_eq_true rfl) dX2_partBlock_35 (fun H locs hw => ?_)
      refine lv_if_ne (tgt := 43) hx hb dX2_partBlock_38 rfl (fun c4 => ?_) (fun c4 => ?_)
      · replace h := itF h c4
        refine lv_aload_n hx hb dX2_partBlock_43 rfl (lv_at hl 0 rfl) ?_
        refine lv_iload_n hx hb dX2_partBlock_44 rfl (lv_at hl 1 rfl) ?_
        refine lv_iload_n hx hb dX2_partBlock_45 rfl (lv_at hl 2 rfl) ?_
        refine lv_iload hx hb dX2_partBlock_46 (lv_at hl 4 rfl) ?_
        obtain ⟨z5, e6, h⟩ := bnd h
        refine k_X2_dealInners_s_ F hw e6 ⟨Nat.le_of_ble_eq_true rfl, Nat.le_of_ble_eq_true rfl⟩ ⟨Nat.zero_le _, Nat.zero_le _⟩ hl.1 (Nat.le_of_ble_eq_true rfl) dX2_partBlock_48 (fun H locs hw => ?_)
        refine lv_aload_n hx hb dX2_partBlock_51 rfl (lv_at hl 0 rfl) ?_
        refine lv_iload_n hx hb dX2_partBlock_52 rfl (lv_at hl 1 rfl) ?_
        refine lv_iload hx hb dX2_partBlock_53 (lv_at hl 4 rfl) ?_
        refine lv_iload_n hx hb dX2_partBlock_55 rfl (lv_at hl 3 rfl) ?_
        obtain ⟨z7, e8, h⟩ := bnd h
        refine k_X2_dealInners_s_ F hw e8 ⟨Nat.le_of_ble_eq_true rfl, Nat.le_of_ble_eq_true rfl⟩ ⟨Nat.zero_le _, Nat.zero_le _⟩ hl.1 (Nat.le_of_ble_eq_true rfl) dX2_partBlock_56 (fun H locs hw => ?_)
        refine lv_aload_n hx hb dX2_partBlock_59 rfl (lv_at hl 0 rfl) ?_
        refine lv_dup hx hb dX2_partBlock_60 rfl ?_
        refine s_g0_7 F hw dX2_partBlock_61 ?_
        refine lv_iload_n hx hb dX2_partBlock_64 rfl (lv_at hl 3 rfl) ?_
        refine lv_iload_n hx hb dX2_partBlock_65 rfl (lv_at hl 2 rfl) ?_
        refine lv_isub hx hb dX2_partBlock_66 ?_
        refine lv_iadd hx hb dX2_partBlock_67 ?_
        refine s_p0_7 F hw dX2_partBlock_68 (fun H locs hw => ?_)
        refine lv_iconst (v := 1) hx hb dX2_partBlock_71 rfl ?_
        cases h
        exact retW_z F hw narrow_b1 dX2_partBlock_72
      · replace h := itT h c4
        refine lv_iconst (v := 0) hx hb dX2_partBlock_41 rfl ?_
        cases h
        exact retW_z F hw narrow_b0 dX2_partBlock_42
    · replace h := itF h c1
      refine lv_aload_n hx hb dX2_partBlock_15 rfl (lv_at hl 0 rfl) ?_
      refine lv_iload hx hb dX2_partBlock_16 (lv_at hl 5 rfl) ?_
      refine lv_ldc2 (own := RX2) (v := (-1)) hx hb hown (F.tb (tw 236 (by decide +kernel) rfl)) dX2_partBlock_18 ?_
      obtain ⟨z9, e10, h⟩ := bnd h
      refine k_X2_setLabel_s_ F hw e10 ⟨Nat.le_of_ble_eq_true rfl, Nat.le_of_ble_eq_true rfl⟩ ⟨Nat.zero_le _, Nat.zero_le _⟩ hl.1 (Nat.le_of_ble_eq_true rfl) dX2_partBlock_21 (fun H locs hw => ?_)
      refine lv_iinc (v := (x5 + 1)) (lv' := [(5, .int (x5 + 1)), (0, .ref (ad 0)), (1, .int x1), (2, .int x2), (3, .int x3), (4, .int x4)]) hx hb dX2_partBlock_24 hl (k := 5) rfl rfl (by decide) rfl (fun ls hl => ?_)
      refine lv_goto (tgt := 9) hx hb dX2_partBlock_27 rfl ?_
      exact ih _ _ _ _ _ _ _ _ _ hw (lv_sub hl [1, 2, 3, 4, 5, 0] rfl) h
set_option maxHeartbeats 4000000 in
set_option maxRecDepth 100000 in
theorem w_X2_partBlock_0 (F : FX p m c cX2_partBlock 6 s args yX2_partBlock (some .boolean) RX2 meth) {z : Int32 × SS} : ∀ (x1 : Int32) (x2 : Int32) (x3 : Int32) (u : SS) (H : Heap) (locs : List Loc) (ls : Array Slot), WD G A s (sw G ad u) H locs → lv_has ls 6 [(0, .ref (ad 0)), (1, .int x1), (2, .int x2), (3, .int x3)] → f_X2_partBlock x1 x2 x3 u = some z → W p l e rmX2_partBlock s m args below meth c H locs 0 0 (MQ below (QW G (sw G ad z.2) A (some (.int z.1))) args s 0 0 A) (F0 m 0 ls []) := by
  obtain ⟨⟨hx, hb, hml, hown, hts⟩, hr, hlocks⟩ := id F
  intro x1 x2 x3 u H locs ls hw hl h
  unfold f_X2_partBlock at h
  refine lv_iload_n hx hb dX2_partBlock_0 rfl (lv_at hl 2 rfl) ?_
  refine lv_iconst (v := 5) hx hb dX2_partBlock_1 rfl ?_
  refine lv_iadd hx hb dX2_partBlock_2 ?_
  refine lv_istore (lv' := [(4, .int (x2 + 5)), (0, .ref (ad 0)), (1, .int x1), (2, .int x2), (3, .int x3)]) hx hb dX2_partBlock_3 hl (by decide) rfl (fun ls hl => ?_)
  refine lv_iload hx hb dX2_partBlock_5 (lv_at hl 0 rfl) ?_
  refine lv_istore (lv' := [(5, .int (x2 + 5)), (4, .int (x2 + 5)), (0, .ref (ad 0)), (1, .int x1), (2, .int x2), (3, .int x3)]) hx hb dX2_partBlock_7 hl (by decide) rfl (fun ls hl => ?_)
  exact w_X2_partBlock_9 F NF _ _ _ _ _ _ _ _ _ hw (lv_sub hl [2, 3, 4, 5, 1, 0] rfl) h
end
theorem c_X2_partBlock {l : Launch} {G : GX} {ad : Nat → Nat} {x1 : Int32} {x2 : Int32} {x3 : Int32} {u : SS} {z : Int32 × SS} (h : f_X2_partBlock x1 x2 x3 u = some z) : MW l yX2_partBlock cX2_partBlock 6 (some .boolean) rmX2_partBlock G (sw G ad u) (sw G ad z.2) [.ref (ad 0), .int x1, .int x2, .int x3] (some (.int z.1)) := MW.of (by decide) (Nat.le_of_ble_eq_true rfl) (fun p e s m below meth c ls F hw hl => w_X2_partBlock_0 F _ _ _ _ _ _ _ hw hl h)
/-! ===== X2_bring ===== -/
theorem dX2_bring_0 : decode cX2_bring 0 = .ok (.iload_n 2, 1) := by decide +kernel
theorem dX2_bring_1 : decode cX2_bring 1 = .ok (.aload_n 0, 1) := by decide +kernel
theorem dX2_bring_2 : decode cX2_bring 2 = .ok (.getfield 12, 3) := by decide +kernel
theorem dX2_bring_5 : decode cX2_bring 5 = .ok (.iload_n 1, 1) := by decide +kernel
theorem dX2_bring_6 : decode cX2_bring 6 = .ok (.invokevirtual 81, 3) := by decide +kernel
theorem dX2_bring_9 : decode cX2_bring 9 = .ok (.if_icmp .le 16, 3) := by decide +kernel
theorem dX2_bring_12 : decode cX2_bring 12 = .ok (.aload_n 0, 1) := by decide +kernel
theorem dX2_bring_13 : decode cX2_bring 13 = .ok (.getfield 12, 3) := by decide +kernel
theorem dX2_bring_16 : decode cX2_bring 16 = .ok (.iload_n 2, 1) := by decide +kernel
theorem dX2_bring_17 : decode cX2_bring 17 = .ok (.iconst 1, 1) := by decide +kernel
theorem dX2_bring_18 : decode cX2_bring 18 = .ok (.isub, 1) := by decide +kernel
theorem dX2_bring_19 : decode cX2_bring 19 = .ok (.invokevirtual 117, 3) := by decide +kernel
theorem dX2_bring_22 : decode cX2_bring 22 = .ok (.goto 4, 3) := by decide +kernel
theorem dX2_bring_25 : decode cX2_bring 25 = .ok (.iconst (-1), 1) := by decide +kernel
theorem dX2_bring_26 : decode cX2_bring 26 = .ok (.istore 4, 2) := by decide +kernel
theorem dX2_bring_28 : decode cX2_bring 28 = .ok (.aload_n 0, 1) := by decide +kernel
theorem dX2_bring_29 : decode cX2_bring 29 = .ok (.getfield 12, 3) := by decide +kernel
theorem dX2_bring_32 : decode cX2_bring 32 = .ok (.iload_n 1, 1) := by decide +kernel
theorem dX2_bring_33 : decode cX2_bring 33 = .ok (.iload_n 2, 1) := by decide +kernel
theorem dX2_bring_34 : decode cX2_bring 34 = .ok (.iload_n 3, 1) := by decide +kernel
theorem dX2_bring_35 : decode cX2_bring 35 = .ok (.invokevirtual 149, 3) := by decide +kernel
theorem dX2_bring_38 : decode cX2_bring 38 = .ok (.aload_n 0, 1) := by decide +kernel
theorem dX2_bring_39 : decode cX2_bring 39 = .ok (.getfield 21, 3) := by decide +kernel
theorem dX2_bring_42 : decode cX2_bring 42 = .ok (.iload_n 1, 1) := by decide +kernel
theorem dX2_bring_43 : decode cX2_bring 43 = .ok (.iload 4, 2) := by decide +kernel
theorem dX2_bring_45 : decode cX2_bring 45 = .ok (.iload_n 3, 1) := by decide +kernel
theorem dX2_bring_46 : decode cX2_bring 46 = .ok (.invokevirtual 152, 3) := by decide +kernel
theorem dX2_bring_49 : decode cX2_bring 49 = .ok (.aload_n 0, 1) := by decide +kernel
theorem dX2_bring_50 : decode cX2_bring 50 = .ok (.getfield 35, 3) := by decide +kernel
theorem dX2_bring_53 : decode cX2_bring 53 = .ok (.iload_n 3, 1) := by decide +kernel
theorem dX2_bring_54 : decode cX2_bring 54 = .ok (.ldc2_w 79, 3) := by decide +kernel
theorem dX2_bring_57 : decode cX2_bring 57 = .ok (.lastore, 1) := by decide +kernel
theorem dX2_bring_58 : decode cX2_bring 58 = .ok (.aload_n 0, 1) := by decide +kernel
theorem dX2_bring_59 : decode cX2_bring 59 = .ok (.getfield 39, 3) := by decide +kernel
theorem dX2_bring_62 : decode cX2_bring 62 = .ok (.iload_n 3, 1) := by decide +kernel
theorem dX2_bring_63 : decode cX2_bring 63 = .ok (.sipush 128, 3) := by decide +kernel
theorem dX2_bring_66 : decode cX2_bring 66 = .ok (.iastore, 1) := by decide +kernel
theorem dX2_bring_67 : decode cX2_bring 67 = .ok (.aload_n 0, 1) := by decide +kernel
theorem dX2_bring_68 : decode cX2_bring 68 = .ok (.iload_n 1, 1) := by decide +kernel
theorem dX2_bring_69 : decode cX2_bring 69 = .ok (.invokevirtual 76, 3) := by decide +kernel
theorem dX2_bring_72 : decode cX2_bring 72 = .ok (.ifCond .eq 15, 3) := by decide +kernel
theorem dX2_bring_75 : decode cX2_bring 75 = .ok (.aload_n 0, 1) := by decide +kernel
theorem dX2_bring_76 : decode cX2_bring 76 = .ok (.getfield 12, 3) := by decide +kernel
theorem dX2_bring_79 : decode cX2_bring 79 = .ok (.iload_n 1, 1) := by decide +kernel
theorem dX2_bring_80 : decode cX2_bring 80 = .ok (.invokevirtual 69, 3) := by decide +kernel
theorem dX2_bring_83 : decode cX2_bring 83 = .ok (.iconst 1, 1) := by decide +kernel
theorem dX2_bring_84 : decode cX2_bring 84 = .ok (.if_icmp .ne 13, 3) := by decide +kernel
theorem dX2_bring_87 : decode cX2_bring 87 = .ok (.aload_n 0, 1) := by decide +kernel
theorem dX2_bring_88 : decode cX2_bring 88 = .ok (.iload_n 1, 1) := by decide +kernel
theorem dX2_bring_89 : decode cX2_bring 89 = .ok (.iload_n 2, 1) := by decide +kernel
theorem dX2_bring_90 : decode cX2_bring 90 = .ok (.iload_n 2, 1) := by decide +kernel
theorem dX2_bring_91 : decode cX2_bring 91 = .ok (.iconst 1, 1) := by decide +kernel
theorem dX2_bring_92 : decode cX2_bring 92 = .ok (.iadd, 1) := by decide +kernel
theorem dX2_bring_93 : decode cX2_bring 93 = .ok (.invokevirtual 155, 3) := by decide +kernel
theorem dX2_bring_96 : decode cX2_bring 96 = .ok (.ireturn, 1) := by decide +kernel
theorem dX2_bring_97 : decode cX2_bring 97 = .ok (.iload_n 2, 1) := by decide +kernel
theorem dX2_bring_98 : decode cX2_bring 98 = .ok (.aload_n 0, 1) := by decide +kernel
theorem dX2_bring_99 : decode cX2_bring 99 = .ok (.getfield 12, 3) := by decide +kernel
theorem dX2_bring_102 : decode cX2_bring 102 = .ok (.iload_n 1, 1) := by decide +kernel
theorem dX2_bring_103 : decode cX2_bring 103 = .ok (.invokevirtual 81, 3) := by decide +kernel
theorem dX2_bring_106 : decode cX2_bring 106 = .ok (.if_icmp .le 13, 3) := by decide +kernel
theorem dX2_bring_109 : decode cX2_bring 109 = .ok (.aload_n 0, 1) := by decide +kernel
theorem dX2_bring_110 : decode cX2_bring 110 = .ok (.iload_n 2, 1) := by decide +kernel
theorem dX2_bring_111 : decode cX2_bring 111 = .ok (.iconst 1, 1) := by decide +kernel
theorem dX2_bring_112 : decode cX2_bring 112 = .ok (.isub, 1) := by decide +kernel
theorem dX2_bring_113 : decode cX2_bring 113 = .ok (.invokevirtual 87, 3) := by decide +kernel
theorem dX2_bring_116 : decode cX2_bring 116 = .ok (.goto 10, 3) := by decide +kernel
theorem dX2_bring_119 : decode cX2_bring 119 = .ok (.aload_n 0, 1) := by decide +kernel
theorem dX2_bring_120 : decode cX2_bring 120 = .ok (.iload_n 2, 1) := by decide +kernel
theorem dX2_bring_121 : decode cX2_bring 121 = .ok (.iconst 1, 1) := by decide +kernel
theorem dX2_bring_122 : decode cX2_bring 122 = .ok (.iadd, 1) := by decide +kernel
theorem dX2_bring_123 : decode cX2_bring 123 = .ok (.invokevirtual 87, 3) := by decide +kernel
theorem dX2_bring_126 : decode cX2_bring 126 = .ok (.lstore 5, 2) := by decide +kernel
theorem dX2_bring_128 : decode cX2_bring 128 = .ok (.aload_n 0, 1) := by decide +kernel
theorem dX2_bring_129 : decode cX2_bring 129 = .ok (.getfield 35, 3) := by decide +kernel
theorem dX2_bring_132 : decode cX2_bring 132 = .ok (.iload_n 3, 1) := by decide +kernel
theorem dX2_bring_133 : decode cX2_bring 133 = .ok (.lload 5, 2) := by decide +kernel
theorem dX2_bring_135 : decode cX2_bring 135 = .ok (.lastore, 1) := by decide +kernel
theorem dX2_bring_136 : decode cX2_bring 136 = .ok (.iload_n 2, 1) := by decide +kernel
theorem dX2_bring_137 : decode cX2_bring 137 = .ok (.istore 7, 2) := by decide +kernel
theorem dX2_bring_139 : decode cX2_bring 139 = .ok (.iload 7, 2) := by decide +kernel
theorem dX2_bring_141 : decode cX2_bring 141 = .ok (.aload_n 0, 1) := by decide +kernel
theorem dX2_bring_142 : decode cX2_bring 142 = .ok (.getfield 12, 3) := by decide +kernel
theorem dX2_bring_145 : decode cX2_bring 145 = .ok (.iload_n 1, 1) := by decide +kernel
theorem dX2_bring_146 : decode cX2_bring 146 = .ok (.invokevirtual 81, 3) := by decide +kernel
theorem dX2_bring_149 : decode cX2_bring 149 = .ok (.if_icmp .le 23, 3) := by decide +kernel
theorem dX2_bring_152 : decode cX2_bring 152 = .ok (.aload_n 0, 1) := by decide +kernel
theorem dX2_bring_153 : decode cX2_bring 153 = .ok (.iload 7, 2) := by decide +kernel
theorem dX2_bring_155 : decode cX2_bring 155 = .ok (.iconst 1, 1) := by decide +kernel
theorem dX2_bring_156 : decode cX2_bring 156 = .ok (.isub, 1) := by decide +kernel
theorem dX2_bring_157 : decode cX2_bring 157 = .ok (.invokevirtual 87, 3) := by decide +kernel
theorem dX2_bring_160 : decode cX2_bring 160 = .ok (.lload 5, 2) := by decide +kernel
theorem dX2_bring_162 : decode cX2_bring 162 = .ok (.lcmp, 1) := by decide +kernel
theorem dX2_bring_163 : decode cX2_bring 163 = .ok (.ifCond .ne 9, 3) := by decide +kernel
theorem dX2_bring_166 : decode cX2_bring 166 = .ok (.iinc 7 (-1), 3) := by decide +kernel
theorem dX2_bring_169 : decode cX2_bring 169 = .ok (.goto (-30), 3) := by decide +kernel
theorem dX2_bring_172 : decode cX2_bring 172 = .ok (.iload_n 2, 1) := by decide +kernel
theorem dX2_bring_173 : decode cX2_bring 173 = .ok (.iconst 1, 1) := by decide +kernel
theorem dX2_bring_174 : decode cX2_bring 174 = .ok (.iadd, 1) := by decide +kernel
theorem dX2_bring_175 : decode cX2_bring 175 = .ok (.istore 8, 2) := by decide +kernel
theorem dX2_bring_177 : decode cX2_bring 177 = .ok (.iload 8, 2) := by decide +kernel
theorem dX2_bring_179 : decode cX2_bring 179 = .ok (.aload_n 0, 1) := by decide +kernel
theorem dX2_bring_180 : decode cX2_bring 180 = .ok (.getfield 12, 3) := by decide +kernel
theorem dX2_bring_183 : decode cX2_bring 183 = .ok (.iload_n 1, 1) := by decide +kernel
theorem dX2_bring_184 : decode cX2_bring 184 = .ok (.invokevirtual 84, 3) := by decide +kernel
theorem dX2_bring_187 : decode cX2_bring 187 = .ok (.if_icmp .ge 21, 3) := by decide +kernel
theorem dX2_bring_190 : decode cX2_bring 190 = .ok (.aload_n 0, 1) := by decide +kernel
theorem dX2_bring_191 : decode cX2_bring 191 = .ok (.iload 8, 2) := by decide +kernel
theorem dX2_bring_193 : decode cX2_bring 193 = .ok (.invokevirtual 87, 3) := by decide +kernel
theorem dX2_bring_196 : decode cX2_bring 196 = .ok (.lload 5, 2) := by decide +kernel
theorem dX2_bring_198 : decode cX2_bring 198 = .ok (.lcmp, 1) := by decide +kernel
theorem dX2_bring_199 : decode cX2_bring 199 = .ok (.ifCond .ne 9, 3) := by decide +kernel
theorem dX2_bring_202 : decode cX2_bring 202 = .ok (.iinc 8 1, 3) := by decide +kernel
theorem dX2_bring_205 : decode cX2_bring 205 = .ok (.goto (-28), 3) := by decide +kernel
theorem dX2_bring_208 : decode cX2_bring 208 = .ok (.aload_n 0, 1) := by decide +kernel
theorem dX2_bring_209 : decode cX2_bring 209 = .ok (.iload_n 1, 1) := by decide +kernel
theorem dX2_bring_210 : decode cX2_bring 210 = .ok (.iload_n 2, 1) := by decide +kernel
theorem dX2_bring_211 : decode cX2_bring 211 = .ok (.iload 7, 2) := by decide +kernel
theorem dX2_bring_213 : decode cX2_bring 213 = .ok (.iload 8, 2) := by decide +kernel
theorem dX2_bring_215 : decode cX2_bring 215 = .ok (.invokevirtual 159, 3) := by decide +kernel
theorem dX2_bring_218 : decode cX2_bring 218 = .ok (.iload 8, 2) := by decide +kernel
theorem dX2_bring_220 : decode cX2_bring 220 = .ok (.iload 7, 2) := by decide +kernel
theorem dX2_bring_222 : decode cX2_bring 222 = .ok (.isub, 1) := by decide +kernel
theorem dX2_bring_223 : decode cX2_bring 223 = .ok (.bipush 8, 2) := by decide +kernel
theorem dX2_bring_225 : decode cX2_bring 225 = .ok (.if_icmp .le 15, 3) := by decide +kernel
theorem dX2_bring_228 : decode cX2_bring 228 = .ok (.aload_n 0, 1) := by decide +kernel
theorem dX2_bring_229 : decode cX2_bring 229 = .ok (.iload_n 1, 1) := by decide +kernel
theorem dX2_bring_230 : decode cX2_bring 230 = .ok (.iload 7, 2) := by decide +kernel
theorem dX2_bring_232 : decode cX2_bring 232 = .ok (.iload 8, 2) := by decide +kernel
theorem dX2_bring_234 : decode cX2_bring 234 = .ok (.invokevirtual 163, 3) := by decide +kernel
theorem dX2_bring_237 : decode cX2_bring 237 = .ok (.ifCond .eq 7, 3) := by decide +kernel
theorem dX2_bring_240 : decode cX2_bring 240 = .ok (.iconst 1, 1) := by decide +kernel
theorem dX2_bring_241 : decode cX2_bring 241 = .ok (.goto 4, 3) := by decide +kernel
theorem dX2_bring_244 : decode cX2_bring 244 = .ok (.iconst 0, 1) := by decide +kernel
theorem dX2_bring_245 : decode cX2_bring 245 = .ok (.ireturn, 1) := by decide +kernel
theorem yv_X1_insert_X2 : YV RX2 149 yX1_insert cX1_insert 6 none 3 := ⟨(tw 231 (by decide +kernel) rfl), (tw 3 (by decide +kernel) rfl), (tw 228 (by decide +kernel) rfl), (tw 229 (by decide +kernel) rfl), (tw 230 (by decide +kernel) rfl), by decide +kernel⟩
theorem k_X1_insert_s_ {p : Program} {l : Launch} {e : Env} {R : Room} {s : State} {m : MethodId} {args : Array Value} {below : List Frame} {meth : Method} {c : Code} {H : Heap} {locs : List Loc} {cells slots : Nat} {Q : State → Prop} {G : GX} {A : Nat → Prop} {ad : Nat → Nat} {u : SS} {cc : ByteArray} {nL pc : Nat} {y : MethodName} {ret : Option FieldType} {ls : Array Slot} {rest : List Value} {x1 : Int32} {x2 : Int32} {x3 : Int32} {z : OS} (F : FX p m c cc nL s args y ret RX2 meth) (hw : WD G A s (sw G ad u) H locs) (h : f_X1_insert x1 x2 x3 u.1 = some z) (hR : rmX1_insert.frames + 1 ≤ R.frames ∧ 8 + (6 + 11) + rmX1_insert.locals ≤ R.locals) (hcs : cells ≤ R.cells ∧ slots ≤ R.slots) (hsz : ls.size = nL) (hW : (rest.map fun v => v.category).sum ≤ 8) (hdg : decode cc pc = .ok (.invokevirtual 149, 3)) (kk : ∀ (H : Heap) (locs : List Loc), WD G A s (sw G ad (sO u z)) H locs → W p l e R s m args below meth c H locs cells slots Q (F0 m (pc + 3) ls (rest))) : W p l e R s m args below meth c H locs cells slots Q (F0 m pc ls (.int x3 :: .int x2 :: .int x1 :: .ref (ad 1) :: rest)) := callW (runV F yv_X1_insert_X2 (c_X1_insert h (ad := (fun k => ad (k + 1)))) hw.1 (hw.2.1.sub [1, 2, 3, 4] rfl) (hw.2.2.1.sub [1, 2, 3, 4] (by decide) rfl) rfl rfl rfl ⟨rfl, rfl⟩ hR hcs rfl hsz rfl hW hdg) hw.2.2.2 (hw.2.2.1.sub [1, 2, 3, 4] (by decide) rfl).own_in (fun H1 l1 hP hk hS => kk H1 l1 ⟨hw.1, (joinW hw.2.1 hw.2.2.1 [1, 2, 3, 4] [0, 5, 6, 7, 8, 9, 10, 11, 12, 13] rfl (by decide) hk hP).sub [0, 10, 11, 12, 13, 1, 2, 3, 4, 5, 6, 7, 8, 9] rfl, hw.2.2.1.addr rfl, hS⟩)
theorem s_g0_1 {p : Program} {l : Launch} {e : Env} {R : Room} {s : State} {m : MethodId} {args : Array Value} {below : List Frame} {meth : Method} {c : Code} {H : Heap} {locs : List Loc} {cells slots : Nat} {Q : State → Prop} {G : GX} {A : Nat → Prop} {ad : Nat → Nat} {u : SS} {cc : ByteArray} {nL pc : Nat} {y : MethodName} {ret : Option FieldType} {ls : Array Slot} {rest : List Value} (F : FX p m c cc nL s args y ret RX2 meth) (hw : WD G A s (sw G ad u) H locs) (hdg : decode cc pc = .ok (.getfield 21, 3)) (kk : W p l e R s m args below meth c H locs cells slots Q (F0 m (pc + 3) ls (.ref (ad 5) :: rest))) : W p l e R s m args below meth c H locs cells slots Q (F0 m pc ls (.ref (ad 0) :: rest)) := va_get (D := G.1) (ci := 2) (C := RX2) (T := TX2) (N := 8) (Ts := lw_gt) F.1.1 F.1.2.1 (fun _ h => F.tb h) inX2 F.1.2.2.2.1 hw.1.1 hw.2.1 0 rfl rfl 1 (by decide) (F.tb (tw 69 (by decide +kernel) rfl)) (fun _ h9 => h9) rfl hdg kk
theorem yv_X0_follow_X2 : YV RX2 152 yX0_follow cX0_follow 5 none 3 := ⟨(tw 235 (by decide +kernel) rfl), (tw 5 (by decide +kernel) rfl), (tw 232 (by decide +kernel) rfl), (tw 233 (by decide +kernel) rfl), (tw 234 (by decide +kernel) rfl), by decide +kernel⟩
theorem k_X0_follow_s_ {p : Program} {l : Launch} {e : Env} {R : Room} {s : State} {m : MethodId} {args : Array Value} {below : List Frame} {meth : Method} {c : Code} {H : Heap} {locs : List Loc} {cells slots : Nat} {Q : State → Prop} {G : GX} {A : Nat → Prop} {ad : Nat → Nat} {u : SS} {cc : ByteArray} {nL pc : Nat} {y : MethodName} {ret : Option FieldType} {ls : Array Slot} {rest : List Value} {x1 : Int32} {x2 : Int32} {x3 : Int32} {z : OS} (F : FX p m c cc nL s args y ret RX2 meth) (hw : WD G A s (sw G ad u) H locs) (h : f_X0_follow x1 x2 x3 u.2.1 = some z) (hR : rmX0_follow.frames + 1 ≤ R.frames ∧ 8 + (5 + 11) + rmX0_follow.locals ≤ R.locals) (hcs : cells ≤ R.cells ∧ slots ≤ R.slots) (hsz : ls.size = nL) (hW : (rest.map fun v => v.category).sum ≤ 8) (hdg : decode cc pc = .ok (.invokevirtual 152, 3)) (kk : ∀ (H : Heap) (locs : List Loc), WD G A s (sw G ad (sK u z)) H locs → W p l e R s m args below meth c H locs cells slots Q (F0 m (pc + 3) ls (rest))) : W p l e R s m args below meth c H locs cells slots Q (F0 m pc ls (.int x3 :: .int x2 :: .int x1 :: .ref (ad 5) :: rest)) := callW (runV F yv_X0_follow_X2 (c_X0_follow h (ad := (fun k => ad (k + 5)))) hw.1 (hw.2.1.sub [5, 6, 7, 8] rfl) (hw.2.2.1.sub [5, 6, 7, 8] (by decide) rfl) rfl rfl rfl ⟨rfl, rfl⟩ hR hcs rfl hsz rfl hW hdg) hw.2.2.2 (hw.2.2.1.sub [5, 6, 7, 8] (by decide) rfl).own_in (fun H1 l1 hP hk hS => kk H1 l1 ⟨hw.1, (joinW hw.2.1 hw.2.2.1 [5, 6, 7, 8] [0, 1, 2, 3, 4, 9, 10, 11, 12, 13] rfl (by decide) hk hP).sub [0, 1, 2, 3, 4, 10, 11, 12, 13, 5, 6, 7, 8, 9] rfl, hw.2.2.1.addr rfl, hS⟩)
theorem yv_X2_labelWithin_X2 : YV RX2 159 yX2_labelWithin cX2_labelWithin 7 none 4 := ⟨(tw 279 (by decide +kernel) rfl), (tw 2 (by decide +kernel) rfl), (tw 276 (by decide +kernel) rfl), (tw 277 (by decide +kernel) rfl), (tw 278 (by decide +kernel) rfl), by decide +kernel⟩
theorem k_X2_labelWithin_s_ {p : Program} {l : Launch} {e : Env} {R : Room} {s : State} {m : MethodId} {args : Array Value} {below : List Frame} {meth : Method} {c : Code} {H : Heap} {locs : List Loc} {cells slots : Nat} {Q : State → Prop} {G : GX} {A : Nat → Prop} {ad : Nat → Nat} {u : SS} {cc : ByteArray} {nL pc : Nat} {y : MethodName} {ret : Option FieldType} {ls : Array Slot} {rest : List Value} {x1 : Int32} {x2 : Int32} {x3 : Int32} {x4 : Int32} {z : SS} (F : FX p m c cc nL s args y ret RX2 meth) (hw : WD G A s (sw G ad u) H locs) (h : f_X2_labelWithin x1 x2 x3 x4 u = some z) (hR : rmX2_labelWithin.frames + 1 ≤ R.frames ∧ 8 + (7 + 11) + rmX2_labelWithin.locals ≤ R.locals) (hcs : cells ≤ R.cells ∧ slots ≤ R.slots) (hsz : ls.size = nL) (hW : (rest.map fun v => v.category).sum ≤ 8) (hdg : decode cc pc = .ok (.invokevirtual 159, 3)) (kk : ∀ (H : Heap) (locs : List Loc), WD G A s (sw G ad z) H locs → W p l e R s m args below meth c H locs cells slots Q (F0 m (pc + 3) ls (rest))) : W p l e R s m args below meth c H locs cells slots Q (F0 m pc ls (.int x4 :: .int x3 :: .int x2 :: .int x1 :: .ref (ad 0) :: rest)) := callW (runV F yv_X2_labelWithin_X2 (c_X2_labelWithin h) hw.1 hw.2.1 hw.2.2.1 rfl rfl rfl ⟨rfl, rfl⟩ hR hcs rfl hsz rfl hW hdg) hw.2.2.2 hw.2.2.1.own_in (fun H1 l1 hP _ hS => kk H1 l1 ⟨hw.1, hP, hw.2.2.1.addr rfl, hS⟩)
theorem yv_X2_partBlock_X2 : YV RX2 163 yX2_partBlock cX2_partBlock 6 (some .boolean) 3 := ⟨(tw 295 (by decide +kernel) rfl), (tw 2 (by decide +kernel) rfl), (tw 292 (by decide +kernel) rfl), (tw 293 (by decide +kernel) rfl), (tw 294 (by decide +kernel) rfl), by decide +kernel⟩
theorem k_X2_partBlock_s_ {p : Program} {l : Launch} {e : Env} {R : Room} {s : State} {m : MethodId} {args : Array Value} {below : List Frame} {meth : Method} {c : Code} {H : Heap} {locs : List Loc} {cells slots : Nat} {Q : State → Prop} {G : GX} {A : Nat → Prop} {ad : Nat → Nat} {u : SS} {cc : ByteArray} {nL pc : Nat} {y : MethodName} {ret : Option FieldType} {ls : Array Slot} {rest : List Value} {x1 : Int32} {x2 : Int32} {x3 : Int32} {z : Int32 × SS} (F : FX p m c cc nL s args y ret RX2 meth) (hw : WD G A s (sw G ad u) H locs) (h : f_X2_partBlock x1 x2 x3 u = some z) (hR : rmX2_partBlock.frames + 1 ≤ R.frames ∧ 8 + (6 + 11) + rmX2_partBlock.locals ≤ R.locals) (hcs : cells ≤ R.cells ∧ slots ≤ R.slots) (hsz : ls.size = nL) (hW : (rest.map fun v => v.category).sum ≤ 8) (hdg : decode cc pc = .ok (.invokevirtual 163, 3)) (kk : ∀ (H : Heap) (locs : List Loc), WD G A s (sw G ad z.2) H locs → W p l e R s m args below meth c H locs cells slots Q (F0 m (pc + 3) ls (.int z.1 :: rest))) : W p l e R s m args below meth c H locs cells slots Q (F0 m pc ls (.int x3 :: .int x2 :: .int x1 :: .ref (ad 0) :: rest)) := callW (runV F yv_X2_partBlock_X2 (c_X2_partBlock h) hw.1 hw.2.1 hw.2.2.1 rfl rfl rfl ⟨rfl, rfl⟩ hR hcs rfl hsz rfl hW hdg) hw.2.2.2 hw.2.2.1.own_in (fun H1 l1 hP _ hS => kk H1 l1 ⟨hw.1, hP, hw.2.2.1.addr rfl, hS⟩)
def rmX2_bring : Room := { frames := 5, cells := 0, slots := 0, locals := 144 }
noncomputable def f_X2_bring_208 (x1 : Int32) (x2 : Int32) (x7 : Int32) (x8 : Int32) (u : SS) : Option (Int32 × SS) := (f_X2_labelWithin x1 x2 x7 x8 u).bind (fun z45 => (if (x8 - x7) ≤ (8 : Int32) then some (1, z45) else (f_X2_partBlock x1 x7 x8 z45).bind (fun z48 => (if z48.1 = 0 then some (0, z48.2) else some (1, z48.2)))))
noncomputable def f_X2_bring_177 : Nat → Int32 → Int32 → Int64 → Int32 → Int32 → SS → Option (Int32 × SS)
  | 0, _, _, _, _, _, _ => none
  | n + 1, x1, x2, x5, x7, x8, u => (f_X1_end x1 u.1).bind (fun z39 => (if z39 ≤ x8 then f_X2_bring_208 x1 x2 x7 x8 u else (f_X2_labelAt x8 u).bind (fun z42 => (if (lg_cmp z42 x5) = 0 then f_X2_bring_177 n x1 x2 x5 x7 (x8 + 1) u else f_X2_bring_208 x1 x2 x7 x8 u))))
noncomputable def f_X2_bring_139 : Nat → Int32 → Int32 → Int64 → Int32 → SS → Option (Int32 × SS)
  | 0, _, _, _, _, _ => none
  | n + 1, x1, x2, x5, x7, u => (f_X1_first x1 u.1).bind (fun z33 => (if x7 ≤ z33 then f_X2_bring_177 NF x1 x2 x5 x7 (x2 + 1) u else (f_X2_labelAt (x7 - 1) u).bind (fun z36 => (if (lg_cmp z36 x5) = 0 then f_X2_bring_139 n x1 x2 x5 (x7 + (-1)) u else f_X2_bring_177 NF x1 x2 x5 x7 (x2 + 1) u))))
noncomputable def f_X2_bring_26 (x1 : Int32) (x2 : Int32) (x3 : Int32) (t0 : Int32) (u : SS) : Option (Int32 × SS) := (f_X1_insert x1 x2 x3 u.1).bind (fun z6 => (f_X0_follow x1 t0 x3 (sO u z6).2.1).bind (fun z8 => (if ix x3 600 = true then (if ix x3 600 = true then (f_X2_hasBlocks x1 (sA (sL (sK (sO u z6) z8) (Int32.toNatClampNeg x3) (-1)) 6 (Int32.toNatClampNeg x3) 128)).bind (fun z12 => (if z12 = 0 then (f_X2_labelRun x1 x2 (x2 + 1) (sA (sL (sK (sO u z6) z8) (Int32.toNatClampNeg x3) (-1)) 6 (Int32.toNatClampNeg x3) 128)).bind (fun z15 => (if zb z15.1 = true then some (z15.1, z15.2) else none)) else (f_X1_length x1 (sA (sL (sK (sO u z6) z8) (Int32.toNatClampNeg x3) (-1)) 6 (Int32.toNatClampNeg x3) 128).1).bind (fun z18 => (if z18 = (1 : Int32) then (f_X2_labelRun x1 x2 (x2 + 1) (sA (sL (sK (sO u z6) z8) (Int32.toNatClampNeg x3) (-1)) 6 (Int32.toNatClampNeg x3) 128)).bind (fun z30 => (if zb z30.1 = true then some (z30.1, z30.2) else none)) else (f_X1_first x1 (sA (sL (sK (sO u z6) z8) (Int32.toNatClampNeg x3) (-1)) 6 (Int32.toNatClampNeg x3) 128).1).bind (fun z21 => (if x2 ≤ z21 then (f_X2_labelAt (x2 + 1) (sA (sL (sK (sO u z6) z8) (Int32.toNatClampNeg x3) (-1)) 6 (Int32.toNatClampNeg x3) 128)).bind (fun z24 => (if ix x3 600 = true then f_X2_bring_139 NF x1 x2 z24 x2 (sL (sA (sL (sK (sO u z6) z8) (Int32.toNatClampNeg x3) (-1)) 6 (Int32.toNatClampNeg x3) 128) (Int32.toNatClampNeg x3) z24) else none)) else (f_X2_labelAt (x2 - 1) (sA (sL (sK (sO u z6) z8) (Int32.toNatClampNeg x3) (-1)) 6 (Int32.toNatClampNeg x3) 128)).bind (fun z27 => (if ix x3 600 = true then f_X2_bring_139 NF x1 x2 z27 x2 (sL (sA (sL (sK (sO u z6) z8) (Int32.toNatClampNeg x3) (-1)) 6 (Int32.toNatClampNeg x3) 128) (Int32.toNatClampNeg x3) z27) else none)))))))) else none) else none)))
noncomputable def f_X2_bring (x1 : Int32) (x2 : Int32) (x3 : Int32) (u : SS) : Option (Int32 × SS) := (f_X1_first x1 u.1).bind (fun z1 => (if x2 ≤ z1 then f_X2_bring_26 x1 x2 x3 (-1) u else (f_X1_standAt (x2 - 1) u.1).bind (fun z4 => f_X2_bring_26 x1 x2 x3 z4 u)))
section
variable {p : Program} {l : Launch} {e : Env} {s : State} {m : MethodId} {args : Array Value} {below : List Frame} {meth : Method} {c : Code}
variable {G : GX} {A : Nat → Prop} {ad : Nat → Nat} 
set_option maxHeartbeats 4000000 in
set_option maxRecDepth 100000 in
theorem w_X2_bring_208 (F : FX p m c cX2_bring 9 s args yX2_bring (some .boolean) RX2 meth) {z : Int32 × SS} : ∀ (x1 : Int32) (x2 : Int32) (x7 : Int32) (x8 : Int32) (u : SS) (H : Heap) (locs : List Loc) (ls : Array Slot), WD G A s (sw G ad u) H locs → lv_has ls 9 [(0, .ref (ad 0)), (1, .int x1), (2, .int x2), (7, .int x7), (8, .int x8)] → f_X2_bring_208 x1 x2 x7 x8 u = some z → W p l e rmX2_bring s m args below meth c H locs 0 0 (MQ below (QW G (sw G ad z.2) A (some (.int z.1))) args s 0 0 A) (F0 m 208 ls []) := by
  obtain ⟨⟨hx, hb, hml, hown, hts⟩, hr, hlocks⟩ := id F
  intro x1 x2 x7 x8 u H locs ls hw hl h
  unfold f_X2_bring_208 at h
  refine lv_aload_n hx hb dX2_bring_208 rfl (lv_at hl 0 rfl) ?_
  refine lv_iload_n hx hb dX2_bring_209 rfl (lv_at hl 1 rfl) ?_
  refine lv_iload_n hx hb dX2_bring_210 rfl (lv_at hl 2 rfl) ?_
  refine lv_iload hx hb dX2_bring_211 (lv_at hl 3 rfl) ?_
  refine lv_iload hx hb dX2_bring_213 (lv_at hl 4 rfl) ?_
  obtain ⟨z45, e46, h⟩ := bnd h
  refine k_X2_labelWithin_s_ F hw e46 ⟨Nat.le_of_ble_eq_true rfl, Nat.le_of_ble_eq_true rfl⟩ ⟨Nat.zero_le _, Nat.zero_le _⟩ hl.1 (Nat.le_of_ble_eq_true rfl) dX2_bring_215 (fun H locs hw => ?_)
  refine lv_iload hx hb dX2_bring_218 (lv_at hl 4 rfl) ?_
  refine lv_iload hx hb dX2_bring_220 (lv_at hl 3 rfl) ?_
  refine lv_isub hx hb dX2_bring_222 ?_
  refine lv_bipush (v := 8) hx hb dX2_bring_223 rfl ?_
  refine lv_icmp_le (tgt := 240) hx hb dX2_bring_225 rfl (fun c47 => ?_) (fun c47 => ?_)
  · replace h := itT h c47
    refine lv_iconst (v := 1) hx hb dX2_bring_240 rfl ?_
    refine lv_goto (tgt := 245) hx hb dX2_bring_241 rfl ?_
    cases h
    exact retW_z F hw narrow_b1 dX2_bring_245
  · replace h := itF h c47
    refine lv_aload_n hx hb dX2_bring_228 rfl (lv_at hl 0 rfl) ?_
    refine lv_iload_n hx hb dX2_bring_229 rfl (lv_at hl 1 rfl) ?_
    refine lv_iload hx hb dX2_bring_230 (lv_at hl 3 rfl) ?_
    refine lv_iload hx hb dX2_bring_232 (lv_at hl 4 rfl) ?_
    obtain ⟨z48, e49, h⟩ := bnd h
    refine k_X2_partBlock_s_ F hw e49 ⟨Nat.le_of_ble_eq_true rfl, Nat.le_of_ble_eq_true rfl⟩ ⟨Nat.zero_le _, Nat.zero_le _⟩ hl.1 (Nat.le_of_ble_eq_true rfl) dX2_bring_234 (fun H locs hw => ?_)
    refine lv_if_eq (tgt := 244) hx hb dX2_bring_237 rfl (fun c50 => ?_) (fun c50 => ?_)
    · replace h := itT h c50
      refine lv_iconst (v := 0) hx hb dX2_bring_244 rfl ?_
      cases h
      exact retW_z F hw narrow_b0 dX2_bring_245
    · replace h := itF h c50
      refine lv_iconst (v := 1) hx hb dX2_bring_240 rfl ?_
      refine lv_goto (tgt := 245) hx hb dX2_bring_241 rfl ?_
      cases h
      exact retW_z F hw narrow_b1 dX2_bring_245
set_option maxHeartbeats 4000000 in
set_option maxRecDepth 100000 in
theorem w_X2_bring_177 (F : FX p m c cX2_bring 9 s args yX2_bring (some .boolean) RX2 meth) {z : Int32 × SS} : ∀ (n : Nat) (x1 : Int32) (x2 : Int32) (x5 : Int64) (x7 : Int32) (x8 : Int32) (u : SS) (H : Heap) (locs : List Loc) (ls : Array Slot), WD G A s (sw G ad u) H locs → lv_has ls 9 [(0, .ref (ad 0)), (1, .int x1), (2, .int x2), (5, .long x5), (7, .int x7), (8, .int x8)] → f_X2_bring_177 n x1 x2 x5 x7 x8 u = some z → W p l e rmX2_bring s m args below meth c H locs 0 0 (MQ below (QW G (sw G ad z.2) A (some (.int z.1))) args s 0 0 A) (F0 m 177 ls []) := by
  obtain ⟨⟨hx, hb, hml, hown, hts⟩, hr, hlocks⟩ := id F
  intro n
  induction n with
  | zero =>
    intro x1 x2 x5 x7 x8 u H locs ls hw hl h
    rw [f_X2_bring_177] at h
    cases h
  | succ n ih =>
    intro x1 x2 x5 x7 x8 u H locs ls hw hl h
    rw [f_X2_bring_177] at h
    refine lv_iload hx hb dX2_bring_177 (lv_at hl 5 rfl) ?_
    refine lv_aload_n hx hb dX2_bring_179 rfl (lv_at hl 0 rfl) ?_
    refine s_g0_0 F hw dX2_bring_180 ?_
    refine lv_iload_n hx hb dX2_bring_183 rfl (lv_at hl 1 rfl) ?_
    obtain ⟨z39, e40, h⟩ := bnd h
    refine k_X1_end_s_ F hw e40 ⟨Nat.le_of_ble_eq_true rfl, Nat.le_of_ble_eq_true rfl⟩ ⟨Nat.zero_le _, Nat.zero_le _⟩ hl.1 (Nat.le_of_ble_eq_true rfl) dX2_bring_184 ?_
    refine lv_icmp_ge (tgt := 208) hx hb dX2_bring_187 rfl (fun c41 => ?_) (fun c41 => ?_)
    · replace h := itT h c41
      exact w_X2_bring_208 F _ _ _ _ _ _ _ _ hw (lv_sub hl [0, 1, 2, 4, 5] rfl) h
    · replace h := itF h c41
      refine lv_aload_n hx hb dX2_bring_190 rfl (lv_at hl 0 rfl) ?_
      refine lv_iload hx hb dX2_bring_191 (lv_at hl 5 rfl) ?_
      obtain ⟨z42, e43, h⟩ := bnd h
      refine k_X2_labelAt_s_ F hw e43 ⟨Nat.le_of_ble_eq_true rfl, Nat.le_of_ble_eq_true rfl⟩ ⟨Nat.zero_le _, Nat.zero_le _⟩ hl.1 (Nat.le_of_ble_eq_true rfl) dX2_bring_193 ?_
      refine lv_lload hx hb dX2_bring_196 (lv_at hl 3 rfl) ?_
      refine W.lcmp hx hb dX2_bring_198 ?_
      refine lv_if_ne (tgt := 208) hx hb dX2_bring_199 rfl (fun c44 => ?_) (fun c44 => ?_)
      · replace h := itF h c44
        exact w_X2_bring_208 F _ _ _ _ _ _ _ _ hw (lv_sub hl [0, 1, 2, 4, 5] rfl) h
      · replace h := itT h c44
        refine lv_iinc (v := (x8 + 1)) (lv' := [(8, .int (x8 + 1)), (0, .ref (ad 0)), (1, .int x1), (2, .int x2), (5, .long x5), (7, .int x7)]) hx hb dX2_bring_202 hl (k := 5) rfl rfl (by decide) rfl (fun ls hl => ?_)
        refine lv_goto (tgt := 177) hx hb dX2_bring_205 rfl ?_
        exact ih _ _ _ _ _ _ _ _ _ hw (lv_sub hl [1, 2, 3, 4, 5, 0] rfl) h
set_option maxHeartbeats 4000000 in
set_option maxRecDepth 100000 in
theorem w_X2_bring_139 (F : FX p m c cX2_bring 9 s args yX2_bring (some .boolean) RX2 meth) {z : Int32 × SS} : ∀ (n : Nat) (x1 : Int32) (x2 : Int32) (x5 : Int64) (x7 : Int32) (u : SS) (H : Heap) (locs : List Loc) (ls : Array Slot), WD G A s (sw G ad u) H locs → lv_has ls 9 [(0, .ref (ad 0)), (1, .int x1), (2, .int x2), (5, .long x5), (7, .int x7)] → f_X2_bring_139 n x1 x2 x5 x7 u = some z → W p l e rmX2_bring s m args below meth c H locs 0 0 (MQ below (QW G (sw G ad z.2) A (some (.int z.1))) args s 0 0 A) (F0 m 139 ls []) := by
  obtain ⟨⟨hx, hb, hml, hown, hts⟩, hr, hlocks⟩ := id F
  intro n
  induction n with
  | zero =>
    intro x1 x2 x5 x7 u H locs ls hw hl h
    rw [f_X2_bring_139] at h
    cases h
  | succ n ih =>
    intro x1 x2 x5 x7 u H locs ls hw hl h
    rw [f_X2_bring_139] at h
    refine lv_iload hx hb dX2_bring_139 (lv_at hl 4 rfl) ?_
    refine lv_aload_n hx hb dX2_bring_141 rfl (lv_at hl 0 rfl) ?_
    refine s_g0_0 F hw dX2_bring_142 ?_
    refine lv_iload_n hx hb dX2_bring_145 rfl (lv_at hl 1 rfl) ?_
    obtain ⟨z33, e34, h⟩ := bnd h
    refine k_X1_first_s_ F hw e34 ⟨Nat.le_of_ble_eq_true rfl, Nat.le_of_ble_eq_true rfl⟩ ⟨Nat.zero_le _, Nat.zero_le _⟩ hl.1 (Nat.le_of_ble_eq_true rfl) dX2_bring_146 ?_
    refine lv_icmp_le (tgt := 172) hx hb dX2_bring_149 rfl (fun c35 => ?_) (fun c35 => ?_)
    · replace h := itT h c35
      refine lv_iload_n hx hb dX2_bring_172 rfl (lv_at hl 2 rfl) ?_
      refine lv_iconst (v := 1) hx hb dX2_bring_173 rfl ?_
      refine lv_iadd hx hb dX2_bring_174 ?_
      refine lv_istore (lv' := [(8, .int (x2 + 1)), (0, .ref (ad 0)), (1, .int x1), (2, .int x2), (5, .long x5), (7, .int x7)]) hx hb dX2_bring_175 hl (by decide) rfl (fun ls hl => ?_)
      exact w_X2_bring_177 F NF _ _ _ _ _ _ _ _ _ hw (lv_sub hl [1, 2, 3, 4, 5, 0] rfl) h
    · replace h := itF h c35
      refine lv_aload_n hx hb dX2_bring_152 rfl (lv_at hl 0 rfl) ?_
      refine lv_iload hx hb dX2_bring_153 (lv_at hl 4 rfl) ?_
      refine lv_iconst (v := 1) hx hb dX2_bring_155 rfl ?_
      refine lv_isub hx hb dX2_bring_156 ?_
      obtain ⟨z36, e37, h⟩ := bnd h
      refine k_X2_labelAt_s_ F hw e37 ⟨Nat.le_of_ble_eq_true rfl, Nat.le_of_ble_eq_true rfl⟩ ⟨Nat.zero_le _, Nat.zero_le _⟩ hl.1 (Nat.le_of_ble_eq_true rfl) dX2_bring_157 ?_
      refine lv_lload hx hb dX2_bring_160 (lv_at hl 3 rfl) ?_
      refine W.lcmp hx hb dX2_bring_162 ?_
      refine lv_if_ne (tgt := 172) hx hb dX2_bring_163 rfl (fun c38 => ?_) (fun c38 => ?_)
      · replace h := itF h c38
        refine lv_iload_n hx hb dX2_bring_172 rfl (lv_at hl 2 rfl) ?_
        refine lv_iconst (v := 1) hx hb dX2_bring_173 rfl ?_
        refine lv_iadd hx hb dX2_bring_174 ?_
        refine lv_istore (lv' := [(8, .int (x2 + 1)), (0, .ref (ad 0)), (1, .int x1), (2, .int x2), (5, .long x5), (7, .int x7)]) hx hb dX2_bring_175 hl (by decide) rfl (fun ls hl => ?_)
        exact w_X2_bring_177 F NF _ _ _ _ _ _ _ _ _ hw (lv_sub hl [1, 2, 3, 4, 5, 0] rfl) h
      · replace h := itT h c38
        refine lv_iinc (v := (x7 + (-1))) (lv' := [(7, .int (x7 + (-1))), (0, .ref (ad 0)), (1, .int x1), (2, .int x2), (5, .long x5)]) hx hb dX2_bring_166 hl (k := 4) rfl rfl (by decide) rfl (fun ls hl => ?_)
        refine lv_goto (tgt := 139) hx hb dX2_bring_169 rfl ?_
        exact ih _ _ _ _ _ _ _ _ hw (lv_sub hl [1, 2, 3, 4, 0] rfl) h
set_option maxHeartbeats 4000000 in
set_option maxRecDepth 100000 in
theorem w_X2_bring_26 (F : FX p m c cX2_bring 9 s args yX2_bring (some .boolean) RX2 meth) {z : Int32 × SS} : ∀ (x1 : Int32) (x2 : Int32) (x3 : Int32) (t0 : Int32) (u : SS) (H : Heap) (locs : List Loc) (ls : Array Slot), WD G A s (sw G ad u) H locs → lv_has ls 9 [(0, .ref (ad 0)), (1, .int x1), (2, .int x2), (3, .int x3)] → f_X2_bring_26 x1 x2 x3 t0 u = some z → W p l e rmX2_bring s m args below meth c H locs 0 0 (MQ below (QW G (sw G ad z.2) A (some (.int z.1))) args s 0 0 A) (F0 m 26 ls [.int t0]) := by
  obtain ⟨⟨hx, hb, hml, hown, hts⟩, hr, hlocks⟩ := id F
  intro x1 x2 x3 t0 u H locs ls hw hl h
  unfold f_X2_bring_26 at h
  refine lv_istore (lv' := [(4, .int t0), (0, .ref (ad 0)), (1, .int x1), (2, .int x2), (3, .int x3)]) hx hb dX2_bring_26 hl (by decide) rfl (fun ls hl => ?_)
  refine lv_aload_n hx hb dX2_bring_28 rfl (lv_at hl 1 rfl) ?_
  refine s_g0_0 F hw dX2_bring_29 ?_
  refine lv_iload_n hx hb dX2_bring_32 rfl (lv_at hl 2 rfl) ?_
  refine lv_iload_n hx hb dX2_bring_33 rfl (lv_at hl 3 rfl) ?_
  refine lv_iload_n hx hb dX2_bring_34 rfl (lv_at hl 4 rfl) ?_
  obtain ⟨z6, e7, h⟩ := bnd h
  refine k_X1_insert_s_ F hw e7 ⟨Nat.le_of_ble_eq_true rfl, Nat.le_of_ble_eq_true rfl⟩ ⟨Nat.zero_le _, Nat.zero_le _⟩ hl.1 (Nat.le_of_ble_eq_true rfl) dX2_bring_35 (fun H locs hw => ?_)
  refine lv_aload_n hx hb dX2_bring_38 rfl (lv_at hl 1 rfl) ?_
  refine s_g0_1 F hw dX2_bring_39 ?_
  refine lv_iload_n hx hb dX2_bring_42 rfl (lv_at hl 2 rfl) ?_
  refine lv_iload hx hb dX2_bring_43 (lv_at hl 0 rfl) ?_
  refine lv_iload_n hx hb dX2_bring_45 rfl (lv_at hl 4 rfl) ?_
  obtain ⟨z8, e9, h⟩ := bnd h
  refine k_X0_follow_s_ F hw e9 ⟨Nat.le_of_ble_eq_true rfl, Nat.le_of_ble_eq_true rfl⟩ ⟨Nat.zero_le _, Nat.zero_le _⟩ hl.1 (Nat.le_of_ble_eq_true rfl) dX2_bring_46 (fun H locs hw => ?_)
  refine lv_aload_n hx hb dX2_bring_49 rfl (lv_at hl 1 rfl) ?_
  refine s_g0_5 F hw dX2_bring_50 ?_
  refine lv_iload_n hx hb dX2_bring_53 rfl (lv_at hl 4 rfl) ?_
  refine lv_ldc2 (own := RX2) (v := (-1)) hx hb hown (F.tb (tw 236 (by decide +kernel) rfl)) dX2_bring_54 ?_
  obtain ⟨g10, h⟩ := gd h
  refine s_s12 F hw g10 dX2_bring_57 (fun H locs hw => ?_)
  refine lv_aload_n hx hb dX2_bring_58 rfl (lv_at hl 1 rfl) ?_
  refine s_g0_6 F hw dX2_bring_59 ?_
  refine lv_iload_n hx hb dX2_bring_62 rfl (lv_at hl 4 rfl) ?_
  refine lv_sipush (v := 128) hx hb dX2_bring_63 rfl ?_
  obtain ⟨g11, h⟩ := gd h
  refine s_s13 F hw g11 dX2_bring_66 (fun H locs hw => ?_)
  refine lv_aload_n hx hb dX2_bring_67 rfl (lv_at hl 1 rfl) ?_
  refine lv_iload_n hx hb dX2_bring_68 rfl (lv_at hl 2 rfl) ?_
  obtain ⟨z12, e13, h⟩ := bnd h
  refine k_X2_hasBlocks_s_ F hw e13 ⟨Nat.le_of_ble_eq_true rfl, Nat.le_of_ble_eq_true rfl⟩ ⟨Nat.zero_le _, Nat.zero_le _⟩ hl.1 (Nat.le_of_ble_eq_true rfl) dX2_bring_69 ?_
  refine lv_if_eq (tgt := 87) hx hb dX2_bring_72 rfl (fun c14 => ?_) (fun c14 => ?_)
  · replace h := itT h c14
    refine lv_aload_n hx hb dX2_bring_87 rfl (lv_at hl 1 rfl) ?_
    refine lv_iload_n hx hb dX2_bring_88 rfl (lv_at hl 2 rfl) ?_
    refine lv_iload_n hx hb dX2_bring_89 rfl (lv_at hl 3 rfl) ?_
    refine lv_iload_n hx hb dX2_bring_90 rfl (lv_at hl 3 rfl) ?_
    refine lv_iconst (v := 1) hx hb dX2_bring_91 rfl ?_
    refine lv_iadd hx hb dX2_bring_92 ?_
    obtain ⟨z15, e16, h⟩ := bnd h
    refine k_X2_labelRun_s_ F hw e16 ⟨Nat.le_of_ble_eq_true rfl, Nat.le_of_ble_eq_true rfl⟩ ⟨Nat.zero_le _, Nat.zero_le _⟩ hl.1 (Nat.le_of_ble_eq_true rfl) dX2_bring_93 (fun H locs hw => ?_)
    obtain ⟨g17, h⟩ := gd h
    cases h
    exact retW_z F hw (zb_ok g17) dX2_bring_96
  · replace h := itF h c14
    refine lv_aload_n hx hb dX2_bring_75 rfl (lv_at hl 1 rfl) ?_
    refine s_g0_0 F hw dX2_bring_76 ?_
    refine lv_iload_n hx hb dX2_bring_79 rfl (lv_at hl 2 rfl) ?_
    obtain ⟨z18, e19, h⟩ := bnd h
    refine k_X1_length_s_ F hw e19 ⟨Nat.le_of_ble_eq_true rfl, Nat.le_of_ble_eq_true rfl⟩ ⟨Nat.zero_le _, Nat.zero_le _⟩ hl.1 (Nat.le_of_ble_eq_true rfl) dX2_bring_80 ?_
    refine lv_iconst (v := 1) hx hb dX2_bring_83 rfl ?_
    refine lv_icmp_ne (tgt := 97) hx hb dX2_bring_84 rfl (fun c20 => ?_) (fun c20 => ?_)
    · replace h := itF h c20
      refine lv_iload_n hx hb dX2_bring_97 rfl (lv_at hl 3 rfl) ?_
      refine lv_aload_n hx hb dX2_bring_98 rfl (lv_at hl 1 rfl) ?_
      refine s_g0_0 F hw dX2_bring_99 ?_
      refine lv_iload_n hx hb dX2_bring_102 rfl (lv_at hl 2 rfl) ?_
      obtain ⟨z21, e22, h⟩ := bnd h
      refine k_X1_first_s_ F hw e22 ⟨Nat.le_of_ble_eq_true rfl, Nat.le_of_ble_eq_true rfl⟩ ⟨Nat.zero_le _, Nat.zero_le _⟩ hl.1 (Nat.le_of_ble_eq_true rfl) dX2_bring_103 ?_
      refine lv_icmp_le (tgt := 119) hx hb dX2_bring_106 rfl (fun c23 => ?_) (fun c23 => ?_)
      · replace h := itT h c23
        refine lv_aload_n hx hb dX2_bring_119 rfl (lv_at hl 1 rfl) ?_
        refine lv_iload_n hx hb dX2_bring_120 rfl (lv_at hl 3 rfl) ?_
        refine lv_iconst (v := 1) hx hb dX2_bring_121 rfl ?_
        refine lv_iadd hx hb dX2_bring_122 ?_
        obtain ⟨z24, e25, h⟩ := bnd h
        refine k_X2_labelAt_s_ F hw e25 ⟨Nat.le_of_ble_eq_true rfl, Nat.le_of_ble_eq_true rfl⟩ ⟨Nat.zero_le _, Nat.zero_le _⟩ hl.1 (Nat.le_of_ble_eq_true rfl) dX2_bring_123 ?_
        refine lv_lstore (lv' := [(5, .long z24), (4, .int t0), (0, .ref (ad 0)), (1, .int x1), (2, .int x2), (3, .int x3)]) hx hb dX2_bring_126 hl (by decide) rfl (fun ls hl => ?_)
        refine lv_aload_n hx hb dX2_bring_128 rfl (lv_at hl 2 rfl) ?_
        refine s_g0_5 F hw dX2_bring_129 ?_
        refine lv_iload_n hx hb dX2_bring_132 rfl (lv_at hl 5 rfl) ?_
        refine lv_lload hx hb dX2_bring_133 (lv_at hl 0 rfl) ?_
        obtain ⟨g26, h⟩ := gd h
        refine s_s12 F hw g26 dX2_bring_135 (fun H locs hw => ?_)
        refine lv_iload_n hx hb dX2_bring_136 rfl (lv_at hl 4 rfl) ?_
        refine lv_istore (lv' := [(7, .int x2), (5, .long z24), (4, .int t0), (0, .ref (ad 0)), (1, .int x1), (2, .int x2), (3, .int x3)]) hx hb dX2_bring_137 hl (by decide) rfl (fun ls hl => ?_)
        exact w_X2_bring_139 F NF _ _ _ _ _ _ _ _ hw (lv_sub hl [3, 4, 5, 1, 0] rfl) h
      · replace h := itF h c23
        refine lv_aload_n hx hb dX2_bring_109 rfl (lv_at hl 1 rfl) ?_
        refine lv_iload_n hx hb dX2_bring_110 rfl (lv_at hl 3 rfl) ?_
        refine lv_iconst (v := 1) hx hb dX2_bring_111 rfl ?_
        refine lv_isub hx hb dX2_bring_112 ?_
        obtain ⟨z27, e28, h⟩ := bnd h
        refine k_X2_labelAt_s_ F hw e28 ⟨Nat.le_of_ble_eq_true rfl, Nat.le_of_ble_eq_true rfl⟩ ⟨Nat.zero_le _, Nat.zero_le _⟩ hl.1 (Nat.le_of_ble_eq_true rfl) dX2_bring_113 ?_
        refine lv_goto (tgt := 126) hx hb dX2_bring_116 rfl ?_
        refine lv_lstore (lv' := [(5, .long z27), (4, .int t0), (0, .ref (ad 0)), (1, .int x1), (2, .int x2), (3, .int x3)]) hx hb dX2_bring_126 hl (by decide) rfl (fun ls hl => ?_)
        refine lv_aload_n hx hb dX2_bring_128 rfl (lv_at hl 2 rfl) ?_
        refine s_g0_5 F hw dX2_bring_129 ?_
        refine lv_iload_n hx hb dX2_bring_132 rfl (lv_at hl 5 rfl) ?_
        refine lv_lload hx hb dX2_bring_133 (lv_at hl 0 rfl) ?_
        obtain ⟨g29, h⟩ := gd h
        refine s_s12 F hw g29 dX2_bring_135 (fun H locs hw => ?_)
        refine lv_iload_n hx hb dX2_bring_136 rfl (lv_at hl 4 rfl) ?_
        refine lv_istore (lv' := [(7, .int x2), (5, .long z27), (4, .int t0), (0, .ref (ad 0)), (1, .int x1), (2, .int x2), (3, .int x3)]) hx hb dX2_bring_137 hl (by decide) rfl (fun ls hl => ?_)
        exact w_X2_bring_139 F NF _ _ _ _ _ _ _ _ hw (lv_sub hl [3, 4, 5, 1, 0] rfl) h
    · replace h := itT h c20
      refine lv_aload_n hx hb dX2_bring_87 rfl (lv_at hl 1 rfl) ?_
      refine lv_iload_n hx hb dX2_bring_88 rfl (lv_at hl 2 rfl) ?_
      refine lv_iload_n hx hb dX2_bring_89 rfl (lv_at hl 3 rfl) ?_
      refine lv_iload_n hx hb dX2_bring_90 rfl (lv_at hl 3 rfl) ?_
      refine lv_iconst (v := 1) hx hb dX2_bring_91 rfl ?_
      refine lv_iadd hx hb dX2_bring_92 ?_
      obtain ⟨z30, e31, h⟩ := bnd h
      refine k_X2_labelRun_s_ F hw e31 ⟨Nat.le_of_ble_eq_true rfl, Nat.le_of_ble_eq_true rfl⟩ ⟨Nat.zero_le _, Nat.zero_le _⟩ hl.1 (Nat.le_of_ble_eq_true rfl) dX2_bring_93 (fun H locs hw => ?_)
      obtain ⟨g32, h⟩ := gd h
      cases h
      exact retW_z F hw (zb_ok g32) dX2_bring_96
set_option maxHeartbeats 4000000 in
set_option maxRecDepth 100000 in
theorem w_X2_bring_0 (F : FX p m c cX2_bring 9 s args yX2_bring (some .boolean) RX2 meth) {z : Int32 × SS} : ∀ (x1 : Int32) (x2 : Int32) (x3 : Int32) (u : SS) (H : Heap) (locs : List Loc) (ls : Array Slot), WD G A s (sw G ad u) H locs → lv_has ls 9 [(0, .ref (ad 0)), (1, .int x1), (2, .int x2), (3, .int x3)] → f_X2_bring x1 x2 x3 u = some z → W p l e rmX2_bring s m args below meth c H locs 0 0 (MQ below (QW G (sw G ad z.2) A (some (.int z.1))) args s 0 0 A) (F0 m 0 ls []) := by
  obtain ⟨⟨hx, hb, hml, hown, hts⟩, hr, hlocks⟩ := id F
  intro x1 x2 x3 u H locs ls hw hl h
  unfold f_X2_bring at h
  refine lv_iload_n hx hb dX2_bring_0 rfl (lv_at hl 2 rfl) ?_
  refine lv_aload_n hx hb dX2_bring_1 rfl (lv_at hl 0 rfl) ?_
  refine s_g0_0 F hw dX2_bring_2 ?_
  refine lv_iload_n hx hb dX2_bring_5 rfl (lv_at hl 1 rfl) ?_
  obtain ⟨z1, e2, h⟩ := bnd h
  refine k_X1_first_s_ F hw e2 ⟨Nat.le_of_ble_eq_true rfl, Nat.le_of_ble_eq_true rfl⟩ ⟨Nat.zero_le _, Nat.zero_le _⟩ hl.1 (Nat.le_of_ble_eq_true rfl) dX2_bring_6 ?_
  refine lv_icmp_le (tgt := 25) hx hb dX2_bring_9 rfl (fun c3 => ?_) (fun c3 => ?_)
  · replace h := itT h c3
    refine lv_iconst (v := (-1)) hx hb dX2_bring_25 rfl ?_
    exact w_X2_bring_26 F _ _ _ _ _ _ _ _ hw (lv_sub hl [0, 1, 2, 3] rfl) h
  · replace h := itF h c3
    refine lv_aload_n hx hb dX2_bring_12 rfl (lv_at hl 0 rfl) ?_
    refine s_g0_0 F hw dX2_bring_13 ?_
    refine lv_iload_n hx hb dX2_bring_16 rfl (lv_at hl 2 rfl) ?_
    refine lv_iconst (v := 1) hx hb dX2_bring_17 rfl ?_
    refine lv_isub hx hb dX2_bring_18 ?_
    obtain ⟨z4, e5, h⟩ := bnd h
    refine k_X1_standAt_s_ F hw e5 ⟨Nat.le_of_ble_eq_true rfl, Nat.le_of_ble_eq_true rfl⟩ ⟨Nat.zero_le _, Nat.zero_le _⟩ hl.1 (Nat.le_of_ble_eq_true rfl) dX2_bring_19 ?_
    refine lv_goto (tgt := 26) hx hb dX2_bring_22 rfl ?_
    exact w_X2_bring_26 F _ _ _ _ _ _ _ _ hw (lv_sub hl [0, 1, 2, 3] rfl) h
end
theorem c_X2_bring {l : Launch} {G : GX} {ad : Nat → Nat} {x1 : Int32} {x2 : Int32} {x3 : Int32} {u : SS} {z : Int32 × SS} (h : f_X2_bring x1 x2 x3 u = some z) : MW l yX2_bring cX2_bring 9 (some .boolean) rmX2_bring G (sw G ad u) (sw G ad z.2) [.ref (ad 0), .int x1, .int x2, .int x3] (some (.int z.1)) := MW.of (by decide) (Nat.le_of_ble_eq_true rfl) (fun p e s m below meth c ls F hw hl => w_X2_bring_0 F _ _ _ _ _ _ _ hw hl h)
