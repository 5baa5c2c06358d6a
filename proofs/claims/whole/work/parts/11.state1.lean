/-! ===== X2_isRow ===== -/
theorem dX2_isRow_0 : decode cX2_isRow 0 = .ok (.iload_n 1, 1) := by decide +kernel
theorem dX2_isRow_1 : decode cX2_isRow 1 = .ok (.ifCond .lt 23, 3) := by decide +kernel
theorem dX2_isRow_4 : decode cX2_isRow 4 = .ok (.iload_n 1, 1) := by decide +kernel
theorem dX2_isRow_5 : decode cX2_isRow 5 = .ok (.bipush 8, 2) := by decide +kernel
theorem dX2_isRow_7 : decode cX2_isRow 7 = .ok (.if_icmp .ge 17, 3) := by decide +kernel
theorem dX2_isRow_10 : decode cX2_isRow 10 = .ok (.aload_n 0, 1) := by decide +kernel
theorem dX2_isRow_11 : decode cX2_isRow 11 = .ok (.getfield 25, 3) := by decide +kernel
theorem dX2_isRow_14 : decode cX2_isRow 14 = .ok (.iload_n 1, 1) := by decide +kernel
theorem dX2_isRow_15 : decode cX2_isRow 15 = .ok (.iaload, 1) := by decide +kernel
theorem dX2_isRow_16 : decode cX2_isRow 16 = .ok (.iconst (-1), 1) := by decide +kernel
theorem dX2_isRow_17 : decode cX2_isRow 17 = .ok (.if_icmp .eq 7, 3) := by decide +kernel
theorem dX2_isRow_20 : decode cX2_isRow 20 = .ok (.iconst 1, 1) := by decide +kernel
theorem dX2_isRow_21 : decode cX2_isRow 21 = .ok (.goto 4, 3) := by decide +kernel
theorem dX2_isRow_24 : decode cX2_isRow 24 = .ok (.iconst 0, 1) := by decide +kernel
theorem dX2_isRow_25 : decode cX2_isRow 25 = .ok (.ireturn, 1) := by decide +kernel
theorem s_g0_2 {p : Program} {l : Launch} {e : Env} {R : Room} {s : State} {m : MethodId} {args : Array Value} {below : List Frame} {meth : Method} {c : Code} {H : Heap} {locs : List Loc} {cells slots : Nat} {Q : State → Prop} {G : GX} {A : Nat → Prop} {ad : Nat → Nat} {u : SS} {cc : ByteArray} {nL pc : Nat} {y : MethodName} {ret : Option FieldType} {ls : Array Slot} {rest : List Value} (F : FX p m c cc nL s args y ret RX2 meth) (hw : WD G A s (sw G ad u) H locs) (hdg : decode cc pc = .ok (.getfield 25, 3)) (kk : W p l e R s m args below meth c H locs cells slots Q (F0 m (pc + 3) ls (.ref (ad 9) :: rest))) : W p l e R s m args below meth c H locs cells slots Q (F0 m pc ls (.ref (ad 0) :: rest)) := va_get (D := G.1) (ci := 2) (C := RX2) (T := TX2) (N := 8) (Ts := lw_gt) F.1.1 F.1.2.1 (fun _ h => F.tb h) inX2 F.1.2.2.2.1 hw.1.1 hw.2.1 0 rfl rfl 2 (by decide) (F.tb (tw 71 (by decide +kernel) rfl)) (fun _ h9 => h9) rfl hdg kk
theorem s_l9 {i : Int32} {p : Program} {l : Launch} {e : Env} {R : Room} {s : State} {m : MethodId} {args : Array Value} {below : List Frame} {meth : Method} {c : Code} {H : Heap} {locs : List Loc} {cells slots : Nat} {Q : State → Prop} {G : GX} {A : Nat → Prop} {ad : Nat → Nat} {u : SS} {cc : ByteArray} {nL pc : Nat} {y : MethodName} {ret : Option FieldType} {ls : Array Slot} {rest : List Value} (F : FX p m c cc nL s args y ret RX2 meth) (hw : WD G A s (sw G ad u) H locs) (hi : ix i 8 = true) (hdg : decode cc pc = .ok (.iaload, 1)) (kk : W p l e R s m args below meth c H locs cells slots Q (F0 m (pc + 1) ls (.int ((u.2.2.1 2) i.toNatClampNeg) :: rest))) : W p l e R s m args below meth c H locs cells slots Q (F0 m pc ls (.int i :: .ref (ad 9) :: rest)) := va_iald F.1.1 F.1.2.1 hw.1.1 hw.2.1 9 0 rfl rfl (ix_in hi) hdg kk
def rmX2_isRow : Room := { frames := 0, cells := 0, slots := 0, locals := 0 }
noncomputable def f_X2_isRow (x1 : Int32) (u : SS) : Option (Int32) := (if x1 < 0 then some 0 else (if (8 : Int32) ≤ x1 then some 0 else (if ix x1 8 = true then (if ((u.2.2.1 2) (Int32.toNatClampNeg x1)) = ((-1) : Int32) then some 0 else some 1) else none)))
section
variable {p : Program} {l : Launch} {e : Env} {s : State} {m : MethodId} {args : Array Value} {below : List Frame} {meth : Method} {c : Code}
variable {G : GX} {A : Nat → Prop} {ad : Nat → Nat} 
set_option maxHeartbeats 4000000 in
set_option maxRecDepth 100000 in
theorem w_X2_isRow_0 (F : FX p m c cX2_isRow 2 s args yX2_isRow (some .boolean) RX2 meth) {z : Int32} : ∀ (x1 : Int32) (u : SS) (ls : Array Slot), WD G A s (sw G ad u) s.heap [] → lv_has ls 2 [(0, .ref (ad 0)), (1, .int x1)] → f_X2_isRow x1 u = some z → W p l e rmX2_isRow s m args below meth c s.heap [] 0 0 (MQ below (QO (some (.int z))) args s 0 0 (fun _ => False)) (F0 m 0 ls []) := by
  obtain ⟨⟨hx, hb, hml, hown, hts⟩, hr, hlocks⟩ := id F
  intro x1 u ls hw hl h
  unfold f_X2_isRow at h
  refine lv_iload_n hx hb dX2_isRow_0 rfl (lv_at hl 1 rfl) ?_
  refine lv_if_lt (tgt := 24) hx hb dX2_isRow_1 rfl (fun c1 => ?_) (fun c1 => ?_)
  · replace h := itT h c1
    refine lv_iconst (v := 0) hx hb dX2_isRow_24 rfl ?_
    cases h
    exact retO_z F narrow_b0 dX2_isRow_25
  · replace h := itF h c1
    refine lv_iload_n hx hb dX2_isRow_4 rfl (lv_at hl 1 rfl) ?_
    refine lv_bipush (v := 8) hx hb dX2_isRow_5 rfl ?_
    refine lv_icmp_ge (tgt := 24) hx hb dX2_isRow_7 rfl (fun c2 => ?_) (fun c2 => ?_)
    · replace h := itT h c2
      refine lv_iconst (v := 0) hx hb dX2_isRow_24 rfl ?_
      cases h
      exact retO_z F narrow_b0 dX2_isRow_25
    · replace h := itF h c2
      refine lv_aload_n hx hb dX2_isRow_10 rfl (lv_at hl 0 rfl) ?_
      refine s_g0_2 F hw dX2_isRow_11 ?_
      refine lv_iload_n hx hb dX2_isRow_14 rfl (lv_at hl 1 rfl) ?_
      obtain ⟨g3, h⟩ := gd h
      refine s_l9 F hw g3 dX2_isRow_15 ?_
      refine lv_iconst (v := (-1)) hx hb dX2_isRow_16 rfl ?_
      refine lv_icmp_eq (tgt := 24) hx hb dX2_isRow_17 rfl (fun c4 => ?_) (fun c4 => ?_)
      · replace h := itT h c4
        refine lv_iconst (v := 0) hx hb dX2_isRow_24 rfl ?_
        cases h
        exact retO_z F narrow_b0 dX2_isRow_25
      · replace h := itF h c4
        refine lv_iconst (v := 1) hx hb dX2_isRow_20 rfl ?_
        refine lv_goto (tgt := 25) hx hb dX2_isRow_21 rfl ?_
        cases h
        exact retO_z F narrow_b1 dX2_isRow_25
end
theorem c_X2_isRow {l : Launch} {G : GX} {ad : Nat → Nat} {x1 : Int32} {u : SS} {z : Int32} (h : f_X2_isRow x1 u = some z) : MO l yX2_isRow cX2_isRow 2 (some .boolean) rmX2_isRow G (sw G ad u) [.ref (ad 0), .int x1] (some (.int z)) := MO.of (by decide) (Nat.le_of_ble_eq_true rfl) (fun p e s m below meth c ls F hw hl => w_X2_isRow_0 F _ _ _ hw hl h)
/-! ===== X2_hasBlocks ===== -/
theorem dX2_hasBlocks_0 : decode cX2_hasBlocks 0 = .ok (.aload_n 0, 1) := by decide +kernel
theorem dX2_hasBlocks_1 : decode cX2_hasBlocks 1 = .ok (.iload_n 1, 1) := by decide +kernel
theorem dX2_hasBlocks_2 : decode cX2_hasBlocks 2 = .ok (.invokevirtual 65, 3) := by decide +kernel
theorem dX2_hasBlocks_5 : decode cX2_hasBlocks 5 = .ok (.ifCond .eq 17, 3) := by decide +kernel
theorem dX2_hasBlocks_8 : decode cX2_hasBlocks 8 = .ok (.aload_n 0, 1) := by decide +kernel
theorem dX2_hasBlocks_9 : decode cX2_hasBlocks 9 = .ok (.getfield 25, 3) := by decide +kernel
theorem dX2_hasBlocks_12 : decode cX2_hasBlocks 12 = .ok (.iload_n 1, 1) := by decide +kernel
theorem dX2_hasBlocks_13 : decode cX2_hasBlocks 13 = .ok (.iaload, 1) := by decide +kernel
theorem dX2_hasBlocks_14 : decode cX2_hasBlocks 14 = .ok (.iconst 2, 1) := by decide +kernel
theorem dX2_hasBlocks_15 : decode cX2_hasBlocks 15 = .ok (.if_icmp .lt 7, 3) := by decide +kernel
theorem dX2_hasBlocks_18 : decode cX2_hasBlocks 18 = .ok (.iconst 1, 1) := by decide +kernel
theorem dX2_hasBlocks_19 : decode cX2_hasBlocks 19 = .ok (.goto 4, 3) := by decide +kernel
theorem dX2_hasBlocks_22 : decode cX2_hasBlocks 22 = .ok (.iconst 0, 1) := by decide +kernel
theorem dX2_hasBlocks_23 : decode cX2_hasBlocks 23 = .ok (.ireturn, 1) := by decide +kernel
theorem yv_X2_isRow_X2 : YV RX2 65 yX2_isRow cX2_isRow 2 (some .boolean) 1 := ⟨(tw 130 (by decide +kernel) rfl), (tw 2 (by decide +kernel) rfl), (tw 241 (by decide +kernel) rfl), (tw 128 (by decide +kernel) rfl), (tw 129 (by decide +kernel) rfl), by decide +kernel⟩
theorem k_X2_isRow_s_ {p : Program} {l : Launch} {e : Env} {R : Room} {s : State} {m : MethodId} {args : Array Value} {below : List Frame} {meth : Method} {c : Code} {H : Heap} {locs : List Loc} {cells slots : Nat} {Q : State → Prop} {G : GX} {A : Nat → Prop} {ad : Nat → Nat} {u : SS} {cc : ByteArray} {nL pc : Nat} {y : MethodName} {ret : Option FieldType} {ls : Array Slot} {rest : List Value} {x1 : Int32} {z : Int32} (F : FX p m c cc nL s args y ret RX2 meth) (hw : WD G A s (sw G ad u) H locs) (h : f_X2_isRow x1 u = some z) (hR : rmX2_isRow.frames + 1 ≤ R.frames ∧ 8 + (2 + 11) + rmX2_isRow.locals ≤ R.locals) (hcs : cells ≤ R.cells ∧ slots ≤ R.slots) (hsz : ls.size = nL) (hW : (rest.map fun v => v.category).sum ≤ 8) (hdg : decode cc pc = .ok (.invokevirtual 65, 3)) (kk : W p l e R s m args below meth c H locs cells slots Q (F0 m (pc + 3) ls (.int z :: rest))) : W p l e R s m args below meth c H locs cells slots Q (F0 m pc ls (.int x1 :: .ref (ad 0) :: rest)) := callO (runV F yv_X2_isRow_X2 (c_X2_isRow h) hw.1 hw.2.1 hw.2.2.1 rfl rfl rfl ⟨rfl, rfl⟩ hR hcs rfl hsz rfl hW hdg) kk
def rmX2_hasBlocks : Room := { frames := 1, cells := 0, slots := 0, locals := 21 }
noncomputable def f_X2_hasBlocks (x1 : Int32) (u : SS) : Option (Int32) := (f_X2_isRow x1 u).bind (fun z1 => (if z1 = 0 then some 0 else (if ix x1 8 = true then (if ((u.2.2.1 2) (Int32.toNatClampNeg x1)) < (2 : Int32) then some 0 else some 1) else none)))
section
variable {p : Program} {l : Launch} {e : Env} {s : State} {m : MethodId} {args : Array Value} {below : List Frame} {meth : Method} {c : Code}
variable {G : GX} {A : Nat → Prop} {ad : Nat → Nat} 
set_option maxHeartbeats 4000000 in
set_option maxRecDepth 100000 in
theorem w_X2_hasBlocks_0 (F : FX p m c cX2_hasBlocks 2 s args yX2_hasBlocks (some .boolean) RX2 meth) {z : Int32} : ∀ (x1 : Int32) (u : SS) (ls : Array Slot), WD G A s (sw G ad u) s.heap [] → lv_has ls 2 [(0, .ref (ad 0)), (1, .int x1)] → f_X2_hasBlocks x1 u = some z → W p l e rmX2_hasBlocks s m args below meth c s.heap [] 0 0 (MQ below (QO (some (.int z))) args s 0 0 (fun _ => False)) (F0 m 0 ls []) := by
  obtain ⟨⟨hx, hb, hml, hown, hts⟩, hr, hlocks⟩ := id F
  intro x1 u ls hw hl h
  unfold f_X2_hasBlocks at h
  refine lv_aload_n hx hb dX2_hasBlocks_0 rfl (lv_at hl 0 rfl) ?_
  refine lv_iload_n hx hb dX2_hasBlocks_1 rfl (lv_at hl 1 rfl) ?_
  obtain ⟨z1, e2, h⟩ := bnd h
  refine k_X2_isRow_s_ F hw e2 ⟨Nat.le_of_ble_eq_true rfl, Nat.le_of_ble_eq_true rfl⟩ ⟨Nat.zero_le _, Nat.zero_le _⟩ hl.1 (Nat.le_of_ble_eq_true rfl) dX2_hasBlocks_2 ?_
  refine lv_if_eq (tgt := 22) hx hb dX2_hasBlocks_5 rfl (fun c3 => ?_) (fun c3 => ?_)
  · replace h := itT h c3
    refine lv_iconst (v := 0) hx hb dX2_hasBlocks_22 rfl ?_
    cases h
    exact retO_z F narrow_b0 dX2_hasBlocks_23
  · replace h := itF h c3
    refine lv_aload_n hx hb dX2_hasBlocks_8 rfl (lv_at hl 0 rfl) ?_
    refine s_g0_2 F hw dX2_hasBlocks_9 ?_
    refine lv_iload_n hx hb dX2_hasBlocks_12 rfl (lv_at hl 1 rfl) ?_
    obtain ⟨g4, h⟩ := gd h
    refine s_l9 F hw g4 dX2_hasBlocks_13 ?_
    refine lv_iconst (v := 2) hx hb dX2_hasBlocks_14 rfl ?_
    refine lv_icmp_lt (tgt := 22) hx hb dX2_hasBlocks_15 rfl (fun c5 => ?_) (fun c5 => ?_)
    · replace h := itT h c5
      refine lv_iconst (v := 0) hx hb dX2_hasBlocks_22 rfl ?_
      cases h
      exact retO_z F narrow_b0 dX2_hasBlocks_23
    · replace h := itF h c5
      refine lv_iconst (v := 1) hx hb dX2_hasBlocks_18 rfl ?_
      refine lv_goto (tgt := 23) hx hb dX2_hasBlocks_19 rfl ?_
      cases h
      exact retO_z F narrow_b1 dX2_hasBlocks_23
end
theorem c_X2_hasBlocks {l : Launch} {G : GX} {ad : Nat → Nat} {x1 : Int32} {u : SS} {z : Int32} (h : f_X2_hasBlocks x1 u = some z) : MO l yX2_hasBlocks cX2_hasBlocks 2 (some .boolean) rmX2_hasBlocks G (sw G ad u) [.ref (ad 0), .int x1] (some (.int z)) := MO.of (by decide) (Nat.le_of_ble_eq_true rfl) (fun p e s m below meth c ls F hw hl => w_X2_hasBlocks_0 F _ _ _ hw hl h)
/-! ===== X2_rowCount ===== -/
theorem dX2_rowCount_0 : decode cX2_rowCount 0 = .ok (.iconst 0, 1) := by decide +kernel
theorem dX2_rowCount_1 : decode cX2_rowCount 1 = .ok (.istore_n 1, 1) := by decide +kernel
theorem dX2_rowCount_2 : decode cX2_rowCount 2 = .ok (.iconst 0, 1) := by decide +kernel
theorem dX2_rowCount_3 : decode cX2_rowCount 3 = .ok (.istore_n 2, 1) := by decide +kernel
theorem dX2_rowCount_4 : decode cX2_rowCount 4 = .ok (.iload_n 2, 1) := by decide +kernel
theorem dX2_rowCount_5 : decode cX2_rowCount 5 = .ok (.bipush 8, 2) := by decide +kernel
theorem dX2_rowCount_7 : decode cX2_rowCount 7 = .ok (.if_icmp .ge 22, 3) := by decide +kernel
theorem dX2_rowCount_10 : decode cX2_rowCount 10 = .ok (.aload_n 0, 1) := by decide +kernel
theorem dX2_rowCount_11 : decode cX2_rowCount 11 = .ok (.getfield 25, 3) := by decide +kernel
theorem dX2_rowCount_14 : decode cX2_rowCount 14 = .ok (.iload_n 2, 1) := by decide +kernel
theorem dX2_rowCount_15 : decode cX2_rowCount 15 = .ok (.iaload, 1) := by decide +kernel
theorem dX2_rowCount_16 : decode cX2_rowCount 16 = .ok (.iconst (-1), 1) := by decide +kernel
theorem dX2_rowCount_17 : decode cX2_rowCount 17 = .ok (.if_icmp .eq 6, 3) := by decide +kernel
theorem dX2_rowCount_20 : decode cX2_rowCount 20 = .ok (.iinc 1 1, 3) := by decide +kernel
theorem dX2_rowCount_23 : decode cX2_rowCount 23 = .ok (.iinc 2 1, 3) := by decide +kernel
theorem dX2_rowCount_26 : decode cX2_rowCount 26 = .ok (.goto (-22), 3) := by decide +kernel
theorem dX2_rowCount_29 : decode cX2_rowCount 29 = .ok (.iload_n 1, 1) := by decide +kernel
theorem dX2_rowCount_30 : decode cX2_rowCount 30 = .ok (.ireturn, 1) := by decide +kernel
def rmX2_rowCount : Room := { frames := 0, cells := 0, slots := 0, locals := 0 }
noncomputable def f_X2_rowCount_4 : Nat → Int32 → Int32 → SS → Option (Int32)
  | 0, _, _, _ => none
  | n + 1, x1, x2, u => (if (8 : Int32) ≤ x2 then some x1 else (if ix x2 8 = true then (if ((u.2.2.1 2) (Int32.toNatClampNeg x2)) = ((-1) : Int32) then f_X2_rowCount_4 n x1 (x2 + 1) u else f_X2_rowCount_4 n (x1 + 1) (x2 + 1) u) else none))
noncomputable def f_X2_rowCount (u : SS) : Option (Int32) := f_X2_rowCount_4 NF 0 0 u
section
variable {p : Program} {l : Launch} {e : Env} {s : State} {m : MethodId} {args : Array Value} {below : List Frame} {meth : Method} {c : Code}
variable {G : GX} {A : Nat → Prop} {ad : Nat → Nat} 
set_option maxHeartbeats 4000000 in
set_option maxRecDepth 100000 in
theorem w_X2_rowCount_4 (F : FX p m c cX2_rowCount 3 s args yX2_rowCount (some .int) RX2 meth) {z : Int32} : ∀ (n : Nat) (x1 : Int32) (x2 : Int32) (u : SS) (ls : Array Slot), WD G A s (sw G ad u) s.heap [] → lv_has ls 3 [(0, .ref (ad 0)), (1, .int x1), (2, .int x2)] → f_X2_rowCount_4 n x1 x2 u = some z → W p l e rmX2_rowCount s m args below meth c s.heap [] 0 0 (MQ below (QO (some (.int z))) args s 0 0 (fun _ => False)) (F0 m 4 ls []) := by
  obtain ⟨⟨hx, hb, hml, hown, hts⟩, hr, hlocks⟩ := id F
  intro n
  induction n with
  | zero =>
    intro x1 x2 u ls hw hl h
    rw [f_X2_rowCount_4] at h
    cases h
  | succ n ih =>
    intro x1 x2 u ls hw hl h
    rw [f_X2_rowCount_4] at h
    refine lv_iload_n hx hb dX2_rowCount_4 rfl (lv_at hl 2 rfl) ?_
    refine lv_bipush (v := 8) hx hb dX2_rowCount_5 rfl ?_
    refine lv_icmp_ge (tgt := 29) hx hb dX2_rowCount_7 rfl (fun c1 => ?_) (fun c1 => ?_)
    · replace h := itT h c1
      refine lv_iload_n hx hb dX2_rowCount_29 rfl (lv_at hl 1 rfl) ?_
      cases h
      exact retO_i F dX2_rowCount_30
    · replace h := itF h c1
      refine lv_aload_n hx hb dX2_rowCount_10 rfl (lv_at hl 0 rfl) ?_
      refine s_g0_2 F hw dX2_rowCount_11 ?_
      refine lv_iload_n hx hb dX2_rowCount_14 rfl (lv_at hl 2 rfl) ?_
      obtain ⟨g2, h⟩ := gd h
      refine s_l9 F hw g2 dX2_rowCount_15 ?_
      refine lv_iconst (v := (-1)) hx hb dX2_rowCount_16 rfl ?_
      refine lv_icmp_eq (tgt := 23) hx hb dX2_rowCount_17 rfl (fun c3 => ?_) (fun c3 => ?_)
      · replace h := itT h c3
        refine lv_iinc (v := (x2 + 1)) (lv' := [(2, .int (x2 + 1)), (0, .ref (ad 0)), (1, .int x1)]) hx hb dX2_rowCount_23 hl (k := 2) rfl rfl (by decide) rfl (fun ls hl => ?_)
        refine lv_goto (tgt := 4) hx hb dX2_rowCount_26 rfl ?_
        exact ih _ _ _ _ hw (lv_sub hl [1, 2, 0] rfl) h
      · replace h := itF h c3
        refine lv_iinc (v := (x1 + 1)) (lv' := [(1, .int (x1 + 1)), (0, .ref (ad 0)), (2, .int x2)]) hx hb dX2_rowCount_20 hl (k := 1) rfl rfl (by decide) rfl (fun ls hl => ?_)
        refine lv_iinc (v := (x2 + 1)) (lv' := [(2, .int (x2 + 1)), (1, .int (x1 + 1)), (0, .ref (ad 0))]) hx hb dX2_rowCount_23 hl (k := 2) rfl rfl (by decide) rfl (fun ls hl => ?_)
        refine lv_goto (tgt := 4) hx hb dX2_rowCount_26 rfl ?_
        exact ih _ _ _ _ hw (lv_sub hl [2, 1, 0] rfl) h
set_option maxHeartbeats 4000000 in
set_option maxRecDepth 100000 in
theorem w_X2_rowCount_0 (F : FX p m c cX2_rowCount 3 s args yX2_rowCount (some .int) RX2 meth) {z : Int32} : ∀ (u : SS) (ls : Array Slot), WD G A s (sw G ad u) s.heap [] → lv_has ls 3 [(0, .ref (ad 0))] → f_X2_rowCount u = some z → W p l e rmX2_rowCount s m args below meth c s.heap [] 0 0 (MQ below (QO (some (.int z))) args s 0 0 (fun _ => False)) (F0 m 0 ls []) := by
  obtain ⟨⟨hx, hb, hml, hown, hts⟩, hr, hlocks⟩ := id F
  intro u ls hw hl h
  unfold f_X2_rowCount at h
  refine lv_iconst (v := 0) hx hb dX2_rowCount_0 rfl ?_
  refine lv_istore_n (lv' := [(1, .int 0), (0, .ref (ad 0))]) hx hb dX2_rowCount_1 rfl hl (by decide) rfl (fun ls hl => ?_)
  refine lv_iconst (v := 0) hx hb dX2_rowCount_2 rfl ?_
  refine lv_istore_n (lv' := [(2, .int 0), (1, .int 0), (0, .ref (ad 0))]) hx hb dX2_rowCount_3 rfl hl (by decide) rfl (fun ls hl => ?_)
  exact w_X2_rowCount_4 F NF _ _ _ _ hw (lv_sub hl [2, 1, 0] rfl) h
end
theorem c_X2_rowCount {l : Launch} {G : GX} {ad : Nat → Nat} {u : SS} {z : Int32} (h : f_X2_rowCount u = some z) : MO l yX2_rowCount cX2_rowCount 3 (some .int) rmX2_rowCount G (sw G ad u) [.ref (ad 0)] (some (.int z)) := MO.of (by decide) (Nat.le_of_ble_eq_true rfl) (fun p e s m below meth c ls F hw hl => w_X2_rowCount_0 F  _ _ hw hl h)
/-! ===== X2_thingsIn ===== -/
theorem dX2_thingsIn_0 : decode cX2_thingsIn 0 = .ok (.aload_n 0, 1) := by decide +kernel
theorem dX2_thingsIn_1 : decode cX2_thingsIn 1 = .ok (.getfield 25, 3) := by decide +kernel
theorem dX2_thingsIn_4 : decode cX2_thingsIn 4 = .ok (.iload_n 1, 1) := by decide +kernel
theorem dX2_thingsIn_5 : decode cX2_thingsIn 5 = .ok (.iaload, 1) := by decide +kernel
theorem dX2_thingsIn_6 : decode cX2_thingsIn 6 = .ok (.iconst 3, 1) := by decide +kernel
theorem dX2_thingsIn_7 : decode cX2_thingsIn 7 = .ok (.if_icmp .ne 16, 3) := by decide +kernel
theorem dX2_thingsIn_10 : decode cX2_thingsIn 10 = .ok (.aload_n 0, 1) := by decide +kernel
theorem dX2_thingsIn_11 : decode cX2_thingsIn 11 = .ok (.getfield 12, 3) := by decide +kernel
theorem dX2_thingsIn_14 : decode cX2_thingsIn 14 = .ok (.iload_n 1, 1) := by decide +kernel
theorem dX2_thingsIn_15 : decode cX2_thingsIn 15 = .ok (.invokevirtual 69, 3) := by decide +kernel
theorem dX2_thingsIn_18 : decode cX2_thingsIn 18 = .ok (.iconst 2, 1) := by decide +kernel
theorem dX2_thingsIn_19 : decode cX2_thingsIn 19 = .ok (.idiv, 1) := by decide +kernel
theorem dX2_thingsIn_20 : decode cX2_thingsIn 20 = .ok (.goto 11, 3) := by decide +kernel
theorem dX2_thingsIn_23 : decode cX2_thingsIn 23 = .ok (.aload_n 0, 1) := by decide +kernel
theorem dX2_thingsIn_24 : decode cX2_thingsIn 24 = .ok (.getfield 12, 3) := by decide +kernel
theorem dX2_thingsIn_27 : decode cX2_thingsIn 27 = .ok (.iload_n 1, 1) := by decide +kernel
theorem dX2_thingsIn_28 : decode cX2_thingsIn 28 = .ok (.invokevirtual 69, 3) := by decide +kernel
theorem dX2_thingsIn_31 : decode cX2_thingsIn 31 = .ok (.ireturn, 1) := by decide +kernel
theorem s_g0_0 {p : Program} {l : Launch} {e : Env} {R : Room} {s : State} {m : MethodId} {args : Array Value} {below : List Frame} {meth : Method} {c : Code} {H : Heap} {locs : List Loc} {cells slots : Nat} {Q : State → Prop} {G : GX} {A : Nat → Prop} {ad : Nat → Nat} {u : SS} {cc : ByteArray} {nL pc : Nat} {y : MethodName} {ret : Option FieldType} {ls : Array Slot} {rest : List Value} (F : FX p m c cc nL s args y ret RX2 meth) (hw : WD G A s (sw G ad u) H locs) (hdg : decode cc pc = .ok (.getfield 12, 3)) (kk : W p l e R s m args below meth c H locs cells slots Q (F0 m (pc + 3) ls (.ref (ad 1) :: rest))) : W p l e R s m args below meth c H locs cells slots Q (F0 m pc ls (.ref (ad 0) :: rest)) := va_get (D := G.1) (ci := 2) (C := RX2) (T := TX2) (N := 8) (Ts := lw_gt) F.1.1 F.1.2.1 (fun _ h => F.tb h) inX2 F.1.2.2.2.1 hw.1.1 hw.2.1 0 rfl rfl 0 (by decide) (F.tb (tw 67 (by decide +kernel) rfl)) (fun _ h9 => h9) rfl hdg kk
theorem yv_X1_length_X2 : YV RX2 69 yX1_length cX1_length 2 (some .int) 1 := ⟨(tw 245 (by decide +kernel) rfl), (tw 3 (by decide +kernel) rfl), (tw 242 (by decide +kernel) rfl), (tw 243 (by decide +kernel) rfl), (tw 244 (by decide +kernel) rfl), by decide +kernel⟩
theorem k_X1_length_s_ {p : Program} {l : Launch} {e : Env} {R : Room} {s : State} {m : MethodId} {args : Array Value} {below : List Frame} {meth : Method} {c : Code} {H : Heap} {locs : List Loc} {cells slots : Nat} {Q : State → Prop} {G : GX} {A : Nat → Prop} {ad : Nat → Nat} {u : SS} {cc : ByteArray} {nL pc : Nat} {y : MethodName} {ret : Option FieldType} {ls : Array Slot} {rest : List Value} {x1 : Int32} {z : Int32} (F : FX p m c cc nL s args y ret RX2 meth) (hw : WD G A s (sw G ad u) H locs) (h : f_X1_length x1 u.1 = some z) (hR : rmX1_length.frames + 1 ≤ R.frames ∧ 8 + (2 + 11) + rmX1_length.locals ≤ R.locals) (hcs : cells ≤ R.cells ∧ slots ≤ R.slots) (hsz : ls.size = nL) (hW : (rest.map fun v => v.category).sum ≤ 8) (hdg : decode cc pc = .ok (.invokevirtual 69, 3)) (kk : W p l e R s m args below meth c H locs cells slots Q (F0 m (pc + 3) ls (.int z :: rest))) : W p l e R s m args below meth c H locs cells slots Q (F0 m pc ls (.int x1 :: .ref (ad 1) :: rest)) := callO (runV F yv_X1_length_X2 (c_X1_length h (ad := (fun k => ad (k + 1)))) hw.1 (hw.2.1.sub [1, 2, 3, 4] rfl) (hw.2.2.1.sub [1, 2, 3, 4] (by decide) rfl) rfl rfl rfl ⟨rfl, rfl⟩ hR hcs rfl hsz rfl hW hdg) kk
def rmX2_thingsIn : Room := { frames := 2, cells := 0, slots := 0, locals := 42 }
noncomputable def f_X2_thingsIn (x1 : Int32) (u : SS) : Option (Int32) := (if ix x1 8 = true then (if ((u.2.2.1 2) (Int32.toNatClampNeg x1)) = (3 : Int32) then (f_X1_length x1 u.1).bind (fun z5 => some (z5 / 2)) else (f_X1_length x1 u.1).bind (fun z3 => some z3)) else none)
section
variable {p : Program} {l : Launch} {e : Env} {s : State} {m : MethodId} {args : Array Value} {below : List Frame} {meth : Method} {c : Code}
variable {G : GX} {A : Nat → Prop} {ad : Nat → Nat} 
set_option maxHeartbeats 4000000 in
set_option maxRecDepth 100000 in
theorem w_X2_thingsIn_0 (F : FX p m c cX2_thingsIn 2 s args yX2_thingsIn (some .int) RX2 meth) {z : Int32} : ∀ (x1 : Int32) (u : SS) (ls : Array Slot), WD G A s (sw G ad u) s.heap [] → lv_has ls 2 [(0, .ref (ad 0)), (1, .int x1)] → f_X2_thingsIn x1 u = some z → W p l e rmX2_thingsIn s m args below meth c s.heap [] 0 0 (MQ below (QO (some (.int z))) args s 0 0 (fun _ => False)) (F0 m 0 ls []) := by
  obtain ⟨⟨hx, hb, hml, hown, hts⟩, hr, hlocks⟩ := id F
  intro x1 u ls hw hl h
  unfold f_X2_thingsIn at h
  refine lv_aload_n hx hb dX2_thingsIn_0 rfl (lv_at hl 0 rfl) ?_
  refine s_g0_2 F hw dX2_thingsIn_1 ?_
  refine lv_iload_n hx hb dX2_thingsIn_4 rfl (lv_at hl 1 rfl) ?_
  obtain ⟨g1, h⟩ := gd h
  refine s_l9 F hw g1 dX2_thingsIn_5 ?_
  refine lv_iconst (v := 3) hx hb dX2_thingsIn_6 rfl ?_
  refine lv_icmp_ne (tgt := 23) hx hb dX2_thingsIn_7 rfl (fun c2 => ?_) (fun c2 => ?_)
  · replace h := itF h c2
    refine lv_aload_n hx hb dX2_thingsIn_23 rfl (lv_at hl 0 rfl) ?_
    refine s_g0_0 F hw dX2_thingsIn_24 ?_
    refine lv_iload_n hx hb dX2_thingsIn_27 rfl (lv_at hl 1 rfl) ?_
    obtain ⟨z3, e4, h⟩ := bnd h
    refine k_X1_length_s_ F hw e4 ⟨Nat.le_of_ble_eq_true rfl, Nat.le_of_ble_eq_true rfl⟩ ⟨Nat.zero_le _, Nat.zero_le _⟩ hl.1 (Nat.le_of_ble_eq_true rfl) dX2_thingsIn_28 ?_
    cases h
    exact retO_i F dX2_thingsIn_31
  · replace h := itT h c2
    refine lv_aload_n hx hb dX2_thingsIn_10 rfl (lv_at hl 0 rfl) ?_
    refine s_g0_0 F hw dX2_thingsIn_11 ?_
    refine lv_iload_n hx hb dX2_thingsIn_14 rfl (lv_at hl 1 rfl) ?_
    obtain ⟨z5, e6, h⟩ := bnd h
    refine k_X1_length_s_ F hw e6 ⟨Nat.le_of_ble_eq_true rfl, Nat.le_of_ble_eq_true rfl⟩ ⟨Nat.zero_le _, Nat.zero_le _⟩ hl.1 (Nat.le_of_ble_eq_true rfl) dX2_thingsIn_15 ?_
    refine lv_iconst (v := 2) hx hb dX2_thingsIn_18 rfl ?_
    refine lv_idiv hx hb dX2_thingsIn_19 (by decide) ?_
    refine lv_goto (tgt := 31) hx hb dX2_thingsIn_20 rfl ?_
    cases h
    exact retO_i F dX2_thingsIn_31
end
theorem c_X2_thingsIn {l : Launch} {G : GX} {ad : Nat → Nat} {x1 : Int32} {u : SS} {z : Int32} (h : f_X2_thingsIn x1 u = some z) : MO l yX2_thingsIn cX2_thingsIn 2 (some .int) rmX2_thingsIn G (sw G ad u) [.ref (ad 0), .int x1] (some (.int z)) := MO.of (by decide) (Nat.le_of_ble_eq_true rfl) (fun p e s m below meth c ls F hw hl => w_X2_thingsIn_0 F _ _ _ hw hl h)
/-! ===== X2_thingsInAll ===== -/
theorem dX2_thingsInAll_0 : decode cX2_thingsInAll 0 = .ok (.iconst 0, 1) := by decide +kernel
theorem dX2_thingsInAll_1 : decode cX2_thingsInAll 1 = .ok (.istore_n 1, 1) := by decide +kernel
theorem dX2_thingsInAll_2 : decode cX2_thingsInAll 2 = .ok (.iconst 0, 1) := by decide +kernel
theorem dX2_thingsInAll_3 : decode cX2_thingsInAll 3 = .ok (.istore_n 2, 1) := by decide +kernel
theorem dX2_thingsInAll_4 : decode cX2_thingsInAll 4 = .ok (.iload_n 2, 1) := by decide +kernel
theorem dX2_thingsInAll_5 : decode cX2_thingsInAll 5 = .ok (.bipush 8, 2) := by decide +kernel
theorem dX2_thingsInAll_7 : decode cX2_thingsInAll 7 = .ok (.if_icmp .ge 17, 3) := by decide +kernel
theorem dX2_thingsInAll_10 : decode cX2_thingsInAll 10 = .ok (.iload_n 1, 1) := by decide +kernel
theorem dX2_thingsInAll_11 : decode cX2_thingsInAll 11 = .ok (.aload_n 0, 1) := by decide +kernel
theorem dX2_thingsInAll_12 : decode cX2_thingsInAll 12 = .ok (.iload_n 2, 1) := by decide +kernel
theorem dX2_thingsInAll_13 : decode cX2_thingsInAll 13 = .ok (.invokevirtual 73, 3) := by decide +kernel
theorem dX2_thingsInAll_16 : decode cX2_thingsInAll 16 = .ok (.iadd, 1) := by decide +kernel
theorem dX2_thingsInAll_17 : decode cX2_thingsInAll 17 = .ok (.istore_n 1, 1) := by decide +kernel
theorem dX2_thingsInAll_18 : decode cX2_thingsInAll 18 = .ok (.iinc 2 1, 3) := by decide +kernel
theorem dX2_thingsInAll_21 : decode cX2_thingsInAll 21 = .ok (.goto (-17), 3) := by decide +kernel
theorem dX2_thingsInAll_24 : decode cX2_thingsInAll 24 = .ok (.iload_n 1, 1) := by decide +kernel
theorem dX2_thingsInAll_25 : decode cX2_thingsInAll 25 = .ok (.ireturn, 1) := by decide +kernel
theorem yv_X2_thingsIn_X2 : YV RX2 73 yX2_thingsIn cX2_thingsIn 2 (some .int) 1 := ⟨(tw 479 (by decide +kernel) rfl), (tw 2 (by decide +kernel) rfl), (tw 496 (by decide +kernel) rfl), (tw 477 (by decide +kernel) rfl), (tw 478 (by decide +kernel) rfl), by decide +kernel⟩
theorem k_X2_thingsIn_s_ {p : Program} {l : Launch} {e : Env} {R : Room} {s : State} {m : MethodId} {args : Array Value} {below : List Frame} {meth : Method} {c : Code} {H : Heap} {locs : List Loc} {cells slots : Nat} {Q : State → Prop} {G : GX} {A : Nat → Prop} {ad : Nat → Nat} {u : SS} {cc : ByteArray} {nL pc : Nat} {y : MethodName} {ret : Option FieldType} {ls : Array Slot} {rest : List Value} {x1 : Int32} {z : Int32} (F : FX p m c cc nL s args y ret RX2 meth) (hw : WD G A s (sw G ad u) H locs) (h : f_X2_thingsIn x1 u = some z) (hR : rmX2_thingsIn.frames + 1 ≤ R.frames ∧ 8 + (2 + 11) + rmX2_thingsIn.locals ≤ R.locals) (hcs : cells ≤ R.cells ∧ slots ≤ R.slots) (hsz : ls.size = nL) (hW : (rest.map fun v => v.category).sum ≤ 8) (hdg : decode cc pc = .ok (.invokevirtual 73, 3)) (kk : W p l e R s m args below meth c H locs cells slots Q (F0 m (pc + 3) ls (.int z :: rest))) : W p l e R s m args below meth c H locs cells slots Q (F0 m pc ls (.int x1 :: .ref (ad 0) :: rest)) := callO (runV F yv_X2_thingsIn_X2 (c_X2_thingsIn h) hw.1 hw.2.1 hw.2.2.1 rfl rfl rfl ⟨rfl, rfl⟩ hR hcs rfl hsz rfl hW hdg) kk
def rmX2_thingsInAll : Room := { frames := 3, cells := 0, slots := 0, locals := 63 }
noncomputable def f_X2_thingsInAll_4 : Nat → Int32 → Int32 → SS → Option (Int32)
  | 0, _, _, _ => none
  | n + 1, x1, x2, u => (if (8 : Int32) ≤ x2 then some x1 else (f_X2_thingsIn x2 u).bind (fun z2 => f_X2_thingsInAll_4 n (x1 + z2) (x2 + 1) u))
noncomputable def f_X2_thingsInAll (u : SS) : Option (Int32) := f_X2_thingsInAll_4 NF 0 0 u
section
variable {p : Program} {l : Launch} {e : Env} {s : State} {m : MethodId} {args : Array Value} {below : List Frame} {meth : Method} {c : Code}
variable {G : GX} {A : Nat → Prop} {ad : Nat → Nat} 
set_option maxHeartbeats 4000000 in
set_option maxRecDepth 100000 in
theorem w_X2_thingsInAll_4 (F : FX p m c cX2_thingsInAll 3 s args yX2_thingsInAll (some .int) RX2 meth) {z : Int32} : ∀ (n : Nat) (x1 : Int32) (x2 : Int32) (u : SS) (ls : Array Slot), WD G A s (sw G ad u) s.heap [] → lv_has ls 3 [(0, .ref (ad 0)), (1, .int x1), (2, .int x2)] → f_X2_thingsInAll_4 n x1 x2 u = some z → W p l e rmX2_thingsInAll s m args below meth c s.heap [] 0 0 (MQ below (QO (some (.int z))) args s 0 0 (fun _ => False)) (F0 m 4 ls []) := by
  obtain ⟨⟨hx, hb, hml, hown, hts⟩, hr, hlocks⟩ := id F
  intro n
  induction n with
  | zero =>
    intro x1 x2 u ls hw hl h
    rw [f_X2_thingsInAll_4] at h
    cases h
  | succ n ih =>
    intro x1 x2 u ls hw hl h
    rw [f_X2_thingsInAll_4] at h
    refine lv_iload_n hx hb dX2_thingsInAll_4 rfl (lv_at hl 2 rfl) ?_
    refine lv_bipush (v := 8) hx hb dX2_thingsInAll_5 rfl ?_
    refine lv_icmp_ge (tgt := 24) hx hb dX2_thingsInAll_7 rfl (fun c1 => ?_) (fun c1 => ?_)
    · replace h := itT h c1
      refine lv_iload_n hx hb dX2_thingsInAll_24 rfl (lv_at hl 1 rfl) ?_
      cases h
      exact retO_i F dX2_thingsInAll_25
    · replace h := itF h c1
      refine lv_iload_n hx hb dX2_thingsInAll_10 rfl (lv_at hl 1 rfl) ?_
      refine lv_aload_n hx hb dX2_thingsInAll_11 rfl (lv_at hl 0 rfl) ?_
      refine lv_iload_n hx hb dX2_thingsInAll_12 rfl (lv_at hl 2 rfl) ?_
      obtain ⟨z2, e3, h⟩ := bnd h
      refine k_X2_thingsIn_s_ F hw e3 ⟨Nat.le_of_ble_eq_true rfl, Nat.le_of_ble_eq_true rfl⟩ ⟨Nat.zero_le _, Nat.zero_le _⟩ hl.1 (Nat.le_of_ble_eq_true rfl) dX2_thingsInAll_13 ?_
      refine lv_iadd hx hb dX2_thingsInAll_16 ?_
      refine lv_istore_n (lv' := [(1, .int (x1 + z2)), (0, .ref (ad 0)), (2, .int x2)]) hx hb dX2_thingsInAll_17 rfl hl (by decide) rfl (fun ls hl => ?_)
      refine lv_iinc (v := (x2 + 1)) (lv' := [(2, .int (x2 + 1)), (1, .int (x1 + z2)), (0, .ref (ad 0))]) hx hb dX2_thingsInAll_18 hl (k := 2) rfl rfl (by decide) rfl (fun ls hl => ?_)
      refine lv_goto (tgt := 4) hx hb dX2_thingsInAll_21 rfl ?_
      exact ih _ _ _ _ hw (lv_sub hl [2, 1, 0] rfl) h
set_option maxHeartbeats 4000000 in
set_option maxRecDepth 100000 in
theorem w_X2_thingsInAll_0 (F : FX p m c cX2_thingsInAll 3 s args yX2_thingsInAll (some .int) RX2 meth) {z : Int32} : ∀ (u : SS) (ls : Array Slot), WD G A s (sw G ad u) s.heap [] → lv_has ls 3 [(0, .ref (ad 0))] → f_X2_thingsInAll u = some z → W p l e rmX2_thingsInAll s m args below meth c s.heap [] 0 0 (MQ below (QO (some (.int z))) args s 0 0 (fun _ => False)) (F0 m 0 ls []) := by
  obtain ⟨⟨hx, hb, hml, hown, hts⟩, hr, hlocks⟩ := id F
  intro u ls hw hl h
  unfold f_X2_thingsInAll at h
  refine lv_iconst (v := 0) hx hb dX2_thingsInAll_0 rfl ?_
  refine lv_istore_n (lv' := [(1, .int 0), (0, .ref (ad 0))]) hx hb dX2_thingsInAll_1 rfl hl (by decide) rfl (fun ls hl => ?_)
  refine lv_iconst (v := 0) hx hb dX2_thingsInAll_2 rfl ?_
  refine lv_istore_n (lv' := [(2, .int 0), (1, .int 0), (0, .ref (ad 0))]) hx hb dX2_thingsInAll_3 rfl hl (by decide) rfl (fun ls hl => ?_)
  exact w_X2_thingsInAll_4 F NF _ _ _ _ hw (lv_sub hl [2, 1, 0] rfl) h
end
theorem c_X2_thingsInAll {l : Launch} {G : GX} {ad : Nat → Nat} {u : SS} {z : Int32} (h : f_X2_thingsInAll u = some z) : MO l yX2_thingsInAll cX2_thingsInAll 3 (some .int) rmX2_thingsInAll G (sw G ad u) [.ref (ad 0)] (some (.int z)) := MO.of (by decide) (Nat.le_of_ble_eq_true rfl) (fun p e s m below meth c ls F hw hl => w_X2_thingsInAll_0 F  _ _ hw hl h)
/-! ===== X2_labelAt ===== -/
theorem dX2_labelAt_0 : decode cX2_labelAt 0 = .ok (.iload_n 1, 1) := by decide +kernel
theorem dX2_labelAt_1 : decode cX2_labelAt 1 = .ok (.ifCond .lt 27, 3) := by decide +kernel
theorem dX2_labelAt_4 : decode cX2_labelAt 4 = .ok (.iload_n 1, 1) := by decide +kernel
theorem dX2_labelAt_5 : decode cX2_labelAt 5 = .ok (.sipush 600, 3) := by decide +kernel
theorem dX2_labelAt_8 : decode cX2_labelAt 8 = .ok (.if_icmp .ge 20, 3) := by decide +kernel
theorem dX2_labelAt_11 : decode cX2_labelAt 11 = .ok (.aload_n 0, 1) := by decide +kernel
theorem dX2_labelAt_12 : decode cX2_labelAt 12 = .ok (.getfield 35, 3) := by decide +kernel
theorem dX2_labelAt_15 : decode cX2_labelAt 15 = .ok (.aload_n 0, 1) := by decide +kernel
theorem dX2_labelAt_16 : decode cX2_labelAt 16 = .ok (.getfield 12, 3) := by decide +kernel
theorem dX2_labelAt_19 : decode cX2_labelAt 19 = .ok (.getfield 104, 3) := by decide +kernel
theorem dX2_labelAt_22 : decode cX2_labelAt 22 = .ok (.iload_n 1, 1) := by decide +kernel
theorem dX2_labelAt_23 : decode cX2_labelAt 23 = .ok (.iaload, 1) := by decide +kernel
theorem dX2_labelAt_24 : decode cX2_labelAt 24 = .ok (.laload, 1) := by decide +kernel
theorem dX2_labelAt_25 : decode cX2_labelAt 25 = .ok (.goto 6, 3) := by decide +kernel
theorem dX2_labelAt_28 : decode cX2_labelAt 28 = .ok (.ldc2_w 79, 3) := by decide +kernel
theorem dX2_labelAt_31 : decode cX2_labelAt 31 = .ok (.lreturn, 1) := by decide +kernel
theorem s_g0_5 {p : Program} {l : Launch} {e : Env} {R : Room} {s : State} {m : MethodId} {args : Array Value} {below : List Frame} {meth : Method} {c : Code} {H : Heap} {locs : List Loc} {cells slots : Nat} {Q : State → Prop} {G : GX} {A : Nat → Prop} {ad : Nat → Nat} {u : SS} {cc : ByteArray} {nL pc : Nat} {y : MethodName} {ret : Option FieldType} {ls : Array Slot} {rest : List Value} (F : FX p m c cc nL s args y ret RX2 meth) (hw : WD G A s (sw G ad u) H locs) (hdg : decode cc pc = .ok (.getfield 35, 3)) (kk : W p l e R s m args below meth c H locs cells slots Q (F0 m (pc + 3) ls (.ref (ad 12) :: rest))) : W p l e R s m args below meth c H locs cells slots Q (F0 m pc ls (.ref (ad 0) :: rest)) := va_get (D := G.1) (ci := 2) (C := RX2) (T := TX2) (N := 8) (Ts := lw_gt) F.1.1 F.1.2.1 (fun _ h => F.tb h) inX2 F.1.2.2.2.1 hw.1.1 hw.2.1 0 rfl rfl 5 (by decide) (F.tb (tw 77 (by decide +kernel) rfl)) (fun _ h9 => h9) rfl hdg kk
theorem s_g1_0 {p : Program} {l : Launch} {e : Env} {R : Room} {s : State} {m : MethodId} {args : Array Value} {below : List Frame} {meth : Method} {c : Code} {H : Heap} {locs : List Loc} {cells slots : Nat} {Q : State → Prop} {G : GX} {A : Nat → Prop} {ad : Nat → Nat} {u : SS} {cc : ByteArray} {nL pc : Nat} {y : MethodName} {ret : Option FieldType} {ls : Array Slot} {rest : List Value} (F : FX p m c cc nL s args y ret RX2 meth) (hw : WD G A s (sw G ad u) H locs) (hdg : decode cc pc = .ok (.getfield 104, 3)) (kk : W p l e R s m args below meth c H locs cells slots Q (F0 m (pc + 3) ls (.ref (ad 2) :: rest))) : W p l e R s m args below meth c H locs cells slots Q (F0 m pc ls (.ref (ad 1) :: rest)) := va_get (D := G.1) (ci := 1) (C := RX1) (T := TX1) (N := 3) (Ts := lw_gt) F.1.1 F.1.2.1 (fun _ h => F.tb h) inX1 F.1.2.2.2.1 hw.1.1 hw.2.1 1 rfl rfl 0 (by decide) (F.tb (tw 34 (by decide +kernel) rfl)) (fun _ h9 => h9) rfl hdg kk
theorem s_l2 {i : Int32} {p : Program} {l : Launch} {e : Env} {R : Room} {s : State} {m : MethodId} {args : Array Value} {below : List Frame} {meth : Method} {c : Code} {H : Heap} {locs : List Loc} {cells slots : Nat} {Q : State → Prop} {G : GX} {A : Nat → Prop} {ad : Nat → Nat} {u : SS} {cc : ByteArray} {nL pc : Nat} {y : MethodName} {ret : Option FieldType} {ls : Array Slot} {rest : List Value} (F : FX p m c cc nL s args y ret RX2 meth) (hw : WD G A s (sw G ad u) H locs) (hi : ix i 600 = true) (hdg : decode cc pc = .ok (.iaload, 1)) (kk : W p l e R s m args below meth c H locs cells slots Q (F0 m (pc + 1) ls (.int ((u.1 1) i.toNatClampNeg) :: rest))) : W p l e R s m args below meth c H locs cells slots Q (F0 m pc ls (.int i :: .ref (ad 2) :: rest)) := va_iald F.1.1 F.1.2.1 hw.1.1 hw.2.1 2 0 rfl rfl (ix_in hi) hdg kk
theorem s_l12 {i : Int32} {p : Program} {l : Launch} {e : Env} {R : Room} {s : State} {m : MethodId} {args : Array Value} {below : List Frame} {meth : Method} {c : Code} {H : Heap} {locs : List Loc} {cells slots : Nat} {Q : State → Prop} {G : GX} {A : Nat → Prop} {ad : Nat → Nat} {u : SS} {cc : ByteArray} {nL pc : Nat} {y : MethodName} {ret : Option FieldType} {ls : Array Slot} {rest : List Value} (F : FX p m c cc nL s args y ret RX2 meth) (hw : WD G A s (sw G ad u) H locs) (hi : ix i 600 = true) (hdg : decode cc pc = .ok (.laload, 1)) (kk : W p l e R s m args below meth c H locs cells slots Q (F0 m (pc + 1) ls (.long (u.2.2.2.1 i.toNatClampNeg) :: rest))) : W p l e R s m args below meth c H locs cells slots Q (F0 m pc ls (.int i :: .ref (ad 12) :: rest)) := va_lald F.1.1 F.1.2.1 hw.1.1 hw.2.1 12 1 rfl rfl (ix_in hi) hdg kk
def rmX2_labelAt : Room := { frames := 0, cells := 0, slots := 0, locals := 0 }
noncomputable def f_X2_labelAt (x1 : Int32) (u : SS) : Option (Int64) := (if x1 < 0 then some (-1) else (if (600 : Int32) ≤ x1 then some (-1) else (if ix x1 600 = true then (if ix ((u.1 1) (Int32.toNatClampNeg x1)) 600 = true then some (u.2.2.2.1 (Int32.toNatClampNeg ((u.1 1) (Int32.toNatClampNeg x1)))) else none) else none)))
section
variable {p : Program} {l : Launch} {e : Env} {s : State} {m : MethodId} {args : Array Value} {below : List Frame} {meth : Method} {c : Code}
variable {G : GX} {A : Nat → Prop} {ad : Nat → Nat} 
set_option maxHeartbeats 4000000 in
set_option maxRecDepth 100000 in
theorem w_X2_labelAt_0 (F : FX p m c cX2_labelAt 2 s args yX2_labelAt (some .long) RX2 meth) {z : Int64} : ∀ (x1 : Int32) (u : SS) (ls : Array Slot), WD G A s (sw G ad u) s.heap [] → lv_has ls 2 [(0, .ref (ad 0)), (1, .int x1)] → f_X2_labelAt x1 u = some z → W p l e rmX2_labelAt s m args below meth c s.heap [] 0 0 (MQ below (QO (some (.long z))) args s 0 0 (fun _ => False)) (F0 m 0 ls []) := by
  obtain ⟨⟨hx, hb, hml, hown, hts⟩, hr, hlocks⟩ := id F
  intro x1 u ls hw hl h
  unfold f_X2_labelAt at h
  refine lv_iload_n hx hb dX2_labelAt_0 rfl (lv_at hl 1 rfl) ?_
  refine lv_if_lt (tgt := 28) hx hb dX2_labelAt_1 rfl (fun c1 => ?_) (fun c1 => ?_)
  · replace h := itT h c1
    refine lv_ldc2 (own := RX2) (v := (-1)) hx hb hown (F.tb (tw 236 (by decide +kernel) rfl)) dX2_labelAt_28 ?_
    cases h
    exact retO_l F dX2_labelAt_31
  · replace h := itF h c1
    refine lv_iload_n hx hb dX2_labelAt_4 rfl (lv_at hl 1 rfl) ?_
    refine lv_sipush (v := 600) hx hb dX2_labelAt_5 rfl ?_
    refine lv_icmp_ge (tgt := 28) hx hb dX2_labelAt_8 rfl (fun c2 => ?_) (fun c2 => ?_)
    · replace h := itT h c2
      refine lv_ldc2 (own := RX2) (v := (-1)) hx hb hown (F.tb (tw 236 (by decide +kernel) rfl)) dX2_labelAt_28 ?_
      cases h
      exact retO_l F dX2_labelAt_31
    · replace h := itF h c2
      refine lv_aload_n hx hb dX2_labelAt_11 rfl (lv_at hl 0 rfl) ?_
      refine s_g0_5 F hw dX2_labelAt_12 ?_
      refine lv_aload_n hx hb dX2_labelAt_15 rfl (lv_at hl 0 rfl) ?_
      refine s_g0_0 F hw dX2_labelAt_16 ?_
      refine s_g1_0 F hw dX2_labelAt_19 ?_
      refine lv_iload_n hx hb dX2_labelAt_22 rfl (lv_at hl 1 rfl) ?_
      obtain ⟨g3, h⟩ := gd h
      refine s_l2 F hw g3 dX2_labelAt_23 ?_
      obtain ⟨g4, h⟩ := gd h
      refine s_l12 F hw g4 dX2_labelAt_24 ?_
      refine lv_goto (tgt := 31) hx hb dX2_labelAt_25 rfl ?_
      cases h
      exact retO_l F dX2_labelAt_31
end
theorem c_X2_labelAt {l : Launch} {G : GX} {ad : Nat → Nat} {x1 : Int32} {u : SS} {z : Int64} (h : f_X2_labelAt x1 u = some z) : MO l yX2_labelAt cX2_labelAt 2 (some .long) rmX2_labelAt G (sw G ad u) [.ref (ad 0), .int x1] (some (.long z)) := MO.of (by decide) (Nat.le_of_ble_eq_true rfl) (fun p e s m below meth c ls F hw hl => w_X2_labelAt_0 F _ _ _ hw hl h)
/-! ===== X2_blocksIn ===== -/
theorem dX2_blocksIn_0 : decode cX2_blocksIn 0 = .ok (.aload_n 0, 1) := by decide +kernel
theorem dX2_blocksIn_1 : decode cX2_blocksIn 1 = .ok (.iload_n 1, 1) := by decide +kernel
theorem dX2_blocksIn_2 : decode cX2_blocksIn 2 = .ok (.invokevirtual 76, 3) := by decide +kernel
theorem dX2_blocksIn_5 : decode cX2_blocksIn 5 = .ok (.ifCond .ne 5, 3) := by decide +kernel
theorem dX2_blocksIn_8 : decode cX2_blocksIn 8 = .ok (.iconst 0, 1) := by decide +kernel
theorem dX2_blocksIn_9 : decode cX2_blocksIn 9 = .ok (.ireturn, 1) := by decide +kernel
theorem dX2_blocksIn_10 : decode cX2_blocksIn 10 = .ok (.iconst 0, 1) := by decide +kernel
theorem dX2_blocksIn_11 : decode cX2_blocksIn 11 = .ok (.istore_n 2, 1) := by decide +kernel
theorem dX2_blocksIn_12 : decode cX2_blocksIn 12 = .ok (.ldc2_w 79, 3) := by decide +kernel
theorem dX2_blocksIn_15 : decode cX2_blocksIn 15 = .ok (.lstore_n 3, 1) := by decide +kernel
theorem dX2_blocksIn_16 : decode cX2_blocksIn 16 = .ok (.aload_n 0, 1) := by decide +kernel
theorem dX2_blocksIn_17 : decode cX2_blocksIn 17 = .ok (.getfield 12, 3) := by decide +kernel
theorem dX2_blocksIn_20 : decode cX2_blocksIn 20 = .ok (.iload_n 1, 1) := by decide +kernel
theorem dX2_blocksIn_21 : decode cX2_blocksIn 21 = .ok (.invokevirtual 81, 3) := by decide +kernel
theorem dX2_blocksIn_24 : decode cX2_blocksIn 24 = .ok (.istore 5, 2) := by decide +kernel
theorem dX2_blocksIn_26 : decode cX2_blocksIn 26 = .ok (.iload 5, 2) := by decide +kernel
theorem dX2_blocksIn_28 : decode cX2_blocksIn 28 = .ok (.aload_n 0, 1) := by decide +kernel
theorem dX2_blocksIn_29 : decode cX2_blocksIn 29 = .ok (.getfield 12, 3) := by decide +kernel
theorem dX2_blocksIn_32 : decode cX2_blocksIn 32 = .ok (.iload_n 1, 1) := by decide +kernel
theorem dX2_blocksIn_33 : decode cX2_blocksIn 33 = .ok (.invokevirtual 84, 3) := by decide +kernel
theorem dX2_blocksIn_36 : decode cX2_blocksIn 36 = .ok (.if_icmp .ge 30, 3) := by decide +kernel
theorem dX2_blocksIn_39 : decode cX2_blocksIn 39 = .ok (.aload_n 0, 1) := by decide +kernel
theorem dX2_blocksIn_40 : decode cX2_blocksIn 40 = .ok (.iload 5, 2) := by decide +kernel
theorem dX2_blocksIn_42 : decode cX2_blocksIn 42 = .ok (.invokevirtual 87, 3) := by decide +kernel
theorem dX2_blocksIn_45 : decode cX2_blocksIn 45 = .ok (.lload_n 3, 1) := by decide +kernel
theorem dX2_blocksIn_46 : decode cX2_blocksIn 46 = .ok (.lcmp, 1) := by decide +kernel
theorem dX2_blocksIn_47 : decode cX2_blocksIn 47 = .ok (.ifCond .eq 6, 3) := by decide +kernel
theorem dX2_blocksIn_50 : decode cX2_blocksIn 50 = .ok (.iinc 2 1, 3) := by decide +kernel
theorem dX2_blocksIn_53 : decode cX2_blocksIn 53 = .ok (.aload_n 0, 1) := by decide +kernel
theorem dX2_blocksIn_54 : decode cX2_blocksIn 54 = .ok (.iload 5, 2) := by decide +kernel
theorem dX2_blocksIn_56 : decode cX2_blocksIn 56 = .ok (.invokevirtual 87, 3) := by decide +kernel
theorem dX2_blocksIn_59 : decode cX2_blocksIn 59 = .ok (.lstore_n 3, 1) := by decide +kernel
theorem dX2_blocksIn_60 : decode cX2_blocksIn 60 = .ok (.iinc 5 1, 3) := by decide +kernel
theorem dX2_blocksIn_63 : decode cX2_blocksIn 63 = .ok (.goto (-37), 3) := by decide +kernel
theorem dX2_blocksIn_66 : decode cX2_blocksIn 66 = .ok (.iload_n 2, 1) := by decide +kernel
theorem dX2_blocksIn_67 : decode cX2_blocksIn 67 = .ok (.ireturn, 1) := by decide +kernel
theorem yv_X2_hasBlocks_X2 : YV RX2 76 yX2_hasBlocks cX2_hasBlocks 2 (some .boolean) 1 := ⟨(tw 240 (by decide +kernel) rfl), (tw 2 (by decide +kernel) rfl), (tw 237 (by decide +kernel) rfl), (tw 238 (by decide +kernel) rfl), (tw 239 (by decide +kernel) rfl), by decide +kernel⟩
theorem k_X2_hasBlocks_s_ {p : Program} {l : Launch} {e : Env} {R : Room} {s : State} {m : MethodId} {args : Array Value} {below : List Frame} {meth : Method} {c : Code} {H : Heap} {locs : List Loc} {cells slots : Nat} {Q : State → Prop} {G : GX} {A : Nat → Prop} {ad : Nat → Nat} {u : SS} {cc : ByteArray} {nL pc : Nat} {y : MethodName} {ret : Option FieldType} {ls : Array Slot} {rest : List Value} {x1 : Int32} {z : Int32} (F : FX p m c cc nL s args y ret RX2 meth) (hw : WD G A s (sw G ad u) H locs) (h : f_X2_hasBlocks x1 u = some z) (hR : rmX2_hasBlocks.frames + 1 ≤ R.frames ∧ 8 + (2 + 11) + rmX2_hasBlocks.locals ≤ R.locals) (hcs : cells ≤ R.cells ∧ slots ≤ R.slots) (hsz : ls.size = nL) (hW : (rest.map fun v => v.category).sum ≤ 8) (hdg : decode cc pc = .ok (.invokevirtual 76, 3)) (kk : W p l e R s m args below meth c H locs cells slots Q (F0 m (pc + 3) ls (.int z :: rest))) : W p l e R s m args below meth c H locs cells slots Q (F0 m pc ls (.int x1 :: .ref (ad 0) :: rest)) := callO (runV F yv_X2_hasBlocks_X2 (c_X2_hasBlocks h) hw.1 hw.2.1 hw.2.2.1 rfl rfl rfl ⟨rfl, rfl⟩ hR hcs rfl hsz rfl hW hdg) kk
theorem yv_X1_first_X2 : YV RX2 81 yX1_first cX1_first 2 (some .int) 1 := ⟨(tw 206 (by decide +kernel) rfl), (tw 3 (by decide +kernel) rfl), (tw 203 (by decide +kernel) rfl), (tw 204 (by decide +kernel) rfl), (tw 205 (by decide +kernel) rfl), by decide +kernel⟩
theorem k_X1_first_s_ {p : Program} {l : Launch} {e : Env} {R : Room} {s : State} {m : MethodId} {args : Array Value} {below : List Frame} {meth : Method} {c : Code} {H : Heap} {locs : List Loc} {cells slots : Nat} {Q : State → Prop} {G : GX} {A : Nat → Prop} {ad : Nat → Nat} {u : SS} {cc : ByteArray} {nL pc : Nat} {y : MethodName} {ret : Option FieldType} {ls : Array Slot} {rest : List Value} {x1 : Int32} {z : Int32} (F : FX p m c cc nL s args y ret RX2 meth) (hw : WD G A s (sw G ad u) H locs) (h : f_X1_first x1 u.1 = some z) (hR : rmX1_first.frames + 1 ≤ R.frames ∧ 8 + (2 + 11) + rmX1_first.locals ≤ R.locals) (hcs : cells ≤ R.cells ∧ slots ≤ R.slots) (hsz : ls.size = nL) (hW : (rest.map fun v => v.category).sum ≤ 8) (hdg : decode cc pc = .ok (.invokevirtual 81, 3)) (kk : W p l e R s m args below meth c H locs cells slots Q (F0 m (pc + 3) ls (.int z :: rest))) : W p l e R s m args below meth c H locs cells slots Q (F0 m pc ls (.int x1 :: .ref (ad 1) :: rest)) := callO (runV F yv_X1_first_X2 (c_X1_first h (ad := (fun k => ad (k + 1)))) hw.1 (hw.2.1.sub [1, 2, 3, 4] rfl) (hw.2.2.1.sub [1, 2, 3, 4] (by decide) rfl) rfl rfl rfl ⟨rfl, rfl⟩ hR hcs rfl hsz rfl hW hdg) kk
theorem yv_X1_end_X2 : YV RX2 84 yX1_end cX1_end 2 (some .int) 1 := ⟨(tw 219 (by decide +kernel) rfl), (tw 3 (by decide +kernel) rfl), (tw 254 (by decide +kernel) rfl), (tw 217 (by decide +kernel) rfl), (tw 218 (by decide +kernel) rfl), by decide +kernel⟩
theorem k_X1_end_s_ {p : Program} {l : Launch} {e : Env} {R : Room} {s : State} {m : MethodId} {args : Array Value} {below : List Frame} {meth : Method} {c : Code} {H : Heap} {locs : List Loc} {cells slots : Nat} {Q : State → Prop} {G : GX} {A : Nat → Prop} {ad : Nat → Nat} {u : SS} {cc : ByteArray} {nL pc : Nat} {y : MethodName} {ret : Option FieldType} {ls : Array Slot} {rest : List Value} {x1 : Int32} {z : Int32} (F : FX p m c cc nL s args y ret RX2 meth) (hw : WD G A s (sw G ad u) H locs) (h : f_X1_end x1 u.1 = some z) (hR : rmX1_end.frames + 1 ≤ R.frames ∧ 8 + (2 + 11) + rmX1_end.locals ≤ R.locals) (hcs : cells ≤ R.cells ∧ slots ≤ R.slots) (hsz : ls.size = nL) (hW : (rest.map fun v => v.category).sum ≤ 8) (hdg : decode cc pc = .ok (.invokevirtual 84, 3)) (kk : W p l e R s m args below meth c H locs cells slots Q (F0 m (pc + 3) ls (.int z :: rest))) : W p l e R s m args below meth c H locs cells slots Q (F0 m pc ls (.int x1 :: .ref (ad 1) :: rest)) := callO (runV F yv_X1_end_X2 (c_X1_end h (ad := (fun k => ad (k + 1)))) hw.1 (hw.2.1.sub [1, 2, 3, 4] rfl) (hw.2.2.1.sub [1, 2, 3, 4] (by decide) rfl) rfl rfl rfl ⟨rfl, rfl⟩ hR hcs rfl hsz rfl hW hdg) kk
theorem yv_X2_labelAt_X2 : YV RX2 87 yX2_labelAt cX2_labelAt 2 (some .long) 1 := ⟨(tw 253 (by decide +kernel) rfl), (tw 2 (by decide +kernel) rfl), (tw 250 (by decide +kernel) rfl), (tw 251 (by decide +kernel) rfl), (tw 252 (by decide +kernel) rfl), by decide +kernel⟩
theorem k_X2_labelAt_s_ {p : Program} {l : Launch} {e : Env} {R : Room} {s : State} {m : MethodId} {args : Array Value} {below : List Frame} {meth : Method} {c : Code} {H : Heap} {locs : List Loc} {cells slots : Nat} {Q : State → Prop} {G : GX} {A : Nat → Prop} {ad : Nat → Nat} {u : SS} {cc : ByteArray} {nL pc : Nat} {y : MethodName} {ret : Option FieldType} {ls : Array Slot} {rest : List Value} {x1 : Int32} {z : Int64} (F : FX p m c cc nL s args y ret RX2 meth) (hw : WD G A s (sw G ad u) H locs) (h : f_X2_labelAt x1 u = some z) (hR : rmX2_labelAt.frames + 1 ≤ R.frames ∧ 8 + (2 + 11) + rmX2_labelAt.locals ≤ R.locals) (hcs : cells ≤ R.cells ∧ slots ≤ R.slots) (hsz : ls.size = nL) (hW : (rest.map fun v => v.category).sum ≤ 8) (hdg : decode cc pc = .ok (.invokevirtual 87, 3)) (kk : W p l e R s m args below meth c H locs cells slots Q (F0 m (pc + 3) ls (.long z :: rest))) : W p l e R s m args below meth c H locs cells slots Q (F0 m pc ls (.int x1 :: .ref (ad 0) :: rest)) := callO (runV F yv_X2_labelAt_X2 (c_X2_labelAt h) hw.1 hw.2.1 hw.2.2.1 rfl rfl rfl ⟨rfl, rfl⟩ hR hcs rfl hsz rfl hW hdg) kk
def rmX2_blocksIn : Room := { frames := 2, cells := 0, slots := 0, locals := 42 }
noncomputable def f_X2_blocksIn_26 : Nat → Int32 → Int32 → Int64 → Int32 → SS → Option (Int32)
  | 0, _, _, _, _, _ => none
  | n + 1, x1, x2, x3, x5, u => (f_X1_end x1 u.1).bind (fun z6 => (if z6 ≤ x5 then some x2 else (f_X2_labelAt x5 u).bind (fun z9 => (if (lg_cmp z9 x3) = 0 then (f_X2_labelAt x5 u).bind (fun z12 => f_X2_blocksIn_26 n x1 x2 z12 (x5 + 1) u) else (f_X2_labelAt x5 u).bind (fun z14 => f_X2_blocksIn_26 n x1 (x2 + 1) z14 (x5 + 1) u)))))
noncomputable def f_X2_blocksIn (x1 : Int32) (u : SS) : Option (Int32) := (f_X2_hasBlocks x1 u).bind (fun z1 => (if z1 = 0 then some 0 else (f_X1_first x1 u.1).bind (fun z4 => f_X2_blocksIn_26 NF x1 0 (-1) z4 u)))
section
variable {p : Program} {l : Launch} {e : Env} {s : State} {m : MethodId} {args : Array Value} {below : List Frame} {meth : Method} {c : Code}
variable {G : GX} {A : Nat → Prop} {ad : Nat → Nat} 
set_option maxHeartbeats 4000000 in
set_option maxRecDepth 100000 in
theorem w_X2_blocksIn_26 (F : FX p m c cX2_blocksIn 6 s args yX2_blocksIn (some .int) RX2 meth) {z : Int32} : ∀ (n : Nat) (x1 : Int32) (x2 : Int32) (x3 : Int64) (x5 : Int32) (u : SS) (ls : Array Slot), WD G A s (sw G ad u) s.heap [] → lv_has ls 6 [(0, .ref (ad 0)), (1, .int x1), (2, .int x2), (3, .long x3), (5, .int x5)] → f_X2_blocksIn_26 n x1 x2 x3 x5 u = some z → W p l e rmX2_blocksIn s m args below meth c s.heap [] 0 0 (MQ below (QO (some (.int z))) args s 0 0 (fun _ => False)) (F0 m 26 ls []) := by
  obtain ⟨⟨hx, hb, hml, hown, hts⟩, hr, hlocks⟩ := id F
  intro n
  induction n with
  | zero =>
    intro x1 x2 x3 x5 u ls hw hl h
    rw [f_X2_blocksIn_26] at h
    cases h
  | succ n ih =>
    intro x1 x2 x3 x5 u ls hw hl h
    rw [f_X2_blocksIn_26] at h
    refine lv_iload hx hb dX2_blocksIn_26 (lv_at hl 4 rfl) ?_
    refine lv_aload_n hx hb dX2_blocksIn_28 rfl (lv_at hl 0 rfl) ?_
    refine s_g0_0 F hw dX2_blocksIn_29 ?_
    refine lv_iload_n hx hb dX2_blocksIn_32 rfl (lv_at hl 1 rfl) ?_
    obtain ⟨z6, e7, h⟩ := bnd h
    refine k_X1_end_s_ F hw e7 ⟨Nat.le_of_ble_eq_true rfl, Nat.le_of_ble_eq_true rfl⟩ ⟨Nat.zero_le _, Nat.zero_le _⟩ hl.1 (Nat.le_of_ble_eq_true rfl) dX2_blocksIn_33 ?_
    refine lv_icmp_ge (tgt := 66) hx hb dX2_blocksIn_36 rfl (fun c8 => ?_) (fun c8 => ?_)
    · replace h := itT h c8
      refine lv_iload_n hx hb dX2_blocksIn_66 rfl (lv_at hl 2 rfl) ?_
      cases h
      exact retO_i F dX2_blocksIn_67
    · replace h := itF h c8
      refine lv_aload_n hx hb dX2_blocksIn_39 rfl (lv_at hl 0 rfl) ?_
      refine lv_iload hx hb dX2_blocksIn_40 (lv_at hl 4 rfl) ?_
      obtain ⟨z9, e10, h⟩ := bnd h
      refine k_X2_labelAt_s_ F hw e10 ⟨Nat.le_of_ble_eq_true rfl, Nat.le_of_ble_eq_true rfl⟩ ⟨Nat.zero_le _, Nat.zero_le _⟩ hl.1 (Nat.le_of_ble_eq_true rfl) dX2_blocksIn_42 ?_
      refine lv_lload_n hx hb dX2_blocksIn_45 rfl (lv_at hl 3 rfl) ?_
      refine W.lcmp hx hb dX2_blocksIn_46 ?_
      refine lv_if_eq (tgt := 53) hx hb dX2_blocksIn_47 rfl (fun c11 => ?_) (fun c11 => ?_)
      · replace h := itT h c11
        refine lv_aload_n hx hb dX2_blocksIn_53 rfl (lv_at hl 0 rfl) ?_
        refine lv_iload hx hb dX2_blocksIn_54 (lv_at hl 4 rfl) ?_
        obtain ⟨z12, e13, h⟩ := bnd h
        refine k_X2_labelAt_s_ F hw e13 ⟨Nat.le_of_ble_eq_true rfl, Nat.le_of_ble_eq_true rfl⟩ ⟨Nat.zero_le _, Nat.zero_le _⟩ hl.1 (Nat.le_of_ble_eq_true rfl) dX2_blocksIn_56 ?_
        refine lv_lstore_n (lv' := [(3, .long z12), (0, .ref (ad 0)), (1, .int x1), (2, .int x2), (5, .int x5)]) hx hb dX2_blocksIn_59 rfl hl (by decide) rfl (fun ls hl => ?_)
        refine lv_iinc (v := (x5 + 1)) (lv' := [(5, .int (x5 + 1)), (3, .long z12), (0, .ref (ad 0)), (1, .int x1), (2, .int x2)]) hx hb dX2_blocksIn_60 hl (k := 4) rfl rfl (by decide) rfl (fun ls hl => ?_)
        refine lv_goto (tgt := 26) hx hb dX2_blocksIn_63 rfl ?_
        exact ih _ _ _ _ _ _ hw (lv_sub hl [2, 3, 4, 1, 0] rfl) h
      · replace h := itF h c11
        refine lv_iinc (v := (x2 + 1)) (lv' := [(2, .int (x2 + 1)), (0, .ref (ad 0)), (1, .int x1), (3, .long x3), (5, .int x5)]) hx hb dX2_blocksIn_50 hl (k := 2) rfl rfl (by decide) rfl (fun ls hl => ?_)
        refine lv_aload_n hx hb dX2_blocksIn_53 rfl (lv_at hl 1 rfl) ?_
        refine lv_iload hx hb dX2_blocksIn_54 (lv_at hl 4 rfl) ?_
        obtain ⟨z14, e15, h⟩ := bnd h
        refine k_X2_labelAt_s_ F hw e15 ⟨Nat.le_of_ble_eq_true rfl, Nat.le_of_ble_eq_true rfl⟩ ⟨Nat.zero_le _, Nat.zero_le _⟩ hl.1 (Nat.le_of_ble_eq_true rfl) dX2_blocksIn_56 ?_
        refine lv_lstore_n (lv' := [(3, .long z14), (2, .int (x2 + 1)), (0, .ref (ad 0)), (1, .int x1), (5, .int x5)]) hx hb dX2_blocksIn_59 rfl hl (by decide) rfl (fun ls hl => ?_)
        refine lv_iinc (v := (x5 + 1)) (lv' := [(5, .int (x5 + 1)), (3, .long z14), (2, .int (x2 + 1)), (0, .ref (ad 0)), (1, .int x1)]) hx hb dX2_blocksIn_60 hl (k := 4) rfl rfl (by decide) rfl (fun ls hl => ?_)
        refine lv_goto (tgt := 26) hx hb dX2_blocksIn_63 rfl ?_
        exact ih _ _ _ _ _ _ hw (lv_sub hl [3, 4, 2, 1, 0] rfl) h
set_option maxHeartbeats 4000000 in
set_option maxRecDepth 100000 in
theorem w_X2_blocksIn_0 (F : FX p m c cX2_blocksIn 6 s args yX2_blocksIn (some .int) RX2 meth) {z : Int32} : ∀ (x1 : Int32) (u : SS) (ls : Array Slot), WD G A s (sw G ad u) s.heap [] → lv_has ls 6 [(0, .ref (ad 0)), (1, .int x1)] → f_X2_blocksIn x1 u = some z → W p l e rmX2_blocksIn s m args below meth c s.heap [] 0 0 (MQ below (QO (some (.int z))) args s 0 0 (fun _ => False)) (F0 m 0 ls []) := by
  obtain ⟨⟨hx, hb, hml, hown, hts⟩, hr, hlocks⟩ := id F
  intro x1 u ls hw hl h
  unfold f_X2_blocksIn at h
  refine lv_aload_n hx hb dX2_blocksIn_0 rfl (lv_at hl 0 rfl) ?_
  refine lv_iload_n hx hb dX2_blocksIn_1 rfl (lv_at hl 1 rfl) ?_
  obtain ⟨z1, e2, h⟩ := bnd h
  refine k_X2_hasBlocks_s_ F hw e2 ⟨Nat.le_of_ble_eq_true rfl, Nat.le_of_ble_eq_true rfl⟩ ⟨Nat.zero_le _, Nat.zero_le _⟩ hl.1 (Nat.le_of_ble_eq_true rfl) dX2_blocksIn_2 ?_
  refine lv_if_ne (tgt := 10) hx hb dX2_blocksIn_5 rfl (fun c3 => ?_) (fun c3 => ?_)
  · replace h := itF h c3
    refine lv_iconst (v := 0) hx hb dX2_blocksIn_10 rfl ?_
    refine lv_istore_n (lv' := [(2, .int 0), (0, .ref (ad 0)), (1, .int x1)]) hx hb dX2_blocksIn_11 rfl hl (by decide) rfl (fun ls hl => ?_)
    refine lv_ldc2 (own := RX2) (v := (-1)) hx hb hown (F.tb (tw 236 (by decide +kernel) rfl)) dX2_blocksIn_12 ?_
    refine lv_lstore_n (lv' := [(3, .long (-1)), (2, .int 0), (0, .ref (ad 0)), (1, .int x1)]) hx hb dX2_blocksIn_15 rfl hl (by decide) rfl (fun ls hl => ?_)
    refine lv_aload_n hx hb dX2_blocksIn_16 rfl (lv_at hl 2 rfl) ?_
    refine s_g0_0 F hw dX2_blocksIn_17 ?_
    refine lv_iload_n hx hb dX2_blocksIn_20 rfl (lv_at hl 3 rfl) ?_
    obtain ⟨z4, e5, h⟩ := bnd h
    refine k_X1_first_s_ F hw e5 ⟨Nat.le_of_ble_eq_true rfl, Nat.le_of_ble_eq_true rfl⟩ ⟨Nat.zero_le _, Nat.zero_le _⟩ hl.1 (Nat.le_of_ble_eq_true rfl) dX2_blocksIn_21 ?_
    refine lv_istore (lv' := [(5, .int z4), (3, .long (-1)), (2, .int 0), (0, .ref (ad 0)), (1, .int x1)]) hx hb dX2_blocksIn_24 hl (by decide) rfl (fun ls hl => ?_)
    exact w_X2_blocksIn_26 F NF _ _ _ _ _ _ hw (lv_sub hl [3, 4, 2, 1, 0] rfl) h
  · replace h := itT h c3
    refine lv_iconst (v := 0) hx hb dX2_blocksIn_8 rfl ?_
    cases h
    exact retO_i F dX2_blocksIn_9
end
theorem c_X2_blocksIn {l : Launch} {G : GX} {ad : Nat → Nat} {x1 : Int32} {u : SS} {z : Int32} (h : f_X2_blocksIn x1 u = some z) : MO l yX2_blocksIn cX2_blocksIn 6 (some .int) rmX2_blocksIn G (sw G ad u) [.ref (ad 0), .int x1] (some (.int z)) := MO.of (by decide) (Nat.le_of_ble_eq_true rfl) (fun p e s m below meth c ls F hw hl => w_X2_blocksIn_0 F _ _ _ hw hl h)
/-! ===== X2_firstPlace ===== -/
theorem dX2_firstPlace_0 : decode cX2_firstPlace 0 = .ok (.aload_n 0, 1) := by decide +kernel
theorem dX2_firstPlace_1 : decode cX2_firstPlace 1 = .ok (.getfield 12, 3) := by decide +kernel
theorem dX2_firstPlace_4 : decode cX2_firstPlace 4 = .ok (.iconst 2, 1) := by decide +kernel
theorem dX2_firstPlace_5 : decode cX2_firstPlace 5 = .ok (.iload_n 1, 1) := by decide +kernel
theorem dX2_firstPlace_6 : decode cX2_firstPlace 6 = .ok (.imul, 1) := by decide +kernel
theorem dX2_firstPlace_7 : decode cX2_firstPlace 7 = .ok (.invokevirtual 91, 3) := by decide +kernel
theorem dX2_firstPlace_10 : decode cX2_firstPlace 10 = .ok (.ireturn, 1) := by decide +kernel
theorem yv_X1_placeOf_X2 : YV RX2 91 yX1_placeOf cX1_placeOf 4 (some .int) 1 := ⟨(tw 210 (by decide +kernel) rfl), (tw 3 (by decide +kernel) rfl), (tw 207 (by decide +kernel) rfl), (tw 208 (by decide +kernel) rfl), (tw 209 (by decide +kernel) rfl), by decide +kernel⟩
theorem k_X1_placeOf_s_ {p : Program} {l : Launch} {e : Env} {R : Room} {s : State} {m : MethodId} {args : Array Value} {below : List Frame} {meth : Method} {c : Code} {H : Heap} {locs : List Loc} {cells slots : Nat} {Q : State → Prop} {G : GX} {A : Nat → Prop} {ad : Nat → Nat} {u : SS} {cc : ByteArray} {nL pc : Nat} {y : MethodName} {ret : Option FieldType} {ls : Array Slot} {rest : List Value} {x1 : Int32} {z : Int32} (F : FX p m c cc nL s args y ret RX2 meth) (hw : WD G A s (sw G ad u) H locs) (h : f_X1_placeOf x1 u.1 = some z) (hR : rmX1_placeOf.frames + 1 ≤ R.frames ∧ 8 + (4 + 11) + rmX1_placeOf.locals ≤ R.locals) (hcs : cells ≤ R.cells ∧ slots ≤ R.slots) (hsz : ls.size = nL) (hW : (rest.map fun v => v.category).sum ≤ 8) (hdg : decode cc pc = .ok (.invokevirtual 91, 3)) (kk : W p l e R s m args below meth c H locs cells slots Q (F0 m (pc + 3) ls (.int z :: rest))) : W p l e R s m args below meth c H locs cells slots Q (F0 m pc ls (.int x1 :: .ref (ad 1) :: rest)) := callO (runV F yv_X1_placeOf_X2 (c_X1_placeOf h (ad := (fun k => ad (k + 1)))) hw.1 (hw.2.1.sub [1, 2, 3, 4] rfl) (hw.2.2.1.sub [1, 2, 3, 4] (by decide) rfl) rfl rfl rfl ⟨rfl, rfl⟩ hR hcs rfl hsz rfl hW hdg) kk
def rmX2_firstPlace : Room := { frames := 2, cells := 0, slots := 0, locals := 44 }
noncomputable def f_X2_firstPlace (x1 : Int32) (u : SS) : Option (Int32) := (f_X1_placeOf (2 * x1) u.1).bind (fun z1 => some z1)
section
variable {p : Program} {l : Launch} {e : Env} {s : State} {m : MethodId} {args : Array Value} {below : List Frame} {meth : Method} {c : Code}
variable {G : GX} {A : Nat → Prop} {ad : Nat → Nat} 
set_option maxHeartbeats 4000000 in
set_option maxRecDepth 100000 in
theorem w_X2_firstPlace_0 (F : FX p m c cX2_firstPlace 2 s args yX2_firstPlace (some .int) RX2 meth) {z : Int32} : ∀ (x1 : Int32) (u : SS) (ls : Array Slot), WD G A s (sw G ad u) s.heap [] → lv_has ls 2 [(0, .ref (ad 0)), (1, .int x1)] → f_X2_firstPlace x1 u = some z → W p l e rmX2_firstPlace s m args below meth c s.heap [] 0 0 (MQ below (QO (some (.int z))) args s 0 0 (fun _ => False)) (F0 m 0 ls []) := by
  obtain ⟨⟨hx, hb, hml, hown, hts⟩, hr, hlocks⟩ := id F
  intro x1 u ls hw hl h
  unfold f_X2_firstPlace at h
  refine lv_aload_n hx hb dX2_firstPlace_0 rfl (lv_at hl 0 rfl) ?_
  refine s_g0_0 F hw dX2_firstPlace_1 ?_
  refine lv_iconst (v := 2) hx hb dX2_firstPlace_4 rfl ?_
  refine lv_iload_n hx hb dX2_firstPlace_5 rfl (lv_at hl 1 rfl) ?_
  refine lv_imul hx hb dX2_firstPlace_6 ?_
  obtain ⟨z1, e2, h⟩ := bnd h
  refine k_X1_placeOf_s_ F hw e2 ⟨Nat.le_of_ble_eq_true rfl, Nat.le_of_ble_eq_true rfl⟩ ⟨Nat.zero_le _, Nat.zero_le _⟩ hl.1 (Nat.le_of_ble_eq_true rfl) dX2_firstPlace_7 ?_
  cases h
  exact retO_i F dX2_firstPlace_10
end
theorem c_X2_firstPlace {l : Launch} {G : GX} {ad : Nat → Nat} {x1 : Int32} {u : SS} {z : Int32} (h : f_X2_firstPlace x1 u = some z) : MO l yX2_firstPlace cX2_firstPlace 2 (some .int) rmX2_firstPlace G (sw G ad u) [.ref (ad 0), .int x1] (some (.int z)) := MO.of (by decide) (Nat.le_of_ble_eq_true rfl) (fun p e s m below meth c ls F hw hl => w_X2_firstPlace_0 F _ _ _ hw hl h)
/-! ===== X2_isNested ===== -/
theorem dX2_isNested_0 : decode cX2_isNested 0 = .ok (.aload_n 0, 1) := by decide +kernel
theorem dX2_isNested_1 : decode cX2_isNested 1 = .ok (.getfield 12, 3) := by decide +kernel
theorem dX2_isNested_4 : decode cX2_isNested 4 = .ok (.iload_n 1, 1) := by decide +kernel
theorem dX2_isNested_5 : decode cX2_isNested 5 = .ok (.invokevirtual 101, 3) := by decide +kernel
theorem dX2_isNested_8 : decode cX2_isNested 8 = .ok (.istore_n 2, 1) := by decide +kernel
theorem dX2_isNested_9 : decode cX2_isNested 9 = .ok (.iload_n 2, 1) := by decide +kernel
theorem dX2_isNested_10 : decode cX2_isNested 10 = .ok (.iconst (-1), 1) := by decide +kernel
theorem dX2_isNested_11 : decode cX2_isNested 11 = .ok (.if_icmp .eq 17, 3) := by decide +kernel
theorem dX2_isNested_14 : decode cX2_isNested 14 = .ok (.aload_n 0, 1) := by decide +kernel
theorem dX2_isNested_15 : decode cX2_isNested 15 = .ok (.getfield 25, 3) := by decide +kernel
theorem dX2_isNested_18 : decode cX2_isNested 18 = .ok (.iload_n 2, 1) := by decide +kernel
theorem dX2_isNested_19 : decode cX2_isNested 19 = .ok (.iaload, 1) := by decide +kernel
theorem dX2_isNested_20 : decode cX2_isNested 20 = .ok (.iconst 3, 1) := by decide +kernel
theorem dX2_isNested_21 : decode cX2_isNested 21 = .ok (.if_icmp .ne 7, 3) := by decide +kernel
theorem dX2_isNested_24 : decode cX2_isNested 24 = .ok (.iconst 1, 1) := by decide +kernel
theorem dX2_isNested_25 : decode cX2_isNested 25 = .ok (.goto 4, 3) := by decide +kernel
theorem dX2_isNested_28 : decode cX2_isNested 28 = .ok (.iconst 0, 1) := by decide +kernel
theorem dX2_isNested_29 : decode cX2_isNested 29 = .ok (.ireturn, 1) := by decide +kernel
theorem yv_X1_rowOfThing_X2 : YV RX2 101 yX1_rowOfThing cX1_rowOfThing 2 (some .int) 1 := ⟨(tw 186 (by decide +kernel) rfl), (tw 3 (by decide +kernel) rfl), (tw 191 (by decide +kernel) rfl), (tw 184 (by decide +kernel) rfl), (tw 185 (by decide +kernel) rfl), by decide +kernel⟩
theorem k_X1_rowOfThing_s_ {p : Program} {l : Launch} {e : Env} {R : Room} {s : State} {m : MethodId} {args : Array Value} {below : List Frame} {meth : Method} {c : Code} {H : Heap} {locs : List Loc} {cells slots : Nat} {Q : State → Prop} {G : GX} {A : Nat → Prop} {ad : Nat → Nat} {u : SS} {cc : ByteArray} {nL pc : Nat} {y : MethodName} {ret : Option FieldType} {ls : Array Slot} {rest : List Value} {x1 : Int32} {z : Int32} (F : FX p m c cc nL s args y ret RX2 meth) (hw : WD G A s (sw G ad u) H locs) (h : f_X1_rowOfThing x1 u.1 = some z) (hR : rmX1_rowOfThing.frames + 1 ≤ R.frames ∧ 8 + (2 + 11) + rmX1_rowOfThing.locals ≤ R.locals) (hcs : cells ≤ R.cells ∧ slots ≤ R.slots) (hsz : ls.size = nL) (hW : (rest.map fun v => v.category).sum ≤ 8) (hdg : decode cc pc = .ok (.invokevirtual 101, 3)) (kk : W p l e R s m args below meth c H locs cells slots Q (F0 m (pc + 3) ls (.int z :: rest))) : W p l e R s m args below meth c H locs cells slots Q (F0 m pc ls (.int x1 :: .ref (ad 1) :: rest)) := callO (runV F yv_X1_rowOfThing_X2 (c_X1_rowOfThing h (ad := (fun k => ad (k + 1)))) hw.1 (hw.2.1.sub [1, 2, 3, 4] rfl) (hw.2.2.1.sub [1, 2, 3, 4] (by decide) rfl) rfl rfl rfl ⟨rfl, rfl⟩ hR hcs rfl hsz rfl hW hdg) kk
def rmX2_isNested : Room := { frames := 1, cells := 0, slots := 0, locals := 21 }
noncomputable def f_X2_isNested (x1 : Int32) (u : SS) : Option (Int32) := (f_X1_rowOfThing x1 u.1).bind (fun z1 => (if z1 = ((-1) : Int32) then some 0 else (if ix z1 8 = true then (if ((u.2.2.1 2) (Int32.toNatClampNeg z1)) = (3 : Int32) then some 1 else some 0) else none)))
section
variable {p : Program} {l : Launch} {e : Env} {s : State} {m : MethodId} {args : Array Value} {below : List Frame} {meth : Method} {c : Code}
variable {G : GX} {A : Nat → Prop} {ad : Nat → Nat} 
set_option maxHeartbeats 4000000 in
set_option maxRecDepth 100000 in
theorem w_X2_isNested_0 (F : FX p m c cX2_isNested 3 s args yX2_isNested (some .boolean) RX2 meth) {z : Int32} : ∀ (x1 : Int32) (u : SS) (ls : Array Slot), WD G A s (sw G ad u) s.heap [] → lv_has ls 3 [(0, .ref (ad 0)), (1, .int x1)] → f_X2_isNested x1 u = some z → W p l e rmX2_isNested s m args below meth c s.heap [] 0 0 (MQ below (QO (some (.int z))) args s 0 0 (fun _ => False)) (F0 m 0 ls []) := by
  obtain ⟨⟨hx, hb, hml, hown, hts⟩, hr, hlocks⟩ := id F
  intro x1 u ls hw hl h
  unfold f_X2_isNested at h
  refine lv_aload_n hx hb dX2_isNested_0 rfl (lv_at hl 0 rfl) ?_
  refine s_g0_0 F hw dX2_isNested_1 ?_
  refine lv_iload_n hx hb dX2_isNested_4 rfl (lv_at hl 1 rfl) ?_
  obtain ⟨z1, e2, h⟩ := bnd h
  refine k_X1_rowOfThing_s_ F hw e2 ⟨Nat.le_of_ble_eq_true rfl, Nat.le_of_ble_eq_true rfl⟩ ⟨Nat.zero_le _, Nat.zero_le _⟩ hl.1 (Nat.le_of_ble_eq_true rfl) dX2_isNested_5 ?_
  refine lv_istore_n (lv' := [(2, .int z1), (0, .ref (ad 0)), (1, .int x1)]) hx hb dX2_isNested_8 rfl hl (by decide) rfl (fun ls hl => ?_)
  refine lv_iload_n hx hb dX2_isNested_9 rfl (lv_at hl 0 rfl) ?_
  refine lv_iconst (v := (-1)) hx hb dX2_isNested_10 rfl ?_
  refine lv_icmp_eq (tgt := 28) hx hb dX2_isNested_11 rfl (fun c3 => ?_) (fun c3 => ?_)
  · replace h := itT h c3
    refine lv_iconst (v := 0) hx hb dX2_isNested_28 rfl ?_
    cases h
    exact retO_z F narrow_b0 dX2_isNested_29
  · replace h := itF h c3
    refine lv_aload_n hx hb dX2_isNested_14 rfl (lv_at hl 1 rfl) ?_
    refine s_g0_2 F hw dX2_isNested_15 ?_
    refine lv_iload_n hx hb dX2_isNested_18 rfl (lv_at hl 0 rfl) ?_
    obtain ⟨g4, h⟩ := gd h
    refine s_l9 F hw g4 dX2_isNested_19 ?_
    refine lv_iconst (v := 3) hx hb dX2_isNested_20 rfl ?_
    refine lv_icmp_ne (tgt := 28) hx hb dX2_isNested_21 rfl (fun c5 => ?_) (fun c5 => ?_)
    · replace h := itF h c5
      refine lv_iconst (v := 0) hx hb dX2_isNested_28 rfl ?_
      cases h
      exact retO_z F narrow_b0 dX2_isNested_29
    · replace h := itT h c5
      refine lv_iconst (v := 1) hx hb dX2_isNested_24 rfl ?_
      refine lv_goto (tgt := 29) hx hb dX2_isNested_25 rfl ?_
      cases h
      exact retO_z F narrow_b1 dX2_isNested_29
end
theorem c_X2_isNested {l : Launch} {G : GX} {ad : Nat → Nat} {x1 : Int32} {u : SS} {z : Int32} (h : f_X2_isNested x1 u = some z) : MO l yX2_isNested cX2_isNested 3 (some .boolean) rmX2_isNested G (sw G ad u) [.ref (ad 0), .int x1] (some (.int z)) := MO.of (by decide) (Nat.le_of_ble_eq_true rfl) (fun p e s m below meth c ls F hw hl => w_X2_isNested_0 F _ _ _ hw hl h)
/-! ===== X2_lastPlace ===== -/
theorem dX2_lastPlace_0 : decode cX2_lastPlace 0 = .ok (.aload_n 0, 1) := by decide +kernel
theorem dX2_lastPlace_1 : decode cX2_lastPlace 1 = .ok (.getfield 12, 3) := by decide +kernel
theorem dX2_lastPlace_4 : decode cX2_lastPlace 4 = .ok (.iload_n 1, 1) := by decide +kernel
theorem dX2_lastPlace_5 : decode cX2_lastPlace 5 = .ok (.aload_n 0, 1) := by decide +kernel
theorem dX2_lastPlace_6 : decode cX2_lastPlace 6 = .ok (.iload_n 1, 1) := by decide +kernel
theorem dX2_lastPlace_7 : decode cX2_lastPlace 7 = .ok (.invokevirtual 94, 3) := by decide +kernel
theorem dX2_lastPlace_10 : decode cX2_lastPlace 10 = .ok (.invokestatic 97, 3) := by decide +kernel
theorem dX2_lastPlace_13 : decode cX2_lastPlace 13 = .ok (.invokevirtual 91, 3) := by decide +kernel
theorem dX2_lastPlace_16 : decode cX2_lastPlace 16 = .ok (.ireturn, 1) := by decide +kernel
theorem yv_X2_isNested_X2 : YV RX2 94 yX2_isNested cX2_isNested 3 (some .boolean) 1 := ⟨(tw 190 (by decide +kernel) rfl), (tw 2 (by decide +kernel) rfl), (tw 308 (by decide +kernel) rfl), (tw 188 (by decide +kernel) rfl), (tw 189 (by decide +kernel) rfl), by decide +kernel⟩
theorem k_X2_isNested_s_ {p : Program} {l : Launch} {e : Env} {R : Room} {s : State} {m : MethodId} {args : Array Value} {below : List Frame} {meth : Method} {c : Code} {H : Heap} {locs : List Loc} {cells slots : Nat} {Q : State → Prop} {G : GX} {A : Nat → Prop} {ad : Nat → Nat} {u : SS} {cc : ByteArray} {nL pc : Nat} {y : MethodName} {ret : Option FieldType} {ls : Array Slot} {rest : List Value} {x1 : Int32} {z : Int32} (F : FX p m c cc nL s args y ret RX2 meth) (hw : WD G A s (sw G ad u) H locs) (h : f_X2_isNested x1 u = some z) (hR : rmX2_isNested.frames + 1 ≤ R.frames ∧ 8 + (3 + 11) + rmX2_isNested.locals ≤ R.locals) (hcs : cells ≤ R.cells ∧ slots ≤ R.slots) (hsz : ls.size = nL) (hW : (rest.map fun v => v.category).sum ≤ 8) (hdg : decode cc pc = .ok (.invokevirtual 94, 3)) (kk : W p l e R s m args below meth c H locs cells slots Q (F0 m (pc + 3) ls (.int z :: rest))) : W p l e R s m args below meth c H locs cells slots Q (F0 m pc ls (.int x1 :: .ref (ad 0) :: rest)) := callO (runV F yv_X2_isNested_X2 (c_X2_isNested h) hw.1 hw.2.1 hw.2.2.1 rfl rfl rfl ⟨rfl, rfl⟩ hR hcs rfl hsz rfl hW hdg) kk
theorem yv_X3_standOf_X2 : YN RX2 97 yX3_standOf RX3 cX3_standOf 2 (some .int) 2 := ⟨(tw 194 (by decide +kernel) rfl), (tw 1 (by decide +kernel) rfl), fun _ h => h.2.2.1, (tw 193 (by decide +kernel) rfl), by decide +kernel⟩
theorem k_X3_standOf_s_ {p : Program} {l : Launch} {e : Env} {R : Room} {s : State} {m : MethodId} {args : Array Value} {below : List Frame} {meth : Method} {c : Code} {H : Heap} {locs : List Loc} {cells slots : Nat} {Q : State → Prop} {G : GX} {A : Nat → Prop} {ad : Nat → Nat} {u : SS} {cc : ByteArray} {nL pc : Nat} {y : MethodName} {ret : Option FieldType} {ls : Array Slot} {rest : List Value} {x0 : Int32} {x1 : Int32} {z : Int32} (F : FX p m c cc nL s args y ret RX2 meth) (hw : WD G A s (sw G ad u) H locs) (h : f_X3_standOf x0 x1 = some z) (hR : rmX3_standOf.frames + 1 ≤ R.frames ∧ 8 + (2 + 11) + rmX3_standOf.locals ≤ R.locals) (hcs : cells ≤ R.cells ∧ slots ≤ R.slots) (hsz : ls.size = nL) (hW : (rest.map fun v => v.category).sum ≤ 8) (hdg : decode cc pc = .ok (.invokestatic 97, 3)) (kk : W p l e R s m args below meth c H locs cells slots Q (F0 m (pc + 3) ls (.int z :: rest))) : W p l e R s m args below meth c H locs cells slots Q (F0 m pc ls (.int x1 :: .int x0 :: rest)) := callO (runN F yv_X3_standOf_X2 (c_X3_standOf h (G := G)) hw.1 nil_P (A := A) nil_D ⟨rfl, rfl⟩ hR hcs rfl hsz rfl hW hdg) kk
def rmX2_lastPlace : Room := { frames := 2, cells := 0, slots := 0, locals := 44 }
noncomputable def f_X2_lastPlace (x1 : Int32) (u : SS) : Option (Int32) := (f_X2_isNested x1 u).bind (fun z1 => (f_X3_standOf x1 z1).bind (fun z3 => (f_X1_placeOf z3 u.1).bind (fun z5 => some z5)))
section
variable {p : Program} {l : Launch} {e : Env} {s : State} {m : MethodId} {args : Array Value} {below : List Frame} {meth : Method} {c : Code}
variable {G : GX} {A : Nat → Prop} {ad : Nat → Nat} 
set_option maxHeartbeats 4000000 in
set_option maxRecDepth 100000 in
theorem w_X2_lastPlace_0 (F : FX p m c cX2_lastPlace 2 s args yX2_lastPlace (some .int) RX2 meth) {z : Int32} : ∀ (x1 : Int32) (u : SS) (ls : Array Slot), WD G A s (sw G ad u) s.heap [] → lv_has ls 2 [(0, .ref (ad 0)), (1, .int x1)] → f_X2_lastPlace x1 u = some z → W p l e rmX2_lastPlace s m args below meth c s.heap [] 0 0 (MQ below (QO (some (.int z))) args s 0 0 (fun _ => False)) (F0 m 0 ls []) := by
  obtain ⟨⟨hx, hb, hml, hown, hts⟩, hr, hlocks⟩ := id F
  intro x1 u ls hw hl h
  unfold f_X2_lastPlace at h
  refine lv_aload_n hx hb dX2_lastPlace_0 rfl (lv_at hl 0 rfl) ?_
  refine s_g0_0 F hw dX2_lastPlace_1 ?_
  refine lv_iload_n hx hb dX2_lastPlace_4 rfl (lv_at hl 1 rfl) ?_
  refine lv_aload_n hx hb dX2_lastPlace_5 rfl (lv_at hl 0 rfl) ?_
  refine lv_iload_n hx hb dX2_lastPlace_6 rfl (lv_at hl 1 rfl) ?_
  obtain ⟨z1, e2, h⟩ := bnd h
  refine k_X2_isNested_s_ F hw e2 ⟨Nat.le_of_ble_eq_true rfl, Nat.le_of_ble_eq_true rfl⟩ ⟨Nat.zero_le _, Nat.zero_le _⟩ hl.1 (Nat.le_of_ble_eq_true rfl) dX2_lastPlace_7 ?_
  obtain ⟨z3, e4, h⟩ := bnd h
  refine k_X3_standOf_s_ F hw e4 ⟨Nat.le_of_ble_eq_true rfl, Nat.le_of_ble_eq_true rfl⟩ ⟨Nat.zero_le _, Nat.zero_le _⟩ hl.1 (Nat.le_of_ble_eq_true rfl) dX2_lastPlace_10 ?_
  obtain ⟨z5, e6, h⟩ := bnd h
  refine k_X1_placeOf_s_ F hw e6 ⟨Nat.le_of_ble_eq_true rfl, Nat.le_of_ble_eq_true rfl⟩ ⟨Nat.zero_le _, Nat.zero_le _⟩ hl.1 (Nat.le_of_ble_eq_true rfl) dX2_lastPlace_13 ?_
  cases h
  exact retO_i F dX2_lastPlace_16
end
theorem c_X2_lastPlace {l : Launch} {G : GX} {ad : Nat → Nat} {x1 : Int32} {u : SS} {z : Int32} (h : f_X2_lastPlace x1 u = some z) : MO l yX2_lastPlace cX2_lastPlace 2 (some .int) rmX2_lastPlace G (sw G ad u) [.ref (ad 0), .int x1] (some (.int z)) := MO.of (by decide) (Nat.le_of_ble_eq_true rfl) (fun p e s m below meth c ls F hw hl => w_X2_lastPlace_0 F _ _ _ hw hl h)
/-! ===== X2_placeBehind ===== -/
theorem dX2_placeBehind_0 : decode cX2_placeBehind 0 = .ok (.iload_n 2, 1) := by decide +kernel
theorem dX2_placeBehind_1 : decode cX2_placeBehind 1 = .ok (.iconst (-1), 1) := by decide +kernel
theorem dX2_placeBehind_2 : decode cX2_placeBehind 2 = .ok (.if_icmp .ne 14, 3) := by decide +kernel
theorem dX2_placeBehind_5 : decode cX2_placeBehind 5 = .ok (.aload_n 0, 1) := by decide +kernel
theorem dX2_placeBehind_6 : decode cX2_placeBehind 6 = .ok (.getfield 12, 3) := by decide +kernel
theorem dX2_placeBehind_9 : decode cX2_placeBehind 9 = .ok (.iload_n 1, 1) := by decide +kernel
theorem dX2_placeBehind_10 : decode cX2_placeBehind 10 = .ok (.invokevirtual 81, 3) := by decide +kernel
theorem dX2_placeBehind_13 : decode cX2_placeBehind 13 = .ok (.goto 13, 3) := by decide +kernel
theorem dX2_placeBehind_16 : decode cX2_placeBehind 16 = .ok (.aload_n 0, 1) := by decide +kernel
theorem dX2_placeBehind_17 : decode cX2_placeBehind 17 = .ok (.getfield 12, 3) := by decide +kernel
theorem dX2_placeBehind_20 : decode cX2_placeBehind 20 = .ok (.iload_n 2, 1) := by decide +kernel
theorem dX2_placeBehind_21 : decode cX2_placeBehind 21 = .ok (.invokevirtual 91, 3) := by decide +kernel
theorem dX2_placeBehind_24 : decode cX2_placeBehind 24 = .ok (.iconst 1, 1) := by decide +kernel
theorem dX2_placeBehind_25 : decode cX2_placeBehind 25 = .ok (.iadd, 1) := by decide +kernel
theorem dX2_placeBehind_26 : decode cX2_placeBehind 26 = .ok (.ireturn, 1) := by decide +kernel
def rmX2_placeBehind : Room := { frames := 2, cells := 0, slots := 0, locals := 44 }
noncomputable def f_X2_placeBehind (x1 : Int32) (x2 : Int32) (u : SS) : Option (Int32) := (if x2 = ((-1) : Int32) then (f_X1_first x1 u.1).bind (fun z4 => some z4) else (f_X1_placeOf x2 u.1).bind (fun z2 => some (z2 + 1)))
section
variable {p : Program} {l : Launch} {e : Env} {s : State} {m : MethodId} {args : Array Value} {below : List Frame} {meth : Method} {c : Code}
variable {G : GX} {A : Nat → Prop} {ad : Nat → Nat} 
set_option maxHeartbeats 4000000 in
set_option maxRecDepth 100000 in
theorem w_X2_placeBehind_0 (F : FX p m c cX2_placeBehind 3 s args yX2_placeBehind (some .int) RX2 meth) {z : Int32} : ∀ (x1 : Int32) (x2 : Int32) (u : SS) (ls : Array Slot), WD G A s (sw G ad u) s.heap [] → lv_has ls 3 [(0, .ref (ad 0)), (1, .int x1), (2, .int x2)] → f_X2_placeBehind x1 x2 u = some z → W p l e rmX2_placeBehind s m args below meth c s.heap [] 0 0 (MQ below (QO (some (.int z))) args s 0 0 (fun _ => False)) (F0 m 0 ls []) := by
  obtain ⟨⟨hx, hb, hml, hown, hts⟩, hr, hlocks⟩ := id F
  intro x1 x2 u ls hw hl h
  unfold f_X2_placeBehind at h
  refine lv_iload_n hx hb dX2_placeBehind_0 rfl (lv_at hl 2 rfl) ?_
  refine lv_iconst (v := (-1)) hx hb dX2_placeBehind_1 rfl ?_
  refine lv_icmp_ne (tgt := 16) hx hb dX2_placeBehind_2 rfl (fun c1 => ?_) (fun c1 => ?_)
  · replace h := itF h c1
    refine lv_aload_n hx hb dX2_placeBehind_16 rfl (lv_at hl 0 rfl) ?_
    refine s_g0_0 F hw dX2_placeBehind_17 ?_
    refine lv_iload_n hx hb dX2_placeBehind_20 rfl (lv_at hl 2 rfl) ?_
    obtain ⟨z2, e3, h⟩ := bnd h
    refine k_X1_placeOf_s_ F hw e3 ⟨Nat.le_of_ble_eq_true rfl, Nat.le_of_ble_eq_true rfl⟩ ⟨Nat.zero_le _, Nat.zero_le _⟩ hl.1 (Nat.le_of_ble_eq_true rfl) dX2_placeBehind_21 ?_
    refine lv_iconst (v := 1) hx hb dX2_placeBehind_24 rfl ?_
    refine lv_iadd hx hb dX2_placeBehind_25 ?_
    cases h
    exact retO_i F dX2_placeBehind_26
  · replace h := itT h c1
    refine lv_aload_n hx hb dX2_placeBehind_5 rfl (lv_at hl 0 rfl) ?_
    refine s_g0_0 F hw dX2_placeBehind_6 ?_
    refine lv_iload_n hx hb dX2_placeBehind_9 rfl (lv_at hl 1 rfl) ?_
    obtain ⟨z4, e5, h⟩ := bnd h
    refine k_X1_first_s_ F hw e5 ⟨Nat.le_of_ble_eq_true rfl, Nat.le_of_ble_eq_true rfl⟩ ⟨Nat.zero_le _, Nat.zero_le _⟩ hl.1 (Nat.le_of_ble_eq_true rfl) dX2_placeBehind_10 ?_
    refine lv_goto (tgt := 26) hx hb dX2_placeBehind_13 rfl ?_
    cases h
    exact retO_i F dX2_placeBehind_26
end
theorem c_X2_placeBehind {l : Launch} {G : GX} {ad : Nat → Nat} {x1 : Int32} {x2 : Int32} {u : SS} {z : Int32} (h : f_X2_placeBehind x1 x2 u = some z) : MO l yX2_placeBehind cX2_placeBehind 3 (some .int) rmX2_placeBehind G (sw G ad u) [.ref (ad 0), .int x1, .int x2] (some (.int z)) := MO.of (by decide) (Nat.le_of_ble_eq_true rfl) (fun p e s m below meth c ls F hw hl => w_X2_placeBehind_0 F _ _ _ _ hw hl h)
/-! ===== X2_setLabel ===== -/
theorem dX2_setLabel_0 : decode cX2_setLabel 0 = .ok (.iload_n 1, 1) := by decide +kernel
theorem dX2_setLabel_1 : decode cX2_setLabel 1 = .ok (.ifCond .lt 25, 3) := by decide +kernel
theorem dX2_setLabel_4 : decode cX2_setLabel 4 = .ok (.iload_n 1, 1) := by decide +kernel
theorem dX2_setLabel_5 : decode cX2_setLabel 5 = .ok (.sipush 600, 3) := by decide +kernel
theorem dX2_setLabel_8 : decode cX2_setLabel 8 = .ok (.if_icmp .ge 18, 3) := by decide +kernel
theorem dX2_setLabel_11 : decode cX2_setLabel 11 = .ok (.aload_n 0, 1) := by decide +kernel
theorem dX2_setLabel_12 : decode cX2_setLabel 12 = .ok (.getfield 35, 3) := by decide +kernel
theorem dX2_setLabel_15 : decode cX2_setLabel 15 = .ok (.aload_n 0, 1) := by decide +kernel
theorem dX2_setLabel_16 : decode cX2_setLabel 16 = .ok (.getfield 12, 3) := by decide +kernel
theorem dX2_setLabel_19 : decode cX2_setLabel 19 = .ok (.getfield 104, 3) := by decide +kernel
theorem dX2_setLabel_22 : decode cX2_setLabel 22 = .ok (.iload_n 1, 1) := by decide +kernel
theorem dX2_setLabel_23 : decode cX2_setLabel 23 = .ok (.iaload, 1) := by decide +kernel
theorem dX2_setLabel_24 : decode cX2_setLabel 24 = .ok (.lload_n 2, 1) := by decide +kernel
theorem dX2_setLabel_25 : decode cX2_setLabel 25 = .ok (.lastore, 1) := by decide +kernel
theorem dX2_setLabel_26 : decode cX2_setLabel 26 = .ok (.return_, 1) := by decide +kernel
theorem s_s12 {i : Int32} {x : Int64} {p : Program} {l : Launch} {e : Env} {R : Room} {s : State} {m : MethodId} {args : Array Value} {below : List Frame} {meth : Method} {c : Code} {H : Heap} {locs : List Loc} {cells slots : Nat} {Q : State → Prop} {G : GX} {A : Nat → Prop} {ad : Nat → Nat} {u : SS} {cc : ByteArray} {nL pc : Nat} {y : MethodName} {ret : Option FieldType} {ls : Array Slot} {rest : List Value} (F : FX p m c cc nL s args y ret RX2 meth) (hw : WD G A s (sw G ad u) H locs) (hi : ix i 600 = true) (hdg : decode cc pc = .ok (.lastore, 1)) (kk : ∀ (H : Heap) (locs : List Loc), WD G A s (sw G ad (sL u i.toNatClampNeg x)) H locs → W p l e R s m args below meth c H locs cells slots Q (F0 m (pc + 1) ls (rest))) : W p l e R s m args below meth c H locs cells slots Q (F0 m pc ls (.long x :: .int i :: .ref (ad 12) :: rest)) := va_last F.1.1 F.1.2.1 hw.1.1 hw.2.1 hw.2.2.1 hw.2.2.2 12 1 rfl rfl (ix_in hi) hdg (fun H1 l1 hP hD hS => kk H1 l1 ⟨hw.1, hP, hD, hS⟩)
def rmX2_setLabel : Room := { frames := 0, cells := 0, slots := 0, locals := 0 }
noncomputable def f_X2_setLabel (x1 : Int32) (x2 : Int64) (u : SS) : Option (SS) := (if x1 < 0 then some u else (if (600 : Int32) ≤ x1 then some u else (if ix x1 600 = true then (if ix ((u.1 1) (Int32.toNatClampNeg x1)) 600 = true then some (sL u (Int32.toNatClampNeg ((u.1 1) (Int32.toNatClampNeg x1))) x2) else none) else none)))
section
variable {p : Program} {l : Launch} {e : Env} {s : State} {m : MethodId} {args : Array Value} {below : List Frame} {meth : Method} {c : Code}
variable {G : GX} {A : Nat → Prop} {ad : Nat → Nat} 
set_option maxHeartbeats 4000000 in
set_option maxRecDepth 100000 in
theorem w_X2_setLabel_0 (F : FX p m c cX2_setLabel 4 s args yX2_setLabel none RX2 meth) {z : SS} : ∀ (x1 : Int32) (x2 : Int64) (u : SS) (H : Heap) (locs : List Loc) (ls : Array Slot), WD G A s (sw G ad u) H locs → lv_has ls 4 [(0, .ref (ad 0)), (1, .int x1), (2, .long x2)] → f_X2_setLabel x1 x2 u = some z → W p l e rmX2_setLabel s m args below meth c H locs 0 0 (MQ below (QW G (sw G ad z) A none) args s 0 0 A) (F0 m 0 ls []) := by
  obtain ⟨⟨hx, hb, hml, hown, hts⟩, hr, hlocks⟩ := id F
  intro x1 x2 u H locs ls hw hl h
  unfold f_X2_setLabel at h
  refine lv_iload_n hx hb dX2_setLabel_0 rfl (lv_at hl 1 rfl) ?_
  refine lv_if_lt (tgt := 26) hx hb dX2_setLabel_1 rfl (fun c1 => ?_) (fun c1 => ?_)
  · replace h := itT h c1
    cases h
    exact retW_v F hw dX2_setLabel_26
  · replace h := itF h c1
    refine lv_iload_n hx hb dX2_setLabel_4 rfl (lv_at hl 1 rfl) ?_
    refine lv_sipush (v := 600) hx hb dX2_setLabel_5 rfl ?_
    refine lv_icmp_ge (tgt := 26) hx hb dX2_setLabel_8 rfl (fun c2 => ?_) (fun c2 => ?_)
    · replace h := itT h c2
      cases h
      exact retW_v F hw dX2_setLabel_26
    · replace h := itF h c2
      refine lv_aload_n hx hb dX2_setLabel_11 rfl (lv_at hl 0 rfl) ?_
      refine s_g0_5 F hw dX2_setLabel_12 ?_
      refine lv_aload_n hx hb dX2_setLabel_15 rfl (lv_at hl 0 rfl) ?_
      refine s_g0_0 F hw dX2_setLabel_16 ?_
      refine s_g1_0 F hw dX2_setLabel_19 ?_
      refine lv_iload_n hx hb dX2_setLabel_22 rfl (lv_at hl 1 rfl) ?_
      obtain ⟨g3, h⟩ := gd h
      refine s_l2 F hw g3 dX2_setLabel_23 ?_
      refine lv_lload_n hx hb dX2_setLabel_24 rfl (lv_at hl 2 rfl) ?_
      obtain ⟨g4, h⟩ := gd h
      refine s_s12 F hw g4 dX2_setLabel_25 (fun H locs hw => ?_)
      cases h
      exact retW_v F hw dX2_setLabel_26
end
theorem c_X2_setLabel {l : Launch} {G : GX} {ad : Nat → Nat} {x1 : Int32} {x2 : Int64} {u : SS} {z : SS} (h : f_X2_setLabel x1 x2 u = some z) : MW l yX2_setLabel cX2_setLabel 4 none rmX2_setLabel G (sw G ad u) (sw G ad z) [.ref (ad 0), .int x1, .long x2] none := MW.of (by decide) (Nat.le_of_ble_eq_true rfl) (fun p e s m below meth c ls F hw hl => w_X2_setLabel_0 F _ _ _ _ _ _ hw hl h)
/-! ===== X2_innerAt ===== -/
theorem dX2_innerAt_0 : decode cX2_innerAt 0 = .ok (.iload_n 1, 1) := by decide +kernel
theorem dX2_innerAt_1 : decode cX2_innerAt 1 = .ok (.ifCond .lt 27, 3) := by decide +kernel
theorem dX2_innerAt_4 : decode cX2_innerAt 4 = .ok (.iload_n 1, 1) := by decide +kernel
theorem dX2_innerAt_5 : decode cX2_innerAt 5 = .ok (.sipush 600, 3) := by decide +kernel
theorem dX2_innerAt_8 : decode cX2_innerAt 8 = .ok (.if_icmp .ge 20, 3) := by decide +kernel
theorem dX2_innerAt_11 : decode cX2_innerAt 11 = .ok (.aload_n 0, 1) := by decide +kernel
theorem dX2_innerAt_12 : decode cX2_innerAt 12 = .ok (.getfield 39, 3) := by decide +kernel
theorem dX2_innerAt_15 : decode cX2_innerAt 15 = .ok (.aload_n 0, 1) := by decide +kernel
theorem dX2_innerAt_16 : decode cX2_innerAt 16 = .ok (.getfield 12, 3) := by decide +kernel
theorem dX2_innerAt_19 : decode cX2_innerAt 19 = .ok (.getfield 104, 3) := by decide +kernel
theorem dX2_innerAt_22 : decode cX2_innerAt 22 = .ok (.iload_n 1, 1) := by decide +kernel
theorem dX2_innerAt_23 : decode cX2_innerAt 23 = .ok (.iaload, 1) := by decide +kernel
theorem dX2_innerAt_24 : decode cX2_innerAt 24 = .ok (.iaload, 1) := by decide +kernel
theorem dX2_innerAt_25 : decode cX2_innerAt 25 = .ok (.goto 4, 3) := by decide +kernel
theorem dX2_innerAt_28 : decode cX2_innerAt 28 = .ok (.iconst (-1), 1) := by decide +kernel
theorem dX2_innerAt_29 : decode cX2_innerAt 29 = .ok (.ireturn, 1) := by decide +kernel
theorem s_g0_6 {p : Program} {l : Launch} {e : Env} {R : Room} {s : State} {m : MethodId} {args : Array Value} {below : List Frame} {meth : Method} {c : Code} {H : Heap} {locs : List Loc} {cells slots : Nat} {Q : State → Prop} {G : GX} {A : Nat → Prop} {ad : Nat → Nat} {u : SS} {cc : ByteArray} {nL pc : Nat} {y : MethodName} {ret : Option FieldType} {ls : Array Slot} {rest : List Value} (F : FX p m c cc nL s args y ret RX2 meth) (hw : WD G A s (sw G ad u) H locs) (hdg : decode cc pc = .ok (.getfield 39, 3)) (kk : W p l e R s m args below meth c H locs cells slots Q (F0 m (pc + 3) ls (.ref (ad 13) :: rest))) : W p l e R s m args below meth c H locs cells slots Q (F0 m pc ls (.ref (ad 0) :: rest)) := va_get (D := G.1) (ci := 2) (C := RX2) (T := TX2) (N := 8) (Ts := lw_gt) F.1.1 F.1.2.1 (fun _ h => F.tb h) inX2 F.1.2.2.2.1 hw.1.1 hw.2.1 0 rfl rfl 6 (by decide) (F.tb (tw 79 (by decide +kernel) rfl)) (fun _ h9 => h9) rfl hdg kk
theorem s_l13 {i : Int32} {p : Program} {l : Launch} {e : Env} {R : Room} {s : State} {m : MethodId} {args : Array Value} {below : List Frame} {meth : Method} {c : Code} {H : Heap} {locs : List Loc} {cells slots : Nat} {Q : State → Prop} {G : GX} {A : Nat → Prop} {ad : Nat → Nat} {u : SS} {cc : ByteArray} {nL pc : Nat} {y : MethodName} {ret : Option FieldType} {ls : Array Slot} {rest : List Value} (F : FX p m c cc nL s args y ret RX2 meth) (hw : WD G A s (sw G ad u) H locs) (hi : ix i 600 = true) (hdg : decode cc pc = .ok (.iaload, 1)) (kk : W p l e R s m args below meth c H locs cells slots Q (F0 m (pc + 1) ls (.int ((u.2.2.1 6) i.toNatClampNeg) :: rest))) : W p l e R s m args below meth c H locs cells slots Q (F0 m pc ls (.int i :: .ref (ad 13) :: rest)) := va_iald F.1.1 F.1.2.1 hw.1.1 hw.2.1 13 0 rfl rfl (ix_in hi) hdg kk
def rmX2_innerAt : Room := { frames := 0, cells := 0, slots := 0, locals := 0 }
noncomputable def f_X2_innerAt (x1 : Int32) (u : SS) : Option (Int32) := (if x1 < 0 then some (-1) else (if (600 : Int32) ≤ x1 then some (-1) else (if ix x1 600 = true then (if ix ((u.1 1) (Int32.toNatClampNeg x1)) 600 = true then some ((u.2.2.1 6) (Int32.toNatClampNeg ((u.1 1) (Int32.toNatClampNeg x1)))) else none) else none)))
section
variable {p : Program} {l : Launch} {e : Env} {s : State} {m : MethodId} {args : Array Value} {below : List Frame} {meth : Method} {c : Code}
variable {G : GX} {A : Nat → Prop} {ad : Nat → Nat} 
set_option maxHeartbeats 4000000 in
set_option maxRecDepth 100000 in
theorem w_X2_innerAt_0 (F : FX p m c cX2_innerAt 2 s args yX2_innerAt (some .int) RX2 meth) {z : Int32} : ∀ (x1 : Int32) (u : SS) (ls : Array Slot), WD G A s (sw G ad u) s.heap [] → lv_has ls 2 [(0, .ref (ad 0)), (1, .int x1)] → f_X2_innerAt x1 u = some z → W p l e rmX2_innerAt s m args below meth c s.heap [] 0 0 (MQ below (QO (some (.int z))) args s 0 0 (fun _ => False)) (F0 m 0 ls []) := by
  obtain ⟨⟨hx, hb, hml, hown, hts⟩, hr, hlocks⟩ := id F
  intro x1 u ls hw hl h
  unfold f_X2_innerAt at h
  refine lv_iload_n hx hb dX2_innerAt_0 rfl (lv_at hl 1 rfl) ?_
  refine lv_if_lt (tgt := 28) hx hb dX2_innerAt_1 rfl (fun c1 => ?_) (fun c1 => ?_)
  · replace h := itT h c1
    refine lv_iconst (v := (-1)) hx hb dX2_innerAt_28 rfl ?_
    cases h
    exact retO_i F dX2_innerAt_29
  · replace h := itF h c1
    refine lv_iload_n hx hb dX2_innerAt_4 rfl (lv_at hl 1 rfl) ?_
    refine lv_sipush (v := 600) hx hb dX2_innerAt_5 rfl ?_
    refine lv_icmp_ge (tgt := 28) hx hb dX2_innerAt_8 rfl (fun c2 => ?_) (fun c2 => ?_)
    · replace h := itT h c2
      refine lv_iconst (v := (-1)) hx hb dX2_innerAt_28 rfl ?_
      cases h
      exact retO_i F dX2_innerAt_29
    · replace h := itF h c2
      refine lv_aload_n hx hb dX2_innerAt_11 rfl (lv_at hl 0 rfl) ?_
      refine s_g0_6 F hw dX2_innerAt_12 ?_
      refine lv_aload_n hx hb dX2_innerAt_15 rfl (lv_at hl 0 rfl) ?_
      refine s_g0_0 F hw dX2_innerAt_16 ?_
      refine s_g1_0 F hw dX2_innerAt_19 ?_
      refine lv_iload_n hx hb dX2_innerAt_22 rfl (lv_at hl 1 rfl) ?_
      obtain ⟨g3, h⟩ := gd h
      refine s_l2 F hw g3 dX2_innerAt_23 ?_
      obtain ⟨g4, h⟩ := gd h
      refine s_l13 F hw g4 dX2_innerAt_24 ?_
      refine lv_goto (tgt := 29) hx hb dX2_innerAt_25 rfl ?_
      cases h
      exact retO_i F dX2_innerAt_29
end
theorem c_X2_innerAt {l : Launch} {G : GX} {ad : Nat → Nat} {x1 : Int32} {u : SS} {z : Int32} (h : f_X2_innerAt x1 u = some z) : MO l yX2_innerAt cX2_innerAt 2 (some .int) rmX2_innerAt G (sw G ad u) [.ref (ad 0), .int x1] (some (.int z)) := MO.of (by decide) (Nat.le_of_ble_eq_true rfl) (fun p e s m below meth c ls F hw hl => w_X2_innerAt_0 F _ _ _ hw hl h)
/-! ===== X2_setInner ===== -/
theorem dX2_setInner_0 : decode cX2_setInner 0 = .ok (.iload_n 1, 1) := by decide +kernel
theorem dX2_setInner_1 : decode cX2_setInner 1 = .ok (.ifCond .lt 25, 3) := by decide +kernel
theorem dX2_setInner_4 : decode cX2_setInner 4 = .ok (.iload_n 1, 1) := by decide +kernel
theorem dX2_setInner_5 : decode cX2_setInner 5 = .ok (.sipush 600, 3) := by decide +kernel
theorem dX2_setInner_8 : decode cX2_setInner 8 = .ok (.if_icmp .ge 18, 3) := by decide +kernel
theorem dX2_setInner_11 : decode cX2_setInner 11 = .ok (.aload_n 0, 1) := by decide +kernel
theorem dX2_setInner_12 : decode cX2_setInner 12 = .ok (.getfield 39, 3) := by decide +kernel
theorem dX2_setInner_15 : decode cX2_setInner 15 = .ok (.aload_n 0, 1) := by decide +kernel
theorem dX2_setInner_16 : decode cX2_setInner 16 = .ok (.getfield 12, 3) := by decide +kernel
theorem dX2_setInner_19 : decode cX2_setInner 19 = .ok (.getfield 104, 3) := by decide +kernel
theorem dX2_setInner_22 : decode cX2_setInner 22 = .ok (.iload_n 1, 1) := by decide +kernel
theorem dX2_setInner_23 : decode cX2_setInner 23 = .ok (.iaload, 1) := by decide +kernel
theorem dX2_setInner_24 : decode cX2_setInner 24 = .ok (.iload_n 2, 1) := by decide +kernel
theorem dX2_setInner_25 : decode cX2_setInner 25 = .ok (.iastore, 1) := by decide +kernel
theorem dX2_setInner_26 : decode cX2_setInner 26 = .ok (.return_, 1) := by decide +kernel
theorem s_s13 {i : Int32} {x : Int32} {p : Program} {l : Launch} {e : Env} {R : Room} {s : State} {m : MethodId} {args : Array Value} {below : List Frame} {meth : Method} {c : Code} {H : Heap} {locs : List Loc} {cells slots : Nat} {Q : State → Prop} {G : GX} {A : Nat → Prop} {ad : Nat → Nat} {u : SS} {cc : ByteArray} {nL pc : Nat} {y : MethodName} {ret : Option FieldType} {ls : Array Slot} {rest : List Value} (F : FX p m c cc nL s args y ret RX2 meth) (hw : WD G A s (sw G ad u) H locs) (hi : ix i 600 = true) (hdg : decode cc pc = .ok (.iastore, 1)) (kk : ∀ (H : Heap) (locs : List Loc), WD G A s (sw G ad (sA u 6 i.toNatClampNeg x)) H locs → W p l e R s m args below meth c H locs cells slots Q (F0 m (pc + 1) ls (rest))) : W p l e R s m args below meth c H locs cells slots Q (F0 m pc ls (.int x :: .int i :: .ref (ad 13) :: rest)) := va_iast F.1.1 F.1.2.1 hw.1.1 hw.2.1 hw.2.2.1 hw.2.2.2 13 0 rfl rfl (ix_in hi) hdg (fun H1 l1 hP hD hS => kk H1 l1 ⟨hw.1, hP, hD, hS⟩)
def rmX2_setInner : Room := { frames := 0, cells := 0, slots := 0, locals := 0 }
noncomputable def f_X2_setInner (x1 : Int32) (x2 : Int32) (u : SS) : Option (SS) := (if x1 < 0 then some u else (if (600 : Int32) ≤ x1 then some u else (if ix x1 600 = true then (if ix ((u.1 1) (Int32.toNatClampNeg x1)) 600 = true then some (sA u 6 (Int32.toNatClampNeg ((u.1 1) (Int32.toNatClampNeg x1))) x2) else none) else none)))
section
variable {p : Program} {l : Launch} {e : Env} {s : State} {m : MethodId} {args : Array Value} {below : List Frame} {meth : Method} {c : Code}
variable {G : GX} {A : Nat → Prop} {ad : Nat → Nat} 
set_option maxHeartbeats 4000000 in
set_option maxRecDepth 100000 in
theorem w_X2_setInner_0 (F : FX p m c cX2_setInner 3 s args yX2_setInner none RX2 meth) {z : SS} : ∀ (x1 : Int32) (x2 : Int32) (u : SS) (H : Heap) (locs : List Loc) (ls : Array Slot), WD G A s (sw G ad u) H locs → lv_has ls 3 [(0, .ref (ad 0)), (1, .int x1), (2, .int x2)] → f_X2_setInner x1 x2 u = some z → W p l e rmX2_setInner s m args below meth c H locs 0 0 (MQ below (QW G (sw G ad z) A none) args s 0 0 A) (F0 m 0 ls []) := by
  obtain ⟨⟨hx, hb, hml, hown, hts⟩, hr, hlocks⟩ := id F
  intro x1 x2 u H locs ls hw hl h
  unfold f_X2_setInner at h
  refine lv_iload_n hx hb dX2_setInner_0 rfl (lv_at hl 1 rfl) ?_
  refine lv_if_lt (tgt := 26) hx hb dX2_setInner_1 rfl (fun c1 => ?_) (fun c1 => ?_)
  · replace h := itT h c1
    cases h
    exact retW_v F hw dX2_setInner_26
  · replace h := itF h c1
    refine lv_iload_n hx hb dX2_setInner_4 rfl (lv_at hl 1 rfl) ?_
    refine lv_sipush (v := 600) hx hb dX2_setInner_5 rfl ?_
    refine lv_icmp_ge (tgt := 26) hx hb dX2_setInner_8 rfl (fun c2 => ?_) (fun c2 => ?_)
    · replace h := itT h c2
      cases h
      exact retW_v F hw dX2_setInner_26
    · replace h := itF h c2
      refine lv_aload_n hx hb dX2_setInner_11 rfl (lv_at hl 0 rfl) ?_
      refine s_g0_6 F hw dX2_setInner_12 ?_
      refine lv_aload_n hx hb dX2_setInner_15 rfl (lv_at hl 0 rfl) ?_
      refine s_g0_0 F hw dX2_setInner_16 ?_
      refine s_g1_0 F hw dX2_setInner_19 ?_
      refine lv_iload_n hx hb dX2_setInner_22 rfl (lv_at hl 1 rfl) ?_
      obtain ⟨g3, h⟩ := gd h
      refine s_l2 F hw g3 dX2_setInner_23 ?_
      refine lv_iload_n hx hb dX2_setInner_24 rfl (lv_at hl 2 rfl) ?_
      obtain ⟨g4, h⟩ := gd h
      refine s_s13 F hw g4 dX2_setInner_25 (fun H locs hw => ?_)
      cases h
      exact retW_v F hw dX2_setInner_26
end
theorem c_X2_setInner {l : Launch} {G : GX} {ad : Nat → Nat} {x1 : Int32} {x2 : Int32} {u : SS} {z : SS} (h : f_X2_setInner x1 x2 u = some z) : MW l yX2_setInner cX2_setInner 3 none rmX2_setInner G (sw G ad u) (sw G ad z) [.ref (ad 0), .int x1, .int x2] none := MW.of (by decide) (Nat.le_of_ble_eq_true rfl) (fun p e s m below meth c ls F hw hl => w_X2_setInner_0 F _ _ _ _ _ _ hw hl h)
/-! ===== X2_inOneRow ===== -/
theorem dX2_inOneRow_0 : decode cX2_inOneRow 0 = .ok (.aload_n 0, 1) := by decide +kernel
theorem dX2_inOneRow_1 : decode cX2_inOneRow 1 = .ok (.getfield 12, 3) := by decide +kernel
theorem dX2_inOneRow_4 : decode cX2_inOneRow 4 = .ok (.iload_n 1, 1) := by decide +kernel
theorem dX2_inOneRow_5 : decode cX2_inOneRow 5 = .ok (.invokevirtual 101, 3) := by decide +kernel
theorem dX2_inOneRow_8 : decode cX2_inOneRow 8 = .ok (.aload_n 0, 1) := by decide +kernel
theorem dX2_inOneRow_9 : decode cX2_inOneRow 9 = .ok (.getfield 12, 3) := by decide +kernel
theorem dX2_inOneRow_12 : decode cX2_inOneRow 12 = .ok (.iload_n 2, 1) := by decide +kernel
theorem dX2_inOneRow_13 : decode cX2_inOneRow 13 = .ok (.invokevirtual 101, 3) := by decide +kernel
theorem dX2_inOneRow_16 : decode cX2_inOneRow 16 = .ok (.if_icmp .ne 7, 3) := by decide +kernel
theorem dX2_inOneRow_19 : decode cX2_inOneRow 19 = .ok (.iconst 1, 1) := by decide +kernel
theorem dX2_inOneRow_20 : decode cX2_inOneRow 20 = .ok (.goto 4, 3) := by decide +kernel
theorem dX2_inOneRow_23 : decode cX2_inOneRow 23 = .ok (.iconst 0, 1) := by decide +kernel
theorem dX2_inOneRow_24 : decode cX2_inOneRow 24 = .ok (.ireturn, 1) := by decide +kernel
def rmX2_inOneRow : Room := { frames := 1, cells := 0, slots := 0, locals := 21 }
noncomputable def f_X2_inOneRow (x1 : Int32) (x2 : Int32) (u : SS) : Option (Int32) := (f_X1_rowOfThing x1 u.1).bind (fun z1 => (f_X1_rowOfThing x2 u.1).bind (fun z3 => (if z1 = z3 then some 1 else some 0)))
section
variable {p : Program} {l : Launch} {e : Env} {s : State} {m : MethodId} {args : Array Value} {below : List Frame} {meth : Method} {c : Code}
variable {G : GX} {A : Nat → Prop} {ad : Nat → Nat} 
set_option maxHeartbeats 4000000 in
set_option maxRecDepth 100000 in
theorem w_X2_inOneRow_0 (F : FX p m c cX2_inOneRow 3 s args yX2_inOneRow (some .boolean) RX2 meth) {z : Int32} : ∀ (x1 : Int32) (x2 : Int32) (u : SS) (ls : Array Slot), WD G A s (sw G ad u) s.heap [] → lv_has ls 3 [(0, .ref (ad 0)), (1, .int x1), (2, .int x2)] → f_X2_inOneRow x1 x2 u = some z → W p l e rmX2_inOneRow s m args below meth c s.heap [] 0 0 (MQ below (QO (some (.int z))) args s 0 0 (fun _ => False)) (F0 m 0 ls []) := by
  obtain ⟨⟨hx, hb, hml, hown, hts⟩, hr, hlocks⟩ := id F
  intro x1 x2 u ls hw hl h
  unfold f_X2_inOneRow at h
  refine lv_aload_n hx hb dX2_inOneRow_0 rfl (lv_at hl 0 rfl) ?_
  refine s_g0_0 F hw dX2_inOneRow_1 ?_
  refine lv_iload_n hx hb dX2_inOneRow_4 rfl (lv_at hl 1 rfl) ?_
  obtain ⟨z1, e2, h⟩ := bnd h
  refine k_X1_rowOfThing_s_ F hw e2 ⟨Nat.le_of_ble_eq_true rfl, Nat.le_of_ble_eq_true rfl⟩ ⟨Nat.zero_le _, Nat.zero_le _⟩ hl.1 (Nat.le_of_ble_eq_true rfl) dX2_inOneRow_5 ?_
  refine lv_aload_n hx hb dX2_inOneRow_8 rfl (lv_at hl 0 rfl) ?_
  refine s_g0_0 F hw dX2_inOneRow_9 ?_
  refine lv_iload_n hx hb dX2_inOneRow_12 rfl (lv_at hl 2 rfl) ?_
  obtain ⟨z3, e4, h⟩ := bnd h
  refine k_X1_rowOfThing_s_ F hw e4 ⟨Nat.le_of_ble_eq_true rfl, Nat.le_of_ble_eq_true rfl⟩ ⟨Nat.zero_le _, Nat.zero_le _⟩ hl.1 (Nat.le_of_ble_eq_true rfl) dX2_inOneRow_13 ?_
  refine lv_icmp_ne (tgt := 23) hx hb dX2_inOneRow_16 rfl (fun c5 => ?_) (fun c5 => ?_)
  · replace h := itF h c5
    refine lv_iconst (v := 0) hx hb dX2_inOneRow_23 rfl ?_
    cases h
    exact retO_z F narrow_b0 dX2_inOneRow_24
  · replace h := itT h c5
    refine lv_iconst (v := 1) hx hb dX2_inOneRow_19 rfl ?_
    refine lv_goto (tgt := 24) hx hb dX2_inOneRow_20 rfl ?_
    cases h
    exact retO_z F narrow_b1 dX2_inOneRow_24
end
theorem c_X2_inOneRow {l : Launch} {G : GX} {ad : Nat → Nat} {x1 : Int32} {x2 : Int32} {u : SS} {z : Int32} (h : f_X2_inOneRow x1 x2 u = some z) : MO l yX2_inOneRow cX2_inOneRow 3 (some .boolean) rmX2_inOneRow G (sw G ad u) [.ref (ad 0), .int x1, .int x2] (some (.int z)) := MO.of (by decide) (Nat.le_of_ble_eq_true rfl) (fun p e s m below meth c ls F hw hl => w_X2_inOneRow_0 F _ _ _ _ hw hl h)
/-! ===== X2_isAhead ===== -/
theorem dX2_isAhead_0 : decode cX2_isAhead 0 = .ok (.aload_n 0, 1) := by decide +kernel
theorem dX2_isAhead_1 : decode cX2_isAhead 1 = .ok (.getfield 35, 3) := by decide +kernel
theorem dX2_isAhead_4 : decode cX2_isAhead 4 = .ok (.iload_n 1, 1) := by decide +kernel
theorem dX2_isAhead_5 : decode cX2_isAhead 5 = .ok (.laload, 1) := by decide +kernel
theorem dX2_isAhead_6 : decode cX2_isAhead 6 = .ok (.aload_n 0, 1) := by decide +kernel
theorem dX2_isAhead_7 : decode cX2_isAhead 7 = .ok (.getfield 35, 3) := by decide +kernel
theorem dX2_isAhead_10 : decode cX2_isAhead 10 = .ok (.iload_n 2, 1) := by decide +kernel
theorem dX2_isAhead_11 : decode cX2_isAhead 11 = .ok (.laload, 1) := by decide +kernel
theorem dX2_isAhead_12 : decode cX2_isAhead 12 = .ok (.lcmp, 1) := by decide +kernel
theorem dX2_isAhead_13 : decode cX2_isAhead 13 = .ok (.ifCond .eq 25, 3) := by decide +kernel
theorem dX2_isAhead_16 : decode cX2_isAhead 16 = .ok (.aload_n 0, 1) := by decide +kernel
theorem dX2_isAhead_17 : decode cX2_isAhead 17 = .ok (.getfield 35, 3) := by decide +kernel
theorem dX2_isAhead_20 : decode cX2_isAhead 20 = .ok (.iload_n 1, 1) := by decide +kernel
theorem dX2_isAhead_21 : decode cX2_isAhead 21 = .ok (.laload, 1) := by decide +kernel
theorem dX2_isAhead_22 : decode cX2_isAhead 22 = .ok (.aload_n 0, 1) := by decide +kernel
theorem dX2_isAhead_23 : decode cX2_isAhead 23 = .ok (.getfield 35, 3) := by decide +kernel
theorem dX2_isAhead_26 : decode cX2_isAhead 26 = .ok (.iload_n 2, 1) := by decide +kernel
theorem dX2_isAhead_27 : decode cX2_isAhead 27 = .ok (.laload, 1) := by decide +kernel
theorem dX2_isAhead_28 : decode cX2_isAhead 28 = .ok (.lcmp, 1) := by decide +kernel
theorem dX2_isAhead_29 : decode cX2_isAhead 29 = .ok (.ifCond .ge 7, 3) := by decide +kernel
theorem dX2_isAhead_32 : decode cX2_isAhead 32 = .ok (.iconst 1, 1) := by decide +kernel
theorem dX2_isAhead_33 : decode cX2_isAhead 33 = .ok (.goto 4, 3) := by decide +kernel
theorem dX2_isAhead_36 : decode cX2_isAhead 36 = .ok (.iconst 0, 1) := by decide +kernel
theorem dX2_isAhead_37 : decode cX2_isAhead 37 = .ok (.ireturn, 1) := by decide +kernel
theorem dX2_isAhead_38 : decode cX2_isAhead 38 = .ok (.aload_n 0, 1) := by decide +kernel
theorem dX2_isAhead_39 : decode cX2_isAhead 39 = .ok (.getfield 39, 3) := by decide +kernel
theorem dX2_isAhead_42 : decode cX2_isAhead 42 = .ok (.iload_n 1, 1) := by decide +kernel
theorem dX2_isAhead_43 : decode cX2_isAhead 43 = .ok (.iaload, 1) := by decide +kernel
theorem dX2_isAhead_44 : decode cX2_isAhead 44 = .ok (.aload_n 0, 1) := by decide +kernel
theorem dX2_isAhead_45 : decode cX2_isAhead 45 = .ok (.getfield 39, 3) := by decide +kernel
theorem dX2_isAhead_48 : decode cX2_isAhead 48 = .ok (.iload_n 2, 1) := by decide +kernel
theorem dX2_isAhead_49 : decode cX2_isAhead 49 = .ok (.iaload, 1) := by decide +kernel
theorem dX2_isAhead_50 : decode cX2_isAhead 50 = .ok (.if_icmp .ge 7, 3) := by decide +kernel
theorem dX2_isAhead_53 : decode cX2_isAhead 53 = .ok (.iconst 1, 1) := by decide +kernel
theorem dX2_isAhead_54 : decode cX2_isAhead 54 = .ok (.goto 4, 3) := by decide +kernel
theorem dX2_isAhead_57 : decode cX2_isAhead 57 = .ok (.iconst 0, 1) := by decide +kernel
theorem dX2_isAhead_58 : decode cX2_isAhead 58 = .ok (.ireturn, 1) := by decide +kernel
def rmX2_isAhead : Room := { frames := 0, cells := 0, slots := 0, locals := 0 }
noncomputable def f_X2_isAhead (x1 : Int32) (x2 : Int32) (u : SS) : Option (Int32) := (if ix x1 600 = true then (if ix x2 600 = true then (if (lg_cmp (u.2.2.2.1 (Int32.toNatClampNeg x1)) (u.2.2.2.1 (Int32.toNatClampNeg x2))) = 0 then (if ix x1 600 = true then (if ix x2 600 = true then (if ((u.2.2.1 6) (Int32.toNatClampNeg x2)) ≤ ((u.2.2.1 6) (Int32.toNatClampNeg x1)) then some 0 else some 1) else none) else none) else (if ix x1 600 = true then (if ix x2 600 = true then (if 0 ≤ (lg_cmp (u.2.2.2.1 (Int32.toNatClampNeg x1)) (u.2.2.2.1 (Int32.toNatClampNeg x2))) then some 0 else some 1) else none) else none)) else none) else none)
section
variable {p : Program} {l : Launch} {e : Env} {s : State} {m : MethodId} {args : Array Value} {below : List Frame} {meth : Method} {c : Code}
variable {G : GX} {A : Nat → Prop} {ad : Nat → Nat} 
set_option maxHeartbeats 4000000 in
set_option maxRecDepth 100000 in
theorem w_X2_isAhead_0 (F : FX p m c cX2_isAhead 3 s args yX2_isAhead (some .boolean) RX2 meth) {z : Int32} : ∀ (x1 : Int32) (x2 : Int32) (u : SS) (ls : Array Slot), WD G A s (sw G ad u) s.heap [] → lv_has ls 3 [(0, .ref (ad 0)), (1, .int x1), (2, .int x2)] → f_X2_isAhead x1 x2 u = some z → W p l e rmX2_isAhead s m args below meth c s.heap [] 0 0 (MQ below (QO (some (.int z))) args s 0 0 (fun _ => False)) (F0 m 0 ls []) := by
  obtain ⟨⟨hx, hb, hml, hown, hts⟩, hr, hlocks⟩ := id F
  intro x1 x2 u ls hw hl h
  unfold f_X2_isAhead at h
  refine lv_aload_n hx hb dX2_isAhead_0 rfl (lv_at hl 0 rfl) ?_
  refine s_g0_5 F hw dX2_isAhead_1 ?_
  refine lv_iload_n hx hb dX2_isAhead_4 rfl (lv_at hl 1 rfl) ?_
  obtain ⟨g1, h⟩ := gd h
  refine s_l12 F hw g1 dX2_isAhead_5 ?_
  refine lv_aload_n hx hb dX2_isAhead_6 rfl (lv_at hl 0 rfl) ?_
  refine s_g0_5 F hw dX2_isAhead_7 ?_
  refine lv_iload_n hx hb dX2_isAhead_10 rfl (lv_at hl 2 rfl) ?_
  obtain ⟨g2, h⟩ := gd h
  refine s_l12 F hw g2 dX2_isAhead_11 ?_
  refine W.lcmp hx hb dX2_isAhead_12 ?_
  refine lv_if_eq (tgt := 38) hx hb dX2_isAhead_13 rfl (fun c3 => ?_) (fun c3 => ?_)
  · replace h := itT h c3
    refine lv_aload_n hx hb dX2_isAhead_38 rfl (lv_at hl 0 rfl) ?_
    refine s_g0_6 F hw dX2_isAhead_39 ?_
    refine lv_iload_n hx hb dX2_isAhead_42 rfl (lv_at hl 1 rfl) ?_
    obtain ⟨g4, h⟩ := gd h
    refine s_l13 F hw g4 dX2_isAhead_43 ?_
    refine lv_aload_n hx hb dX2_isAhead_44 rfl (lv_at hl 0 rfl) ?_
    refine s_g0_6 F hw dX2_isAhead_45 ?_
    refine lv_iload_n hx hb dX2_isAhead_48 rfl (lv_at hl 2 rfl) ?_
    obtain ⟨g5, h⟩ := gd h
    refine s_l13 F hw g5 dX2_isAhead_49 ?_
    refine lv_icmp_ge (tgt := 57) hx hb dX2_isAhead_50 rfl (fun c6 => ?_) (fun c6 => ?_)
    · replace h := itT h c6
      refine lv_iconst (v := 0) hx hb dX2_isAhead_57 rfl ?_
      cases h
      exact retO_z F narrow_b0 dX2_isAhead_58
    · replace h := itF h c6
      refine lv_iconst (v := 1) hx hb dX2_isAhead_53 rfl ?_
      refine lv_goto (tgt := 58) hx hb dX2_isAhead_54 rfl ?_
      cases h
      exact retO_z F narrow_b1 dX2_isAhead_58
  · replace h := itF h c3
    refine lv_aload_n hx hb dX2_isAhead_16 rfl (lv_at hl 0 rfl) ?_
    refine s_g0_5 F hw dX2_isAhead_17 ?_
    refine lv_iload_n hx hb dX2_isAhead_20 rfl (lv_at hl 1 rfl) ?_
    obtain ⟨g7, h⟩ := gd h
    refine s_l12 F hw g7 dX2_isAhead_21 ?_
    refine lv_aload_n hx hb dX2_isAhead_22 rfl (lv_at hl 0 rfl) ?_
    refine s_g0_5 F hw dX2_isAhead_23 ?_
    refine lv_iload_n hx hb dX2_isAhead_26 rfl (lv_at hl 2 rfl) ?_
    obtain ⟨g8, h⟩ := gd h
    refine s_l12 F hw g8 dX2_isAhead_27 ?_
    refine W.lcmp hx hb dX2_isAhead_28 ?_
    refine lv_if_ge (tgt := 36) hx hb dX2_isAhead_29 rfl (fun c9 => ?_) (fun c9 => ?_)
    · replace h := itT h c9
      refine lv_iconst (v := 0) hx hb dX2_isAhead_36 rfl ?_
      cases h
      exact retO_z F narrow_b0 dX2_isAhead_37
    · replace h := itF h c9
      refine lv_iconst (v := 1) hx hb dX2_isAhead_32 rfl ?_
      refine lv_goto (tgt := 37) hx hb dX2_isAhead_33 rfl ?_
      cases h
      exact retO_z F narrow_b1 dX2_isAhead_37
end
theorem c_X2_isAhead {l : Launch} {G : GX} {ad : Nat → Nat} {x1 : Int32} {x2 : Int32} {u : SS} {z : Int32} (h : f_X2_isAhead x1 x2 u = some z) : MO l yX2_isAhead cX2_isAhead 3 (some .boolean) rmX2_isAhead G (sw G ad u) [.ref (ad 0), .int x1, .int x2] (some (.int z)) := MO.of (by decide) (Nat.le_of_ble_eq_true rfl) (fun p e s m below meth c ls F hw hl => w_X2_isAhead_0 F _ _ _ _ hw hl h)
/-! ===== X2_encloses ===== -/
theorem dX2_encloses_0 : decode cX2_encloses 0 = .ok (.aload_n 0, 1) := by decide +kernel
theorem dX2_encloses_1 : decode cX2_encloses 1 = .ok (.iload_n 1, 1) := by decide +kernel
theorem dX2_encloses_2 : decode cX2_encloses 2 = .ok (.iload_n 2, 1) := by decide +kernel
theorem dX2_encloses_3 : decode cX2_encloses 3 = .ok (.invokevirtual 107, 3) := by decide +kernel
theorem dX2_encloses_6 : decode cX2_encloses 6 = .ok (.ifCond .eq 11, 3) := by decide +kernel
theorem dX2_encloses_9 : decode cX2_encloses 9 = .ok (.aload_n 0, 1) := by decide +kernel
theorem dX2_encloses_10 : decode cX2_encloses 10 = .ok (.iload_n 1, 1) := by decide +kernel
theorem dX2_encloses_11 : decode cX2_encloses 11 = .ok (.invokevirtual 94, 3) := by decide +kernel
theorem dX2_encloses_14 : decode cX2_encloses 14 = .ok (.ifCond .ne 5, 3) := by decide +kernel
theorem dX2_encloses_17 : decode cX2_encloses 17 = .ok (.iconst 0, 1) := by decide +kernel
theorem dX2_encloses_18 : decode cX2_encloses 18 = .ok (.ireturn, 1) := by decide +kernel
theorem dX2_encloses_19 : decode cX2_encloses 19 = .ok (.aload_n 0, 1) := by decide +kernel
theorem dX2_encloses_20 : decode cX2_encloses 20 = .ok (.iconst 2, 1) := by decide +kernel
theorem dX2_encloses_21 : decode cX2_encloses 21 = .ok (.iload_n 1, 1) := by decide +kernel
theorem dX2_encloses_22 : decode cX2_encloses 22 = .ok (.imul, 1) := by decide +kernel
theorem dX2_encloses_23 : decode cX2_encloses 23 = .ok (.iconst 2, 1) := by decide +kernel
theorem dX2_encloses_24 : decode cX2_encloses 24 = .ok (.iload_n 2, 1) := by decide +kernel
theorem dX2_encloses_25 : decode cX2_encloses 25 = .ok (.imul, 1) := by decide +kernel
theorem dX2_encloses_26 : decode cX2_encloses 26 = .ok (.invokevirtual 111, 3) := by decide +kernel
theorem dX2_encloses_29 : decode cX2_encloses 29 = .ok (.ifCond .eq 22, 3) := by decide +kernel
theorem dX2_encloses_32 : decode cX2_encloses 32 = .ok (.aload_n 0, 1) := by decide +kernel
theorem dX2_encloses_33 : decode cX2_encloses 33 = .ok (.iconst 2, 1) := by decide +kernel
theorem dX2_encloses_34 : decode cX2_encloses 34 = .ok (.iload_n 2, 1) := by decide +kernel
theorem dX2_encloses_35 : decode cX2_encloses 35 = .ok (.imul, 1) := by decide +kernel
theorem dX2_encloses_36 : decode cX2_encloses 36 = .ok (.iconst 2, 1) := by decide +kernel
theorem dX2_encloses_37 : decode cX2_encloses 37 = .ok (.iload_n 1, 1) := by decide +kernel
theorem dX2_encloses_38 : decode cX2_encloses 38 = .ok (.imul, 1) := by decide +kernel
theorem dX2_encloses_39 : decode cX2_encloses 39 = .ok (.iconst 1, 1) := by decide +kernel
theorem dX2_encloses_40 : decode cX2_encloses 40 = .ok (.iadd, 1) := by decide +kernel
theorem dX2_encloses_41 : decode cX2_encloses 41 = .ok (.invokevirtual 111, 3) := by decide +kernel
theorem dX2_encloses_44 : decode cX2_encloses 44 = .ok (.ifCond .eq 7, 3) := by decide +kernel
theorem dX2_encloses_47 : decode cX2_encloses 47 = .ok (.iconst 1, 1) := by decide +kernel
theorem dX2_encloses_48 : decode cX2_encloses 48 = .ok (.goto 4, 3) := by decide +kernel
theorem dX2_encloses_51 : decode cX2_encloses 51 = .ok (.iconst 0, 1) := by decide +kernel
theorem dX2_encloses_52 : decode cX2_encloses 52 = .ok (.ireturn, 1) := by decide +kernel
theorem yv_X2_inOneRow_X2 : YV RX2 107 yX2_inOneRow cX2_inOneRow 3 (some .boolean) 2 := ⟨(tw 336 (by decide +kernel) rfl), (tw 2 (by decide +kernel) rfl), (tw 333 (by decide +kernel) rfl), (tw 334 (by decide +kernel) rfl), (tw 335 (by decide +kernel) rfl), by decide +kernel⟩
theorem k_X2_inOneRow_s_ {p : Program} {l : Launch} {e : Env} {R : Room} {s : State} {m : MethodId} {args : Array Value} {below : List Frame} {meth : Method} {c : Code} {H : Heap} {locs : List Loc} {cells slots : Nat} {Q : State → Prop} {G : GX} {A : Nat → Prop} {ad : Nat → Nat} {u : SS} {cc : ByteArray} {nL pc : Nat} {y : MethodName} {ret : Option FieldType} {ls : Array Slot} {rest : List Value} {x1 : Int32} {x2 : Int32} {z : Int32} (F : FX p m c cc nL s args y ret RX2 meth) (hw : WD G A s (sw G ad u) H locs) (h : f_X2_inOneRow x1 x2 u = some z) (hR : rmX2_inOneRow.frames + 1 ≤ R.frames ∧ 8 + (3 + 11) + rmX2_inOneRow.locals ≤ R.locals) (hcs : cells ≤ R.cells ∧ slots ≤ R.slots) (hsz : ls.size = nL) (hW : (rest.map fun v => v.category).sum ≤ 8) (hdg : decode cc pc = .ok (.invokevirtual 107, 3)) (kk : W p l e R s m args below meth c H locs cells slots Q (F0 m (pc + 3) ls (.int z :: rest))) : W p l e R s m args below meth c H locs cells slots Q (F0 m pc ls (.int x2 :: .int x1 :: .ref (ad 0) :: rest)) := callO (runV F yv_X2_inOneRow_X2 (c_X2_inOneRow h) hw.1 hw.2.1 hw.2.2.1 rfl rfl rfl ⟨rfl, rfl⟩ hR hcs rfl hsz rfl hW hdg) kk
theorem yv_X2_isAhead_X2 : YV RX2 111 yX2_isAhead cX2_isAhead 3 (some .boolean) 2 := ⟨(tw 340 (by decide +kernel) rfl), (tw 2 (by decide +kernel) rfl), (tw 337 (by decide +kernel) rfl), (tw 338 (by decide +kernel) rfl), (tw 339 (by decide +kernel) rfl), by decide +kernel⟩
theorem k_X2_isAhead_s_ {p : Program} {l : Launch} {e : Env} {R : Room} {s : State} {m : MethodId} {args : Array Value} {below : List Frame} {meth : Method} {c : Code} {H : Heap} {locs : List Loc} {cells slots : Nat} {Q : State → Prop} {G : GX} {A : Nat → Prop} {ad : Nat → Nat} {u : SS} {cc : ByteArray} {nL pc : Nat} {y : MethodName} {ret : Option FieldType} {ls : Array Slot} {rest : List Value} {x1 : Int32} {x2 : Int32} {z : Int32} (F : FX p m c cc nL s args y ret RX2 meth) (hw : WD G A s (sw G ad u) H locs) (h : f_X2_isAhead x1 x2 u = some z) (hR : rmX2_isAhead.frames + 1 ≤ R.frames ∧ 8 + (3 + 11) + rmX2_isAhead.locals ≤ R.locals) (hcs : cells ≤ R.cells ∧ slots ≤ R.slots) (hsz : ls.size = nL) (hW : (rest.map fun v => v.category).sum ≤ 8) (hdg : decode cc pc = .ok (.invokevirtual 111, 3)) (kk : W p l e R s m args below meth c H locs cells slots Q (F0 m (pc + 3) ls (.int z :: rest))) : W p l e R s m args below meth c H locs cells slots Q (F0 m pc ls (.int x2 :: .int x1 :: .ref (ad 0) :: rest)) := callO (runV F yv_X2_isAhead_X2 (c_X2_isAhead h) hw.1 hw.2.1 hw.2.2.1 rfl rfl rfl ⟨rfl, rfl⟩ hR hcs rfl hsz rfl hW hdg) kk
def rmX2_encloses : Room := { frames := 2, cells := 0, slots := 0, locals := 43 }
noncomputable def f_X2_encloses (x1 : Int32) (x2 : Int32) (u : SS) : Option (Int32) := (f_X2_inOneRow x1 x2 u).bind (fun z1 => (if z1 = 0 then some 0 else (f_X2_isNested x1 u).bind (fun z4 => (if z4 = 0 then some 0 else (f_X2_isAhead (2 * x1) (2 * x2) u).bind (fun z7 => (if z7 = 0 then some 0 else (f_X2_isAhead (2 * x2) ((2 * x1) + 1) u).bind (fun z10 => (if z10 = 0 then some 0 else some 1))))))))
section
variable {p : Program} {l : Launch} {e : Env} {s : State} {m : MethodId} {args : Array Value} {below : List Frame} {meth : Method} {c : Code}
variable {G : GX} {A : Nat → Prop} {ad : Nat → Nat} 
set_option maxHeartbeats 4000000 in
set_option maxRecDepth 100000 in
theorem w_X2_encloses_0 (F : FX p m c cX2_encloses 3 s args yX2_encloses (some .boolean) RX2 meth) {z : Int32} : ∀ (x1 : Int32) (x2 : Int32) (u : SS) (ls : Array Slot), WD G A s (sw G ad u) s.heap [] → lv_has ls 3 [(0, .ref (ad 0)), (1, .int x1), (2, .int x2)] → f_X2_encloses x1 x2 u = some z → W p l e rmX2_encloses s m args below meth c s.heap [] 0 0 (MQ below (QO (some (.int z))) args s 0 0 (fun _ => False)) (F0 m 0 ls []) := by
  obtain ⟨⟨hx, hb, hml, hown, hts⟩, hr, hlocks⟩ := id F
  intro x1 x2 u ls hw hl h
  unfold f_X2_encloses at h
  refine lv_aload_n hx hb dX2_encloses_0 rfl (lv_at hl 0 rfl) ?_
  refine lv_iload_n hx hb dX2_encloses_1 rfl (lv_at hl 1 rfl) ?_
  refine lv_iload_n hx hb dX2_encloses_2 rfl (lv_at hl 2 rfl) ?_
  obtain ⟨z1, e2, h⟩ := bnd h
  refine k_X2_inOneRow_s_ F hw e2 ⟨Nat.le_of_ble_eq_true rfl, Nat.le_of_ble_eq_true rfl⟩ ⟨Nat.zero_le _, Nat.zero_le _⟩ hl.1 (Nat.le_of_ble_eq_true rfl) dX2_encloses_3 ?_
  refine lv_if_eq (tgt := 17) hx hb dX2_encloses_6 rfl (fun c3 => ?_) (fun c3 => ?_)
  · replace h := itT h c3
    refine lv_iconst (v := 0) hx hb dX2_encloses_17 rfl ?_
    cases h
    exact retO_z F narrow_b0 dX2_encloses_18
  · replace h := itF h c3
    refine lv_aload_n hx hb dX2_encloses_9 rfl (lv_at hl 0 rfl) ?_
    refine lv_iload_n hx hb dX2_encloses_10 rfl (lv_at hl 1 rfl) ?_
    obtain ⟨z4, e5, h⟩ := bnd h
    refine k_X2_isNested_s_ F hw e5 ⟨Nat.le_of_ble_eq_true rfl, Nat.le_of_ble_eq_true rfl⟩ ⟨Nat.zero_le _, Nat.zero_le _⟩ hl.1 (Nat.le_of_ble_eq_true rfl) dX2_encloses_11 ?_
    refine lv_if_ne (tgt := 19) hx hb dX2_encloses_14 rfl (fun c6 => ?_) (fun c6 => ?_)
    · replace h := itF h c6
      refine lv_aload_n hx hb dX2_encloses_19 rfl (lv_at hl 0 rfl) ?_
      refine lv_iconst (v := 2) hx hb dX2_encloses_20 rfl ?_
      refine lv_iload_n hx hb dX2_encloses_21 rfl (lv_at hl 1 rfl) ?_
      refine lv_imul hx hb dX2_encloses_22 ?_
      refine lv_iconst (v := 2) hx hb dX2_encloses_23 rfl ?_
      refine lv_iload_n hx hb dX2_encloses_24 rfl (lv_at hl 2 rfl) ?_
      refine lv_imul hx hb dX2_encloses_25 ?_
      obtain ⟨z7, e8, h⟩ := bnd h
      refine k_X2_isAhead_s_ F hw e8 ⟨Nat.le_of_ble_eq_true rfl, Nat.le_of_ble_eq_true rfl⟩ ⟨Nat.zero_le _, Nat.zero_le _⟩ hl.1 (Nat.le_of_ble_eq_true rfl) dX2_encloses_26 ?_
      refine lv_if_eq (tgt := 51) hx hb dX2_encloses_29 rfl (fun c9 => ?_) (fun c9 => ?_)
      · replace h := itT h c9
        refine lv_iconst (v := 0) hx hb dX2_encloses_51 rfl ?_
        cases h
        exact retO_z F narrow_b0 dX2_encloses_52
      · replace h := itF h c9
        refine lv_aload_n hx hb dX2_encloses_32 rfl (lv_at hl 0 rfl) ?_
        refine lv_iconst (v := 2) hx hb dX2_encloses_33 rfl ?_
        refine lv_iload_n hx hb dX2_encloses_34 rfl (lv_at hl 2 rfl) ?_
        refine lv_imul hx hb dX2_encloses_35 ?_
        refine lv_iconst (v := 2) hx hb dX2_encloses_36 rfl ?_
        refine lv_iload_n hx hb dX2_encloses_37 rfl (lv_at hl 1 rfl) ?_
        refine lv_imul hx hb dX2_encloses_38 ?_
        refine lv_iconst (v := 1) hx hb dX2_encloses_39 rfl ?_
        refine lv_iadd hx hb dX2_encloses_40 ?_
        obtain ⟨z10, e11, h⟩ := bnd h
        refine k_X2_isAhead_s_ F hw e11 ⟨Nat.le_of_ble_eq_true rfl, Nat.le_of_ble_eq_true rfl⟩ ⟨Nat.zero_le _, Nat.zero_le _⟩ hl.1 (Nat.le_of_ble_eq_true rfl) dX2_encloses_41 ?_
        refine lv_if_eq (tgt := 51) hx hb dX2_encloses_44 rfl (fun c12 => ?_) (fun c12 => ?_)
        · replace h := itT h c12
          refine lv_iconst (v := 0) hx hb dX2_encloses_51 rfl ?_
          cases h
          exact retO_z F narrow_b0 dX2_encloses_52
        · replace h := itF h c12
          refine lv_iconst (v := 1) hx hb dX2_encloses_47 rfl ?_
          refine lv_goto (tgt := 52) hx hb dX2_encloses_48 rfl ?_
          cases h
          exact retO_z F narrow_b1 dX2_encloses_52
    · replace h := itT h c6
      refine lv_iconst (v := 0) hx hb dX2_encloses_17 rfl ?_
      cases h
      exact retO_z F narrow_b0 dX2_encloses_18
end
theorem c_X2_encloses {l : Launch} {G : GX} {ad : Nat → Nat} {x1 : Int32} {x2 : Int32} {u : SS} {z : Int32} (h : f_X2_encloses x1 x2 u = some z) : MO l yX2_encloses cX2_encloses 3 (some .boolean) rmX2_encloses G (sw G ad u) [.ref (ad 0), .int x1, .int x2] (some (.int z)) := MO.of (by decide) (Nat.le_of_ble_eq_true rfl) (fun p e s m below meth c ls F hw hl => w_X2_encloses_0 F _ _ _ _ hw hl h)
/-! ===== X2_innermost ===== -/
theorem dX2_innermost_0 : decode cX2_innermost 0 = .ok (.aload_n 0, 1) := by decide +kernel
theorem dX2_innermost_1 : decode cX2_innermost 1 = .ok (.getfield 12, 3) := by decide +kernel
theorem dX2_innermost_4 : decode cX2_innermost 4 = .ok (.iload_n 1, 1) := by decide +kernel
theorem dX2_innermost_5 : decode cX2_innermost 5 = .ok (.invokevirtual 101, 3) := by decide +kernel
theorem dX2_innermost_8 : decode cX2_innermost 8 = .ok (.istore_n 3, 1) := by decide +kernel
theorem dX2_innermost_9 : decode cX2_innermost 9 = .ok (.aload_n 0, 1) := by decide +kernel
theorem dX2_innermost_10 : decode cX2_innermost 10 = .ok (.iload_n 1, 1) := by decide +kernel
theorem dX2_innermost_11 : decode cX2_innermost 11 = .ok (.invokevirtual 114, 3) := by decide +kernel
theorem dX2_innermost_14 : decode cX2_innermost 14 = .ok (.iconst 1, 1) := by decide +kernel
theorem dX2_innermost_15 : decode cX2_innermost 15 = .ok (.isub, 1) := by decide +kernel
theorem dX2_innermost_16 : decode cX2_innermost 16 = .ok (.istore 4, 2) := by decide +kernel
theorem dX2_innermost_18 : decode cX2_innermost 18 = .ok (.iload 4, 2) := by decide +kernel
theorem dX2_innermost_20 : decode cX2_innermost 20 = .ok (.aload_n 0, 1) := by decide +kernel
theorem dX2_innermost_21 : decode cX2_innermost 21 = .ok (.getfield 12, 3) := by decide +kernel
theorem dX2_innermost_24 : decode cX2_innermost 24 = .ok (.iload_n 3, 1) := by decide +kernel
theorem dX2_innermost_25 : decode cX2_innermost 25 = .ok (.invokevirtual 81, 3) := by decide +kernel
theorem dX2_innermost_28 : decode cX2_innermost 28 = .ok (.if_icmp .lt 46, 3) := by decide +kernel
theorem dX2_innermost_31 : decode cX2_innermost 31 = .ok (.aload_n 0, 1) := by decide +kernel
theorem dX2_innermost_32 : decode cX2_innermost 32 = .ok (.getfield 12, 3) := by decide +kernel
theorem dX2_innermost_35 : decode cX2_innermost 35 = .ok (.iload 4, 2) := by decide +kernel
theorem dX2_innermost_37 : decode cX2_innermost 37 = .ok (.invokevirtual 117, 3) := by decide +kernel
theorem dX2_innermost_40 : decode cX2_innermost 40 = .ok (.invokestatic 120, 3) := by decide +kernel
theorem dX2_innermost_43 : decode cX2_innermost 43 = .ok (.istore 5, 2) := by decide +kernel
theorem dX2_innermost_45 : decode cX2_innermost 45 = .ok (.aload_n 0, 1) := by decide +kernel
theorem dX2_innermost_46 : decode cX2_innermost 46 = .ok (.iload 5, 2) := by decide +kernel
theorem dX2_innermost_48 : decode cX2_innermost 48 = .ok (.iload_n 1, 1) := by decide +kernel
theorem dX2_innermost_49 : decode cX2_innermost 49 = .ok (.invokevirtual 123, 3) := by decide +kernel
theorem dX2_innermost_52 : decode cX2_innermost 52 = .ok (.ifCond .eq 16, 3) := by decide +kernel
theorem dX2_innermost_55 : decode cX2_innermost 55 = .ok (.aload_n 0, 1) := by decide +kernel
theorem dX2_innermost_56 : decode cX2_innermost 56 = .ok (.iload 5, 2) := by decide +kernel
theorem dX2_innermost_58 : decode cX2_innermost 58 = .ok (.iload_n 2, 1) := by decide +kernel
theorem dX2_innermost_59 : decode cX2_innermost 59 = .ok (.invokevirtual 123, 3) := by decide +kernel
theorem dX2_innermost_62 : decode cX2_innermost 62 = .ok (.ifCond .eq 6, 3) := by decide +kernel
theorem dX2_innermost_65 : decode cX2_innermost 65 = .ok (.iload 5, 2) := by decide +kernel
theorem dX2_innermost_67 : decode cX2_innermost 67 = .ok (.ireturn, 1) := by decide +kernel
theorem dX2_innermost_68 : decode cX2_innermost 68 = .ok (.iinc 4 (-1), 3) := by decide +kernel
theorem dX2_innermost_71 : decode cX2_innermost 71 = .ok (.goto (-53), 3) := by decide +kernel
theorem dX2_innermost_74 : decode cX2_innermost 74 = .ok (.iconst (-1), 1) := by decide +kernel
theorem dX2_innermost_75 : decode cX2_innermost 75 = .ok (.ireturn, 1) := by decide +kernel
theorem yv_X2_firstPlace_X2 : YV RX2 114 yX2_firstPlace cX2_firstPlace 2 (some .int) 1 := ⟨(tw 303 (by decide +kernel) rfl), (tw 2 (by decide +kernel) rfl), (tw 365 (by decide +kernel) rfl), (tw 301 (by decide +kernel) rfl), (tw 302 (by decide +kernel) rfl), by decide +kernel⟩
theorem k_X2_firstPlace_s_ {p : Program} {l : Launch} {e : Env} {R : Room} {s : State} {m : MethodId} {args : Array Value} {below : List Frame} {meth : Method} {c : Code} {H : Heap} {locs : List Loc} {cells slots : Nat} {Q : State → Prop} {G : GX} {A : Nat → Prop} {ad : Nat → Nat} {u : SS} {cc : ByteArray} {nL pc : Nat} {y : MethodName} {ret : Option FieldType} {ls : Array Slot} {rest : List Value} {x1 : Int32} {z : Int32} (F : FX p m c cc nL s args y ret RX2 meth) (hw : WD G A s (sw G ad u) H locs) (h : f_X2_firstPlace x1 u = some z) (hR : rmX2_firstPlace.frames + 1 ≤ R.frames ∧ 8 + (2 + 11) + rmX2_firstPlace.locals ≤ R.locals) (hcs : cells ≤ R.cells ∧ slots ≤ R.slots) (hsz : ls.size = nL) (hW : (rest.map fun v => v.category).sum ≤ 8) (hdg : decode cc pc = .ok (.invokevirtual 114, 3)) (kk : W p l e R s m args below meth c H locs cells slots Q (F0 m (pc + 3) ls (.int z :: rest))) : W p l e R s m args below meth c H locs cells slots Q (F0 m pc ls (.int x1 :: .ref (ad 0) :: rest)) := callO (runV F yv_X2_firstPlace_X2 (c_X2_firstPlace h) hw.1 hw.2.1 hw.2.2.1 rfl rfl rfl ⟨rfl, rfl⟩ hR hcs rfl hsz rfl hW hdg) kk
theorem yv_X1_standAt_X2 : YV RX2 117 yX1_standAt cX1_standAt 2 (some .int) 1 := ⟨(tw 227 (by decide +kernel) rfl), (tw 3 (by decide +kernel) rfl), (tw 224 (by decide +kernel) rfl), (tw 225 (by decide +kernel) rfl), (tw 226 (by decide +kernel) rfl), by decide +kernel⟩
theorem k_X1_standAt_s_ {p : Program} {l : Launch} {e : Env} {R : Room} {s : State} {m : MethodId} {args : Array Value} {below : List Frame} {meth : Method} {c : Code} {H : Heap} {locs : List Loc} {cells slots : Nat} {Q : State → Prop} {G : GX} {A : Nat → Prop} {ad : Nat → Nat} {u : SS} {cc : ByteArray} {nL pc : Nat} {y : MethodName} {ret : Option FieldType} {ls : Array Slot} {rest : List Value} {x1 : Int32} {z : Int32} (F : FX p m c cc nL s args y ret RX2 meth) (hw : WD G A s (sw G ad u) H locs) (h : f_X1_standAt x1 u.1 = some z) (hR : rmX1_standAt.frames + 1 ≤ R.frames ∧ 8 + (2 + 11) + rmX1_standAt.locals ≤ R.locals) (hcs : cells ≤ R.cells ∧ slots ≤ R.slots) (hsz : ls.size = nL) (hW : (rest.map fun v => v.category).sum ≤ 8) (hdg : decode cc pc = .ok (.invokevirtual 117, 3)) (kk : W p l e R s m args below meth c H locs cells slots Q (F0 m (pc + 3) ls (.int z :: rest))) : W p l e R s m args below meth c H locs cells slots Q (F0 m pc ls (.int x1 :: .ref (ad 1) :: rest)) := callO (runV F yv_X1_standAt_X2 (c_X1_standAt h (ad := (fun k => ad (k + 1)))) hw.1 (hw.2.1.sub [1, 2, 3, 4] rfl) (hw.2.2.1.sub [1, 2, 3, 4] (by decide) rfl) rfl rfl rfl ⟨rfl, rfl⟩ hR hcs rfl hsz rfl hW hdg) kk
theorem yv_X3_thingOf_X2 : YN RX2 120 yX3_thingOf RX3 cX3_thingOf 1 (some .int) 1 := ⟨(tw 213 (by decide +kernel) rfl), (tw 1 (by decide +kernel) rfl), fun _ h => h.2.2.2.1, (tw 212 (by decide +kernel) rfl), by decide +kernel⟩
theorem k_X3_thingOf_s_ {p : Program} {l : Launch} {e : Env} {R : Room} {s : State} {m : MethodId} {args : Array Value} {below : List Frame} {meth : Method} {c : Code} {H : Heap} {locs : List Loc} {cells slots : Nat} {Q : State → Prop} {G : GX} {A : Nat → Prop} {ad : Nat → Nat} {u : SS} {cc : ByteArray} {nL pc : Nat} {y : MethodName} {ret : Option FieldType} {ls : Array Slot} {rest : List Value} {x0 : Int32} {z : Int32} (F : FX p m c cc nL s args y ret RX2 meth) (hw : WD G A s (sw G ad u) H locs) (h : f_X3_thingOf x0 = some z) (hR : rmX3_thingOf.frames + 1 ≤ R.frames ∧ 8 + (1 + 11) + rmX3_thingOf.locals ≤ R.locals) (hcs : cells ≤ R.cells ∧ slots ≤ R.slots) (hsz : ls.size = nL) (hW : (rest.map fun v => v.category).sum ≤ 8) (hdg : decode cc pc = .ok (.invokestatic 120, 3)) (kk : W p l e R s m args below meth c H locs cells slots Q (F0 m (pc + 3) ls (.int z :: rest))) : W p l e R s m args below meth c H locs cells slots Q (F0 m pc ls (.int x0 :: rest)) := callO (runN F yv_X3_thingOf_X2 (c_X3_thingOf h (G := G)) hw.1 nil_P (A := A) nil_D ⟨rfl, rfl⟩ hR hcs rfl hsz rfl hW hdg) kk
theorem yv_X2_encloses_X2 : YV RX2 123 yX2_encloses cX2_encloses 3 (some .boolean) 2 := ⟨(tw 332 (by decide +kernel) rfl), (tw 2 (by decide +kernel) rfl), (tw 367 (by decide +kernel) rfl), (tw 330 (by decide +kernel) rfl), (tw 331 (by decide +kernel) rfl), by decide +kernel⟩
theorem k_X2_encloses_s_ {p : Program} {l : Launch} {e : Env} {R : Room} {s : State} {m : MethodId} {args : Array Value} {below : List Frame} {meth : Method} {c : Code} {H : Heap} {locs : List Loc} {cells slots : Nat} {Q : State → Prop} {G : GX} {A : Nat → Prop} {ad : Nat → Nat} {u : SS} {cc : ByteArray} {nL pc : Nat} {y : MethodName} {ret : Option FieldType} {ls : Array Slot} {rest : List Value} {x1 : Int32} {x2 : Int32} {z : Int32} (F : FX p m c cc nL s args y ret RX2 meth) (hw : WD G A s (sw G ad u) H locs) (h : f_X2_encloses x1 x2 u = some z) (hR : rmX2_encloses.frames + 1 ≤ R.frames ∧ 8 + (3 + 11) + rmX2_encloses.locals ≤ R.locals) (hcs : cells ≤ R.cells ∧ slots ≤ R.slots) (hsz : ls.size = nL) (hW : (rest.map fun v => v.category).sum ≤ 8) (hdg : decode cc pc = .ok (.invokevirtual 123, 3)) (kk : W p l e R s m args below meth c H locs cells slots Q (F0 m (pc + 3) ls (.int z :: rest))) : W p l e R s m args below meth c H locs cells slots Q (F0 m pc ls (.int x2 :: .int x1 :: .ref (ad 0) :: rest)) := callO (runV F yv_X2_encloses_X2 (c_X2_encloses h) hw.1 hw.2.1 hw.2.2.1 rfl rfl rfl ⟨rfl, rfl⟩ hR hcs rfl hsz rfl hW hdg) kk
def rmX2_innermost : Room := { frames := 3, cells := 0, slots := 0, locals := 65 }
noncomputable def f_X2_innermost_18 : Nat → Int32 → Int32 → Int32 → Int32 → SS → Option (Int32)
  | 0, _, _, _, _, _ => none
  | n + 1, x1, x2, x3, x4, u => (f_X1_first x3 u.1).bind (fun z5 => (if x4 < z5 then some (-1) else (f_X1_standAt x4 u.1).bind (fun z8 => (f_X3_thingOf z8).bind (fun z10 => (f_X2_encloses z10 x1 u).bind (fun z12 => (if z12 = 0 then f_X2_innermost_18 n x1 x2 x3 (x4 + (-1)) u else (f_X2_encloses z10 x2 u).bind (fun z15 => (if z15 = 0 then f_X2_innermost_18 n x1 x2 x3 (x4 + (-1)) u else some z10))))))))
noncomputable def f_X2_innermost (x1 : Int32) (x2 : Int32) (u : SS) : Option (Int32) := (f_X1_rowOfThing x1 u.1).bind (fun z1 => (f_X2_firstPlace x1 u).bind (fun z3 => f_X2_innermost_18 NF x1 x2 z1 (z3 - 1) u))
section
variable {p : Program} {l : Launch} {e : Env} {s : State} {m : MethodId} {args : Array Value} {below : List Frame} {meth : Method} {c : Code}
variable {G : GX} {A : Nat → Prop} {ad : Nat → Nat} 
set_option maxHeartbeats 4000000 in
set_option maxRecDepth 100000 in
theorem w_X2_innermost_18 (F : FX p m c cX2_innermost 6 s args yX2_innermost (some .int) RX2 meth) {z : Int32} : ∀ (n : Nat) (x1 : Int32) (x2 : Int32) (x3 : Int32) (x4 : Int32) (u : SS) (ls : Array Slot), WD G A s (sw G ad u) s.heap [] → lv_has ls 6 [(0, .ref (ad 0)), (1, .int x1), (2, .int x2), (3, .int x3), (4, .int x4)] → f_X2_innermost_18 n x1 x2 x3 x4 u = some z → W p l e rmX2_innermost s m args below meth c s.heap [] 0 0 (MQ below (QO (some (.int z))) args s 0 0 (fun _ => False)) (F0 m 18 ls []) := by
  obtain ⟨⟨hx, hb, hml, hown, hts⟩, hr, hlocks⟩ := id F
  intro n
  induction n with
  | zero =>
    intro x1 x2 x3 x4 u ls hw hl h
    rw [f_X2_innermost_18] at h
    cases h
  | succ n ih =>
    intro x1 x2 x3 x4 u ls hw hl h
    rw [f_X2_innermost_18] at h
    refine lv_iload hx hb dX2_innermost_18 (lv_at hl 4 rfl) ?_
    refine lv_aload_n hx hb dX2_innermost_20 rfl (lv_at hl 0 rfl) ?_
    refine s_g0_0 F hw dX2_innermost_21 ?_
    refine lv_iload_n hx hb dX2_innermost_24 rfl (lv_at hl 3 rfl) ?_
    obtain ⟨z5, e6, h⟩ := bnd h
    refine k_X1_first_s_ F hw e6 ⟨Nat.le_of_ble_eq_true rfl, Nat.le_of_ble_eq_true rfl⟩ ⟨Nat.zero_le _, Nat.zero_le _⟩ hl.1 (Nat.le_of_ble_eq_true rfl) dX2_innermost_25 ?_
    refine lv_icmp_lt (tgt := 74) hx hb dX2_innermost_28 rfl (fun c7 => ?_) (fun c7 => ?_)
    · replace h := itT h c7
      refine lv_iconst (v := (-1)) hx hb dX2_innermost_74 rfl ?_
      cases h
      exact retO_i F dX2_innermost_75
    · replace h := itF h c7
      refine lv_aload_n hx hb dX2_innermost_31 rfl (lv_at hl 0 rfl) ?_
      refine s_g0_0 F hw dX2_innermost_32 ?_
      refine lv_iload hx hb dX2_innermost_35 (lv_at hl 4 rfl) ?_
      obtain ⟨z8, e9, h⟩ := bnd h
      refine k_X1_standAt_s_ F hw e9 ⟨Nat.le_of_ble_eq_true rfl, Nat.le_of_ble_eq_true rfl⟩ ⟨Nat.zero_le _, Nat.zero_le _⟩ hl.1 (Nat.le_of_ble_eq_true rfl) dX2_innermost_37 ?_
      obtain ⟨z10, e11, h⟩ := bnd h
      refine k_X3_thingOf_s_ F hw e11 ⟨Nat.le_of_ble_eq_true rfl, Nat.le_of_ble_eq_true rfl⟩ ⟨Nat.zero_le _, Nat.zero_le _⟩ hl.1 (Nat.le_of_ble_eq_true rfl) dX2_innermost_40 ?_
      refine lv_istore (lv' := [(5, .int z10), (0, .ref (ad 0)), (1, .int x1), (2, .int x2), (3, .int x3), (4, .int x4)]) hx hb dX2_innermost_43 hl (by decide) rfl (fun ls hl => ?_)
      refine lv_aload_n hx hb dX2_innermost_45 rfl (lv_at hl 1 rfl) ?_
      refine lv_iload hx hb dX2_innermost_46 (lv_at hl 0 rfl) ?_
      refine lv_iload_n hx hb dX2_innermost_48 rfl (lv_at hl 2 rfl) ?_
      obtain ⟨z12, e13, h⟩ := bnd h
      refine k_X2_encloses_s_ F hw e13 ⟨Nat.le_of_ble_eq_true rfl, Nat.le_of_ble_eq_true rfl⟩ ⟨Nat.zero_le _, Nat.zero_le _⟩ hl.1 (Nat.le_of_ble_eq_true rfl) dX2_innermost_49 ?_
      refine lv_if_eq (tgt := 68) hx hb dX2_innermost_52 rfl (fun c14 => ?_) (fun c14 => ?_)
      · replace h := itT h c14
        refine lv_iinc (v := (x4 + (-1))) (lv' := [(4, .int (x4 + (-1))), (5, .int z10), (0, .ref (ad 0)), (1, .int x1), (2, .int x2), (3, .int x3)]) hx hb dX2_innermost_68 hl (k := 5) rfl rfl (by decide) rfl (fun ls hl => ?_)
        refine lv_goto (tgt := 18) hx hb dX2_innermost_71 rfl ?_
        exact ih _ _ _ _ _ _ hw (lv_sub hl [2, 3, 4, 5, 0] rfl) h
      · replace h := itF h c14
        refine lv_aload_n hx hb dX2_innermost_55 rfl (lv_at hl 1 rfl) ?_
        refine lv_iload hx hb dX2_innermost_56 (lv_at hl 0 rfl) ?_
        refine lv_iload_n hx hb dX2_innermost_58 rfl (lv_at hl 3 rfl) ?_
        obtain ⟨z15, e16, h⟩ := bnd h
        refine k_X2_encloses_s_ F hw e16 ⟨Nat.le_of_ble_eq_true rfl, Nat.le_of_ble_eq_true rfl⟩ ⟨Nat.zero_le _, Nat.zero_le _⟩ hl.1 (Nat.le_of_ble_eq_true rfl) dX2_innermost_59 ?_
        refine lv_if_eq (tgt := 68) hx hb dX2_innermost_62 rfl (fun c17 => ?_) (fun c17 => ?_)
        · replace h := itT h c17
          refine lv_iinc (v := (x4 + (-1))) (lv' := [(4, .int (x4 + (-1))), (5, .int z10), (0, .ref (ad 0)), (1, .int x1), (2, .int x2), (3, .int x3)]) hx hb dX2_innermost_68 hl (k := 5) rfl rfl (by decide) rfl (fun ls hl => ?_)
          refine lv_goto (tgt := 18) hx hb dX2_innermost_71 rfl ?_
          exact ih _ _ _ _ _ _ hw (lv_sub hl [2, 3, 4, 5, 0] rfl) h
        · replace h := itF h c17
          refine lv_iload hx hb dX2_innermost_65 (lv_at hl 0 rfl) ?_
          cases h
          exact retO_i F dX2_innermost_67
set_option maxHeartbeats 4000000 in
set_option maxRecDepth 100000 in
theorem w_X2_innermost_0 (F : FX p m c cX2_innermost 6 s args yX2_innermost (some .int) RX2 meth) {z : Int32} : ∀ (x1 : Int32) (x2 : Int32) (u : SS) (ls : Array Slot), WD G A s (sw G ad u) s.heap [] → lv_has ls 6 [(0, .ref (ad 0)), (1, .int x1), (2, .int x2)] → f_X2_innermost x1 x2 u = some z → W p l e rmX2_innermost s m args below meth c s.heap [] 0 0 (MQ below (QO (some (.int z))) args s 0 0 (fun _ => False)) (F0 m 0 ls []) := by
  obtain ⟨⟨hx, hb, hml, hown, hts⟩, hr, hlocks⟩ := id F
  intro x1 x2 u ls hw hl h
  unfold f_X2_innermost at h
  refine lv_aload_n hx hb dX2_innermost_0 rfl (lv_at hl 0 rfl) ?_
  refine s_g0_0 F hw dX2_innermost_1 ?_
  refine lv_iload_n hx hb dX2_innermost_4 rfl (lv_at hl 1 rfl) ?_
  obtain ⟨z1, e2, h⟩ := bnd h
  refine k_X1_rowOfThing_s_ F hw e2 ⟨Nat.le_of_ble_eq_true rfl, Nat.le_of_ble_eq_true rfl⟩ ⟨Nat.zero_le _, Nat.zero_le _⟩ hl.1 (Nat.le_of_ble_eq_true rfl) dX2_innermost_5 ?_
  refine lv_istore_n (lv' := [(3, .int z1), (0, .ref (ad 0)), (1, .int x1), (2, .int x2)]) hx hb dX2_innermost_8 rfl hl (by decide) rfl (fun ls hl => ?_)
  refine lv_aload_n hx hb dX2_innermost_9 rfl (lv_at hl 1 rfl) ?_
  refine lv_iload_n hx hb dX2_innermost_10 rfl (lv_at hl 2 rfl) ?_
  obtain ⟨z3, e4, h⟩ := bnd h
  refine k_X2_firstPlace_s_ F hw e4 ⟨Nat.le_of_ble_eq_true rfl, Nat.le_of_ble_eq_true rfl⟩ ⟨Nat.zero_le _, Nat.zero_le _⟩ hl.1 (Nat.le_of_ble_eq_true rfl) dX2_innermost_11 ?_
  refine lv_iconst (v := 1) hx hb dX2_innermost_14 rfl ?_
  refine lv_isub hx hb dX2_innermost_15 ?_
  refine lv_istore (lv' := [(4, .int (z3 - 1)), (3, .int z1), (0, .ref (ad 0)), (1, .int x1), (2, .int x2)]) hx hb dX2_innermost_16 hl (by decide) rfl (fun ls hl => ?_)
  exact w_X2_innermost_18 F NF _ _ _ _ _ _ hw (lv_sub hl [2, 3, 4, 1, 0] rfl) h
end
theorem c_X2_innermost {l : Launch} {G : GX} {ad : Nat → Nat} {x1 : Int32} {x2 : Int32} {u : SS} {z : Int32} (h : f_X2_innermost x1 x2 u = some z) : MO l yX2_innermost cX2_innermost 6 (some .int) rmX2_innermost G (sw G ad u) [.ref (ad 0), .int x1, .int x2] (some (.int z)) := MO.of (by decide) (Nat.le_of_ble_eq_true rfl) (fun p e s m below meth c ls F hw hl => w_X2_innermost_0 F _ _ _ _ hw hl h)
