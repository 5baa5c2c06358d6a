/-! ===== X4_in ===== -/
theorem dX4_in_0 : decode cX4_in 0 = .ok (.iload_n 0, 1) := by decide +kernel
theorem dX4_in_1 : decode cX4_in 1 = .ok (.iload_n 1, 1) := by decide +kernel
theorem dX4_in_2 : decode cX4_in 2 = .ok (.if_icmp .lt 12, 3) := by decide +kernel
theorem dX4_in_5 : decode cX4_in 5 = .ok (.iload_n 0, 1) := by decide +kernel
theorem dX4_in_6 : decode cX4_in 6 = .ok (.iload_n 2, 1) := by decide +kernel
theorem dX4_in_7 : decode cX4_in 7 = .ok (.if_icmp .gt 7, 3) := by decide +kernel
theorem dX4_in_10 : decode cX4_in 10 = .ok (.iconst 1, 1) := by decide +kernel
theorem dX4_in_11 : decode cX4_in 11 = .ok (.goto 4, 3) := by decide +kernel
theorem dX4_in_14 : decode cX4_in 14 = .ok (.iconst 0, 1) := by decide +kernel
theorem dX4_in_15 : decode cX4_in 15 = .ok (.ireturn, 1) := by decide +kernel
def rmX4_in : Room := { frames := 0, cells := 0, slots := 0, locals := 0 }
noncomputable def f_X4_in (x0 : Int32) (x1 : Int32) (x2 : Int32) : Option (Int32) := (if x0 < x1 then some 0 else (if x2 < x0 then some 0 else some 1))
section
variable {p : Program} {l : Launch} {e : Env} {s : State} {m : MethodId} {args : Array Value} {below : List Frame} {meth : Method} {c : Code}
variable {G : GX} {A : Nat → Prop} {ad : Nat → Nat}
set_option maxHeartbeats 4000000 in
set_option maxRecDepth 100000 in
theorem w_X4_in_0 (F : FX p m c cX4_in 3 s args yX4_in (some .boolean) RX4 meth) {z : Int32} : ∀ (x0 : Int32) (x1 : Int32) (x2 : Int32) (ls : Array Slot), WD G A s [] s.heap [] → lv_has ls 3 [(0, .int x0), (1, .int x1), (2, .int x2)] → f_X4_in x0 x1 x2 = some z → W p l e rmX4_in s m args below meth c s.heap [] 0 0 (MQ below (QO (some (.int z))) args s 0 0 (fun _ => False)) (F0 m 0 ls []) := by
  obtain ⟨⟨hx, hb, hml, hown, hts⟩, hr, hlocks⟩ := id F
  intro x0 x1 x2 ls hw hl h
  unfold f_X4_in at h
  refine lv_iload_n hx hb dX4_in_0 rfl (lv_at hl 0 rfl) ?_
  refine lv_iload_n hx hb dX4_in_1 rfl (lv_at hl 1 rfl) ?_
  refine lv_icmp_lt (tgt := 14) hx hb dX4_in_2 rfl (fun c1 => ?_) (fun c1 => ?_)
  · replace h := itT h c1
    refine lv_iconst (v := 0) hx hb dX4_in_14 rfl ?_
    cases h
    exact retO_z F narrow_b0 dX4_in_15
  · replace h := itF h c1
    refine lv_iload_n hx hb dX4_in_5 rfl (lv_at hl 0 rfl) ?_
    refine lv_iload_n hx hb dX4_in_6 rfl (lv_at hl 2 rfl) ?_
    refine lv_icmp_gt (tgt := 14) hx hb dX4_in_7 rfl (fun c2 => ?_) (fun c2 => ?_)
    · replace h := itT h c2
      refine lv_iconst (v := 0) hx hb dX4_in_14 rfl ?_
      cases h
      exact retO_z F narrow_b0 dX4_in_15
    · replace h := itF h c2
      refine lv_iconst (v := 1) hx hb dX4_in_10 rfl ?_
      refine lv_goto (tgt := 15) hx hb dX4_in_11 rfl ?_
      cases h
      exact retO_z F narrow_b1 dX4_in_15
end
theorem c_X4_in {l : Launch} {G : GX} {x0 : Int32} {x1 : Int32} {x2 : Int32} {z : Int32} (h : f_X4_in x0 x1 x2 = some z) : MO l yX4_in cX4_in 3 (some .boolean) rmX4_in G [] [.int x0, .int x1, .int x2] (some (.int z)) := MO.of (by decide) (Nat.le_of_ble_eq_true rfl) (fun p e s m below meth c ls F hw hl => w_X4_in_0 F _ _ _ _ hw hl h)
theorem yv_X4_in : YS RX4 93 yX4_in cX4_in 3 (some .boolean) 3 := ⟨(tw 607 (by decide +kernel) rfl), (tw 6 (by decide +kernel) rfl), (tw 605 (by decide +kernel) rfl), (tw 606 (by decide +kernel) rfl), by decide +kernel⟩
theorem k_X4_in {p : Program} {l : Launch} {e : Env} {R : Room} {s : State} {m : MethodId} {args : Array Value} {below : List Frame} {meth : Method} {c : Code} {H : Heap} {locs : List Loc} {cells slots : Nat} {Q : State → Prop} {G : GX} {A : Nat → Prop} {ad : Nat → Nat} {cc : ByteArray} {nL pc : Nat} {y0 : MethodName} {ret0 : Option FieldType} {ls : Array Slot} {rest : List Value} {u : MS} {x0 : Int32} {x1 : Int32} {x2 : Int32} {z : Int32} (F : FX p m c cc nL s args y0 ret0 RX4 meth) (hw : WD G A s (mw G ad u) H locs) (h : f_X4_in x0 x1 x2 = some z) (hR : rmX4_in.frames + 1 ≤ R.frames ∧ 8 + (3 + 11) + rmX4_in.locals ≤ R.locals) (hcs : cells ≤ R.cells ∧ slots ≤ R.slots) (hsz : ls.size = nL) (hW : (rest.map fun v => v.category).sum ≤ 8) (hdg : decode cc pc = .ok (.invokestatic 93, 3)) (kk : W p l e R s m args below meth c H locs cells slots Q (F0 m (pc + 3) ls (.int z :: rest))) : W p l e R s m args below meth c H locs cells slots Q (F0 m pc ls (.int x2 :: .int x1 :: .int x0 :: rest)) := callO (runS F yv_X4_in (c_X4_in h (G := G)) hw.1 (fun k q hk => by simp at hk) (A := A) ⟨fun i j p q hp => by simp at hp, fun k q hk => by simp at hk⟩ ⟨rfl, rfl⟩ hR hcs rfl hsz rfl hW hdg) kk
/-! ===== X4_write ===== -/
theorem dX4_write_0 : decode cX4_write 0 = .ok (.iconst 0, 1) := by decide +kernel
theorem dX4_write_1 : decode cX4_write 1 = .ok (.istore_n 3, 1) := by decide +kernel
theorem dX4_write_2 : decode cX4_write 2 = .ok (.iload_n 3, 1) := by decide +kernel
theorem dX4_write_3 : decode cX4_write 3 = .ok (.iload_n 2, 1) := by decide +kernel
theorem dX4_write_4 : decode cX4_write 4 = .ok (.if_icmp .ge 31, 3) := by decide +kernel
theorem dX4_write_7 : decode cX4_write 7 = .ok (.aload_n 0, 1) := by decide +kernel
theorem dX4_write_8 : decode cX4_write 8 = .ok (.getfield 51, 3) := by decide +kernel
theorem dX4_write_11 : decode cX4_write 11 = .ok (.aload_n 0, 1) := by decide +kernel
theorem dX4_write_12 : decode cX4_write 12 = .ok (.getfield 68, 3) := by decide +kernel
theorem dX4_write_15 : decode cX4_write 15 = .ok (.aload_n 1, 1) := by decide +kernel
theorem dX4_write_16 : decode cX4_write 16 = .ok (.iload_n 3, 1) := by decide +kernel
theorem dX4_write_17 : decode cX4_write 17 = .ok (.iaload, 1) := by decide +kernel
theorem dX4_write_18 : decode cX4_write 18 = .ok (.iastore, 1) := by decide +kernel
theorem dX4_write_19 : decode cX4_write 19 = .ok (.aload_n 0, 1) := by decide +kernel
theorem dX4_write_20 : decode cX4_write 20 = .ok (.dup, 1) := by decide +kernel
theorem dX4_write_21 : decode cX4_write 21 = .ok (.getfield 68, 3) := by decide +kernel
theorem dX4_write_24 : decode cX4_write 24 = .ok (.iconst 1, 1) := by decide +kernel
theorem dX4_write_25 : decode cX4_write 25 = .ok (.iadd, 1) := by decide +kernel
theorem dX4_write_26 : decode cX4_write 26 = .ok (.putfield 68, 3) := by decide +kernel
theorem dX4_write_29 : decode cX4_write 29 = .ok (.iinc 3 1, 3) := by decide +kernel
theorem dX4_write_32 : decode cX4_write 32 = .ok (.goto (-30), 3) := by decide +kernel
theorem dX4_write_35 : decode cX4_write 35 = .ok (.return_, 1) := by decide +kernel
def rmX4_write_a2 : Room := { frames := 0, cells := 0, slots := 0, locals := 0 }
noncomputable def f_X4_write_a2_2 : Nat → Int32 → Int32 → MS → Option (MS)
  | 0, _, _, _ => none
  | n + 1, x2, x3, u => (if x2 ≤ x3 then some u else (if ix x3 8 = true then (if ix (u.1 20) 98460 = true then f_X4_write_a2_2 n x2 (x3 + 1) (mF (mA u 16 (Int32.toNatClampNeg (u.1 20)) (u.2.1 2 (Int32.toNatClampNeg x3))) 20 (((mA u 16 (Int32.toNatClampNeg (u.1 20)) (u.2.1 2 (Int32.toNatClampNeg x3))).1 20) + 1)) else none) else none))
noncomputable def f_X4_write_a2 (x2 : Int32) (u : MS) : Option (MS) := f_X4_write_a2_2 NF x2 0 u
section
variable {p : Program} {l : Launch} {e : Env} {s : State} {m : MethodId} {args : Array Value} {below : List Frame} {meth : Method} {c : Code}
variable {G : GX} {A : Nat → Prop} {ad : Nat → Nat}
set_option maxHeartbeats 4000000 in
set_option maxRecDepth 100000 in
theorem w_X4_write_a2_2 (F : FX p m c cX4_write 4 s args yX4_write none RX4 meth) {z : MS} : ∀ (n : Nat) (x2 : Int32) (x3 : Int32) (u : MS) (H : Heap) (locs : List Loc) (ls : Array Slot), WD G A s (mw G ad u) H locs → lv_has ls 4 [(0, .ref (ad 0)), (1, .ref (ad 2)), (2, .int x2), (3, .int x3)] → f_X4_write_a2_2 n x2 x3 u = some z → W p l e rmX4_write_a2 s m args below meth c H locs 0 0 (MQ below (QW G (mw G ad z) A none) args s 0 0 A) (F0 m 2 ls []) := by
  obtain ⟨⟨hx, hb, hml, hown, hts⟩, hr, hlocks⟩ := id F
  intro n
  induction n with
  | zero =>
    intro x2 x3 u H locs ls hw hl h
    rw [f_X4_write_a2_2] at h
    cases h
  | succ n ih =>
    intro x2 x3 u H locs ls hw hl h
    rw [f_X4_write_a2_2] at h
    refine lv_iload_n hx hb dX4_write_2 rfl (lv_at hl 3 rfl) ?_
    refine lv_iload_n hx hb dX4_write_3 rfl (lv_at hl 2 rfl) ?_
    refine lv_icmp_ge (tgt := 35) hx hb dX4_write_4 rfl (fun c1 => ?_) (fun c1 => ?_)
    · replace h := itT h c1
      cases h
      exact retW_v F hw dX4_write_35
    · replace h := itF h c1
      refine lv_aload_n hx hb dX4_write_7 rfl (lv_at hl 0 rfl) ?_
      refine m_g16 F hw dX4_write_8 ?_
      refine lv_aload_n hx hb dX4_write_11 rfl (lv_at hl 0 rfl) ?_
      refine m_g20 F hw dX4_write_12 ?_
      refine lv_aload_n hx hb dX4_write_15 rfl (lv_at hl 1 rfl) ?_
      refine lv_iload_n hx hb dX4_write_16 rfl (lv_at hl 3 rfl) ?_
      obtain ⟨g2, h⟩ := gd h
      refine m_l2 F hw g2 dX4_write_17 ?_
      obtain ⟨g3, h⟩ := gd h
      refine m_s16 F hw g3 dX4_write_18 (fun H locs hw => ?_)
      refine lv_aload_n hx hb dX4_write_19 rfl (lv_at hl 0 rfl) ?_
      refine lv_dup hx hb dX4_write_20 rfl ?_
      refine m_g20 F hw dX4_write_21 ?_
      refine lv_iconst (v := 1) hx hb dX4_write_24 rfl ?_
      refine lv_iadd hx hb dX4_write_25 ?_
      refine m_p20 F hw dX4_write_26 (fun H locs hw => ?_)
      refine lv_iinc (v := (x3 + 1)) (lv' := [(3, .int (x3 + 1)), (0, .ref (ad 0)), (1, .ref (ad 2)), (2, .int x2)]) hx hb dX4_write_29 hl (k := 3) rfl rfl (by decide) rfl (fun ls hl => ?_)
      refine lv_goto (tgt := 2) hx hb dX4_write_32 rfl ?_
      exact ih _ _ _ _ _ _ hw (lv_sub hl [1, 2, 3, 0] rfl) h
set_option maxHeartbeats 4000000 in
set_option maxRecDepth 100000 in
theorem w_X4_write_a2_0 (F : FX p m c cX4_write 4 s args yX4_write none RX4 meth) {z : MS} : ∀ (x2 : Int32) (u : MS) (H : Heap) (locs : List Loc) (ls : Array Slot), WD G A s (mw G ad u) H locs → lv_has ls 4 [(0, .ref (ad 0)), (1, .ref (ad 2)), (2, .int x2)] → f_X4_write_a2 x2 u = some z → W p l e rmX4_write_a2 s m args below meth c H locs 0 0 (MQ below (QW G (mw G ad z) A none) args s 0 0 A) (F0 m 0 ls []) := by
  obtain ⟨⟨hx, hb, hml, hown, hts⟩, hr, hlocks⟩ := id F
  intro x2 u H locs ls hw hl h
  unfold f_X4_write_a2 at h
  refine lv_iconst (v := 0) hx hb dX4_write_0 rfl ?_
  refine lv_istore_n (lv' := [(3, .int 0), (0, .ref (ad 0)), (1, .ref (ad 2)), (2, .int x2)]) hx hb dX4_write_1 rfl hl (by decide) rfl (fun ls hl => ?_)
  exact w_X4_write_a2_2 F NF _ _ _ _ _ _ hw (lv_sub hl [1, 2, 3, 0] rfl) h
end
theorem c_X4_write_a2 {l : Launch} {G : GX} {ad : Nat → Nat} {x2 : Int32} {u : MS} {z : MS} (h : f_X4_write_a2 x2 u = some z) : MW l yX4_write cX4_write 4 none rmX4_write_a2 G (mw G ad u) (mw G ad z) [.ref (ad 0), .ref (ad 2), .int x2] none := MW.of (by decide) (Nat.le_of_ble_eq_true rfl) (fun p e s m below meth c ls F hw hl => w_X4_write_a2_0 F _ _ _ _ _ hw hl h)
theorem yv_X4_write_a2 : YV RX4 71 yX4_write cX4_write 4 none 2 := ⟨(tw 615 (by decide +kernel) rfl), (tw 6 (by decide +kernel) rfl), (tw 612 (by decide +kernel) rfl), (tw 614 (by decide +kernel) rfl), (tp 14 (by decide +kernel) rfl), by decide +kernel⟩
theorem k_X4_write_a2 {p : Program} {l : Launch} {e : Env} {R : Room} {s : State} {m : MethodId} {args : Array Value} {below : List Frame} {meth : Method} {c : Code} {H : Heap} {locs : List Loc} {cells slots : Nat} {Q : State → Prop} {G : GX} {A : Nat → Prop} {ad : Nat → Nat} {cc : ByteArray} {nL pc : Nat} {y0 : MethodName} {ret0 : Option FieldType} {ls : Array Slot} {rest : List Value} {u : MS} {x2 : Int32} {z : MS} (F : FX p m c cc nL s args y0 ret0 RX4 meth) (hw : WD G A s (mw G ad u) H locs) (h : f_X4_write_a2 x2 u = some z) (hR : rmX4_write_a2.frames + 1 ≤ R.frames ∧ 8 + (4 + 11) + rmX4_write_a2.locals ≤ R.locals) (hcs : cells ≤ R.cells ∧ slots ≤ R.slots) (hsz : ls.size = nL) (hW : (rest.map fun v => v.category).sum ≤ 8) (hdg : decode cc pc = .ok (.invokevirtual 71, 3)) (kk : ∀ (H : Heap) (locs : List Loc), WD G A s (mw G ad z) H locs → W p l e R s m args below meth c H locs cells slots Q (F0 m (pc + 3) ls (rest))) : W p l e R s m args below meth c H locs cells slots Q (F0 m pc ls (.int x2 :: .ref (ad 2) :: .ref (ad 0) :: rest)) := callW (runV F yv_X4_write_a2 (c_X4_write_a2 h) hw.1 hw.2.1 hw.2.2.1 rfl rfl rfl ⟨rfl, rfl⟩ hR hcs rfl hsz rfl hW hdg) hw.2.2.2 hw.2.2.1.own_in (fun H1 l1 hP _ hS => kk H1 l1 ⟨hw.1, hP, hw.2.2.1.addr rfl, hS⟩)
def rmX4_write_a3 : Room := { frames := 0, cells := 0, slots := 0, locals := 0 }
noncomputable def f_X4_write_a3_2 : Nat → Int32 → Int32 → MS → Option (MS)
  | 0, _, _, _ => none
  | n + 1, x2, x3, u => (if x2 ≤ x3 then some u else (if ix x3 8 = true then (if ix (u.1 20) 98460 = true then f_X4_write_a3_2 n x2 (x3 + 1) (mF (mA u 16 (Int32.toNatClampNeg (u.1 20)) (u.2.1 3 (Int32.toNatClampNeg x3))) 20 (((mA u 16 (Int32.toNatClampNeg (u.1 20)) (u.2.1 3 (Int32.toNatClampNeg x3))).1 20) + 1)) else none) else none))
noncomputable def f_X4_write_a3 (x2 : Int32) (u : MS) : Option (MS) := f_X4_write_a3_2 NF x2 0 u
section
variable {p : Program} {l : Launch} {e : Env} {s : State} {m : MethodId} {args : Array Value} {below : List Frame} {meth : Method} {c : Code}
variable {G : GX} {A : Nat → Prop} {ad : Nat → Nat}
set_option maxHeartbeats 4000000 in
set_option maxRecDepth 100000 in
theorem w_X4_write_a3_2 (F : FX p m c cX4_write 4 s args yX4_write none RX4 meth) {z : MS} : ∀ (n : Nat) (x2 : Int32) (x3 : Int32) (u : MS) (H : Heap) (locs : List Loc) (ls : Array Slot), WD G A s (mw G ad u) H locs → lv_has ls 4 [(0, .ref (ad 0)), (1, .ref (ad 3)), (2, .int x2), (3, .int x3)] → f_X4_write_a3_2 n x2 x3 u = some z → W p l e rmX4_write_a3 s m args below meth c H locs 0 0 (MQ below (QW G (mw G ad z) A none) args s 0 0 A) (F0 m 2 ls []) := by
  obtain ⟨⟨hx, hb, hml, hown, hts⟩, hr, hlocks⟩ := id F
  intro n
  induction n with
  | zero =>
    intro x2 x3 u H locs ls hw hl h
    rw [f_X4_write_a3_2] at h
    cases h
  | succ n ih =>
    intro x2 x3 u H locs ls hw hl h
    rw [f_X4_write_a3_2] at h
    refine lv_iload_n hx hb dX4_write_2 rfl (lv_at hl 3 rfl) ?_
    refine lv_iload_n hx hb dX4_write_3 rfl (lv_at hl 2 rfl) ?_
    refine lv_icmp_ge (tgt := 35) hx hb dX4_write_4 rfl (fun c1 => ?_) (fun c1 => ?_)
    · replace h := itT h c1
      cases h
      exact retW_v F hw dX4_write_35
    · replace h := itF h c1
      refine lv_aload_n hx hb dX4_write_7 rfl (lv_at hl 0 rfl) ?_
      refine m_g16 F hw dX4_write_8 ?_
      refine lv_aload_n hx hb dX4_write_11 rfl (lv_at hl 0 rfl) ?_
      refine m_g20 F hw dX4_write_12 ?_
      refine lv_aload_n hx hb dX4_write_15 rfl (lv_at hl 1 rfl) ?_
      refine lv_iload_n hx hb dX4_write_16 rfl (lv_at hl 3 rfl) ?_
      obtain ⟨g2, h⟩ := gd h
      refine m_l3 F hw g2 dX4_write_17 ?_
      obtain ⟨g3, h⟩ := gd h
      refine m_s16 F hw g3 dX4_write_18 (fun H locs hw => ?_)
      refine lv_aload_n hx hb dX4_write_19 rfl (lv_at hl 0 rfl) ?_
      refine lv_dup hx hb dX4_write_20 rfl ?_
      refine m_g20 F hw dX4_write_21 ?_
      refine lv_iconst (v := 1) hx hb dX4_write_24 rfl ?_
      refine lv_iadd hx hb dX4_write_25 ?_
      refine m_p20 F hw dX4_write_26 (fun H locs hw => ?_)
      refine lv_iinc (v := (x3 + 1)) (lv' := [(3, .int (x3 + 1)), (0, .ref (ad 0)), (1, .ref (ad 3)), (2, .int x2)]) hx hb dX4_write_29 hl (k := 3) rfl rfl (by decide) rfl (fun ls hl => ?_)
      refine lv_goto (tgt := 2) hx hb dX4_write_32 rfl ?_
      exact ih _ _ _ _ _ _ hw (lv_sub hl [1, 2, 3, 0] rfl) h
set_option maxHeartbeats 4000000 in
set_option maxRecDepth 100000 in
theorem w_X4_write_a3_0 (F : FX p m c cX4_write 4 s args yX4_write none RX4 meth) {z : MS} : ∀ (x2 : Int32) (u : MS) (H : Heap) (locs : List Loc) (ls : Array Slot), WD G A s (mw G ad u) H locs → lv_has ls 4 [(0, .ref (ad 0)), (1, .ref (ad 3)), (2, .int x2)] → f_X4_write_a3 x2 u = some z → W p l e rmX4_write_a3 s m args below meth c H locs 0 0 (MQ below (QW G (mw G ad z) A none) args s 0 0 A) (F0 m 0 ls []) := by
  obtain ⟨⟨hx, hb, hml, hown, hts⟩, hr, hlocks⟩ := id F
  intro x2 u H locs ls hw hl h
  unfold f_X4_write_a3 at h
  refine lv_iconst (v := 0) hx hb dX4_write_0 rfl ?_
  refine lv_istore_n (lv' := [(3, .int 0), (0, .ref (ad 0)), (1, .ref (ad 3)), (2, .int x2)]) hx hb dX4_write_1 rfl hl (by decide) rfl (fun ls hl => ?_)
  exact w_X4_write_a3_2 F NF _ _ _ _ _ _ hw (lv_sub hl [1, 2, 3, 0] rfl) h
end
theorem c_X4_write_a3 {l : Launch} {G : GX} {ad : Nat → Nat} {x2 : Int32} {u : MS} {z : MS} (h : f_X4_write_a3 x2 u = some z) : MW l yX4_write cX4_write 4 none rmX4_write_a3 G (mw G ad u) (mw G ad z) [.ref (ad 0), .ref (ad 3), .int x2] none := MW.of (by decide) (Nat.le_of_ble_eq_true rfl) (fun p e s m below meth c ls F hw hl => w_X4_write_a3_0 F _ _ _ _ _ hw hl h)
theorem yv_X4_write_a3 : YV RX4 71 yX4_write cX4_write 4 none 2 := ⟨(tw 615 (by decide +kernel) rfl), (tw 6 (by decide +kernel) rfl), (tw 612 (by decide +kernel) rfl), (tw 614 (by decide +kernel) rfl), (tp 14 (by decide +kernel) rfl), by decide +kernel⟩
theorem k_X4_write_a3 {p : Program} {l : Launch} {e : Env} {R : Room} {s : State} {m : MethodId} {args : Array Value} {below : List Frame} {meth : Method} {c : Code} {H : Heap} {locs : List Loc} {cells slots : Nat} {Q : State → Prop} {G : GX} {A : Nat → Prop} {ad : Nat → Nat} {cc : ByteArray} {nL pc : Nat} {y0 : MethodName} {ret0 : Option FieldType} {ls : Array Slot} {rest : List Value} {u : MS} {x2 : Int32} {z : MS} (F : FX p m c cc nL s args y0 ret0 RX4 meth) (hw : WD G A s (mw G ad u) H locs) (h : f_X4_write_a3 x2 u = some z) (hR : rmX4_write_a3.frames + 1 ≤ R.frames ∧ 8 + (4 + 11) + rmX4_write_a3.locals ≤ R.locals) (hcs : cells ≤ R.cells ∧ slots ≤ R.slots) (hsz : ls.size = nL) (hW : (rest.map fun v => v.category).sum ≤ 8) (hdg : decode cc pc = .ok (.invokevirtual 71, 3)) (kk : ∀ (H : Heap) (locs : List Loc), WD G A s (mw G ad z) H locs → W p l e R s m args below meth c H locs cells slots Q (F0 m (pc + 3) ls (rest))) : W p l e R s m args below meth c H locs cells slots Q (F0 m pc ls (.int x2 :: .ref (ad 3) :: .ref (ad 0) :: rest)) := callW (runV F yv_X4_write_a3 (c_X4_write_a3 h) hw.1 hw.2.1 hw.2.2.1 rfl rfl rfl ⟨rfl, rfl⟩ hR hcs rfl hsz rfl hW hdg) hw.2.2.2 hw.2.2.1.own_in (fun H1 l1 hP _ hS => kk H1 l1 ⟨hw.1, hP, hw.2.2.1.addr rfl, hS⟩)
def rmX4_write_a4 : Room := { frames := 0, cells := 0, slots := 0, locals := 0 }
noncomputable def f_X4_write_a4_2 : Nat → Int32 → Int32 → MS → Option (MS)
  | 0, _, _, _ => none
  | n + 1, x2, x3, u => (if x2 ≤ x3 then some u else (if ix x3 8 = true then (if ix (u.1 20) 98460 = true then f_X4_write_a4_2 n x2 (x3 + 1) (mF (mA u 16 (Int32.toNatClampNeg (u.1 20)) (u.2.1 4 (Int32.toNatClampNeg x3))) 20 (((mA u 16 (Int32.toNatClampNeg (u.1 20)) (u.2.1 4 (Int32.toNatClampNeg x3))).1 20) + 1)) else none) else none))
noncomputable def f_X4_write_a4 (x2 : Int32) (u : MS) : Option (MS) := f_X4_write_a4_2 NF x2 0 u
section
variable {p : Program} {l : Launch} {e : Env} {s : State} {m : MethodId} {args : Array Value} {below : List Frame} {meth : Method} {c : Code}
variable {G : GX} {A : Nat → Prop} {ad : Nat → Nat}
set_option maxHeartbeats 4000000 in
set_option maxRecDepth 100000 in
theorem w_X4_write_a4_2 (F : FX p m c cX4_write 4 s args yX4_write none RX4 meth) {z : MS} : ∀ (n : Nat) (x2 : Int32) (x3 : Int32) (u : MS) (H : Heap) (locs : List Loc) (ls : Array Slot), WD G A s (mw G ad u) H locs → lv_has ls 4 [(0, .ref (ad 0)), (1, .ref (ad 4)), (2, .int x2), (3, .int x3)] → f_X4_write_a4_2 n x2 x3 u = some z → W p l e rmX4_write_a4 s m args below meth c H locs 0 0 (MQ below (QW G (mw G ad z) A none) args s 0 0 A) (F0 m 2 ls []) := by
  obtain ⟨⟨hx, hb, hml, hown, hts⟩, hr, hlocks⟩ := id F
  intro n
  induction n with
  | zero =>
    intro x2 x3 u H locs ls hw hl h
    rw [f_X4_write_a4_2] at h
    cases h
  | succ n ih =>
    intro x2 x3 u H locs ls hw hl h
    rw [f_X4_write_a4_2] at h
    refine lv_iload_n hx hb dX4_write_2 rfl (lv_at hl 3 rfl) ?_
    refine lv_iload_n hx hb dX4_write_3 rfl (lv_at hl 2 rfl) ?_
    refine lv_icmp_ge (tgt := 35) hx hb dX4_write_4 rfl (fun c1 => ?_) (fun c1 => ?_)
    · replace h := itT h c1
      cases h
      exact retW_v F hw dX4_write_35
    · replace h := itF h c1
      refine lv_aload_n hx hb dX4_write_7 rfl (lv_at hl 0 rfl) ?_
      refine m_g16 F hw dX4_write_8 ?_
      refine lv_aload_n hx hb dX4_write_11 rfl (lv_at hl 0 rfl) ?_
      refine m_g20 F hw dX4_write_12 ?_
      refine lv_aload_n hx hb dX4_write_15 rfl (lv_at hl 1 rfl) ?_
      refine lv_iload_n hx hb dX4_write_16 rfl (lv_at hl 3 rfl) ?_
      obtain ⟨g2, h⟩ := gd h
      refine m_l4 F hw g2 dX4_write_17 ?_
      obtain ⟨g3, h⟩ := gd h
      refine m_s16 F hw g3 dX4_write_18 (fun H locs hw => ?_)
      refine lv_aload_n hx hb dX4_write_19 rfl (lv_at hl 0 rfl) ?_
      refine lv_dup hx hb dX4_write_20 rfl ?_
      refine m_g20 F hw dX4_write_21 ?_
      refine lv_iconst (v := 1) hx hb dX4_write_24 rfl ?_
      refine lv_iadd hx hb dX4_write_25 ?_
      refine m_p20 F hw dX4_write_26 (fun H locs hw => ?_)
      refine lv_iinc (v := (x3 + 1)) (lv' := [(3, .int (x3 + 1)), (0, .ref (ad 0)), (1, .ref (ad 4)), (2, .int x2)]) hx hb dX4_write_29 hl (k := 3) rfl rfl (by decide) rfl (fun ls hl => ?_)
      refine lv_goto (tgt := 2) hx hb dX4_write_32 rfl ?_
      exact ih _ _ _ _ _ _ hw (lv_sub hl [1, 2, 3, 0] rfl) h
set_option maxHeartbeats 4000000 in
set_option maxRecDepth 100000 in
theorem w_X4_write_a4_0 (F : FX p m c cX4_write 4 s args yX4_write none RX4 meth) {z : MS} : ∀ (x2 : Int32) (u : MS) (H : Heap) (locs : List Loc) (ls : Array Slot), WD G A s (mw G ad u) H locs → lv_has ls 4 [(0, .ref (ad 0)), (1, .ref (ad 4)), (2, .int x2)] → f_X4_write_a4 x2 u = some z → W p l e rmX4_write_a4 s m args below meth c H locs 0 0 (MQ below (QW G (mw G ad z) A none) args s 0 0 A) (F0 m 0 ls []) := by
  obtain ⟨⟨hx, hb, hml, hown, hts⟩, hr, hlocks⟩ := id F
  intro x2 u H locs ls hw hl h
  unfold f_X4_write_a4 at h
  refine lv_iconst (v := 0) hx hb dX4_write_0 rfl ?_
  refine lv_istore_n (lv' := [(3, .int 0), (0, .ref (ad 0)), (1, .ref (ad 4)), (2, .int x2)]) hx hb dX4_write_1 rfl hl (by decide) rfl (fun ls hl => ?_)
  exact w_X4_write_a4_2 F NF _ _ _ _ _ _ hw (lv_sub hl [1, 2, 3, 0] rfl) h
end
theorem c_X4_write_a4 {l : Launch} {G : GX} {ad : Nat → Nat} {x2 : Int32} {u : MS} {z : MS} (h : f_X4_write_a4 x2 u = some z) : MW l yX4_write cX4_write 4 none rmX4_write_a4 G (mw G ad u) (mw G ad z) [.ref (ad 0), .ref (ad 4), .int x2] none := MW.of (by decide) (Nat.le_of_ble_eq_true rfl) (fun p e s m below meth c ls F hw hl => w_X4_write_a4_0 F _ _ _ _ _ hw hl h)
theorem yv_X4_write_a4 : YV RX4 71 yX4_write cX4_write 4 none 2 := ⟨(tw 615 (by decide +kernel) rfl), (tw 6 (by decide +kernel) rfl), (tw 612 (by decide +kernel) rfl), (tw 614 (by decide +kernel) rfl), (tp 14 (by decide +kernel) rfl), by decide +kernel⟩
theorem k_X4_write_a4 {p : Program} {l : Launch} {e : Env} {R : Room} {s : State} {m : MethodId} {args : Array Value} {below : List Frame} {meth : Method} {c : Code} {H : Heap} {locs : List Loc} {cells slots : Nat} {Q : State → Prop} {G : GX} {A : Nat → Prop} {ad : Nat → Nat} {cc : ByteArray} {nL pc : Nat} {y0 : MethodName} {ret0 : Option FieldType} {ls : Array Slot} {rest : List Value} {u : MS} {x2 : Int32} {z : MS} (F : FX p m c cc nL s args y0 ret0 RX4 meth) (hw : WD G A s (mw G ad u) H locs) (h : f_X4_write_a4 x2 u = some z) (hR : rmX4_write_a4.frames + 1 ≤ R.frames ∧ 8 + (4 + 11) + rmX4_write_a4.locals ≤ R.locals) (hcs : cells ≤ R.cells ∧ slots ≤ R.slots) (hsz : ls.size = nL) (hW : (rest.map fun v => v.category).sum ≤ 8) (hdg : decode cc pc = .ok (.invokevirtual 71, 3)) (kk : ∀ (H : Heap) (locs : List Loc), WD G A s (mw G ad z) H locs → W p l e R s m args below meth c H locs cells slots Q (F0 m (pc + 3) ls (rest))) : W p l e R s m args below meth c H locs cells slots Q (F0 m pc ls (.int x2 :: .ref (ad 4) :: .ref (ad 0) :: rest)) := callW (runV F yv_X4_write_a4 (c_X4_write_a4 h) hw.1 hw.2.1 hw.2.2.1 rfl rfl rfl ⟨rfl, rfl⟩ hR hcs rfl hsz rfl hW hdg) hw.2.2.2 hw.2.2.1.own_in (fun H1 l1 hP _ hS => kk H1 l1 ⟨hw.1, hP, hw.2.2.1.addr rfl, hS⟩)
def rmX4_write_a5 : Room := { frames := 0, cells := 0, slots := 0, locals := 0 }
noncomputable def f_X4_write_a5_2 : Nat → Int32 → Int32 → MS → Option (MS)
  | 0, _, _, _ => none
  | n + 1, x2, x3, u => (if x2 ≤ x3 then some u else (if ix x3 8 = true then (if ix (u.1 20) 98460 = true then f_X4_write_a5_2 n x2 (x3 + 1) (mF (mA u 16 (Int32.toNatClampNeg (u.1 20)) (u.2.1 5 (Int32.toNatClampNeg x3))) 20 (((mA u 16 (Int32.toNatClampNeg (u.1 20)) (u.2.1 5 (Int32.toNatClampNeg x3))).1 20) + 1)) else none) else none))
noncomputable def f_X4_write_a5 (x2 : Int32) (u : MS) : Option (MS) := f_X4_write_a5_2 NF x2 0 u
section
variable {p : Program} {l : Launch} {e : Env} {s : State} {m : MethodId} {args : Array Value} {below : List Frame} {meth : Method} {c : Code}
variable {G : GX} {A : Nat → Prop} {ad : Nat → Nat}
set_option maxHeartbeats 4000000 in
set_option maxRecDepth 100000 in
theorem w_X4_write_a5_2 (F : FX p m c cX4_write 4 s args yX4_write none RX4 meth) {z : MS} : ∀ (n : Nat) (x2 : Int32) (x3 : Int32) (u : MS) (H : Heap) (locs : List Loc) (ls : Array Slot), WD G A s (mw G ad u) H locs → lv_has ls 4 [(0, .ref (ad 0)), (1, .ref (ad 5)), (2, .int x2), (3, .int x3)] → f_X4_write_a5_2 n x2 x3 u = some z → W p l e rmX4_write_a5 s m args below meth c H locs 0 0 (MQ below (QW G (mw G ad z) A none) args s 0 0 A) (F0 m 2 ls []) := by
  obtain ⟨⟨hx, hb, hml, hown, hts⟩, hr, hlocks⟩ := id F
  intro n
  induction n with
  | zero =>
    intro x2 x3 u H locs ls hw hl h
    rw [f_X4_write_a5_2] at h
    cases h
  | succ n ih =>
    intro x2 x3 u H locs ls hw hl h
    rw [f_X4_write_a5_2] at h
    refine lv_iload_n hx hb dX4_write_2 rfl (lv_at hl 3 rfl) ?_
    refine lv_iload_n hx hb dX4_write_3 rfl (lv_at hl 2 rfl) ?_
    refine lv_icmp_ge (tgt := 35) hx hb dX4_write_4 rfl (fun c1 => ?_) (fun c1 => ?_)
    · replace h := itT h c1
      cases h
      exact retW_v F hw dX4_write_35
    · replace h := itF h c1
      refine lv_aload_n hx hb dX4_write_7 rfl (lv_at hl 0 rfl) ?_
      refine m_g16 F hw dX4_write_8 ?_
      refine lv_aload_n hx hb dX4_write_11 rfl (lv_at hl 0 rfl) ?_
      refine m_g20 F hw dX4_write_12 ?_
      refine lv_aload_n hx hb dX4_write_15 rfl (lv_at hl 1 rfl) ?_
      refine lv_iload_n hx hb dX4_write_16 rfl (lv_at hl 3 rfl) ?_
      obtain ⟨g2, h⟩ := gd h
      refine m_l5 F hw g2 dX4_write_17 ?_
      obtain ⟨g3, h⟩ := gd h
      refine m_s16 F hw g3 dX4_write_18 (fun H locs hw => ?_)
      refine lv_aload_n hx hb dX4_write_19 rfl (lv_at hl 0 rfl) ?_
      refine lv_dup hx hb dX4_write_20 rfl ?_
      refine m_g20 F hw dX4_write_21 ?_
      refine lv_iconst (v := 1) hx hb dX4_write_24 rfl ?_
      refine lv_iadd hx hb dX4_write_25 ?_
      refine m_p20 F hw dX4_write_26 (fun H locs hw => ?_)
      refine lv_iinc (v := (x3 + 1)) (lv' := [(3, .int (x3 + 1)), (0, .ref (ad 0)), (1, .ref (ad 5)), (2, .int x2)]) hx hb dX4_write_29 hl (k := 3) rfl rfl (by decide) rfl (fun ls hl => ?_)
      refine lv_goto (tgt := 2) hx hb dX4_write_32 rfl ?_
      exact ih _ _ _ _ _ _ hw (lv_sub hl [1, 2, 3, 0] rfl) h
set_option maxHeartbeats 4000000 in
set_option maxRecDepth 100000 in
theorem w_X4_write_a5_0 (F : FX p m c cX4_write 4 s args yX4_write none RX4 meth) {z : MS} : ∀ (x2 : Int32) (u : MS) (H : Heap) (locs : List Loc) (ls : Array Slot), WD G A s (mw G ad u) H locs → lv_has ls 4 [(0, .ref (ad 0)), (1, .ref (ad 5)), (2, .int x2)] → f_X4_write_a5 x2 u = some z → W p l e rmX4_write_a5 s m args below meth c H locs 0 0 (MQ below (QW G (mw G ad z) A none) args s 0 0 A) (F0 m 0 ls []) := by
  obtain ⟨⟨hx, hb, hml, hown, hts⟩, hr, hlocks⟩ := id F
  intro x2 u H locs ls hw hl h
  unfold f_X4_write_a5 at h
  refine lv_iconst (v := 0) hx hb dX4_write_0 rfl ?_
  refine lv_istore_n (lv' := [(3, .int 0), (0, .ref (ad 0)), (1, .ref (ad 5)), (2, .int x2)]) hx hb dX4_write_1 rfl hl (by decide) rfl (fun ls hl => ?_)
  exact w_X4_write_a5_2 F NF _ _ _ _ _ _ hw (lv_sub hl [1, 2, 3, 0] rfl) h
end
theorem c_X4_write_a5 {l : Launch} {G : GX} {ad : Nat → Nat} {x2 : Int32} {u : MS} {z : MS} (h : f_X4_write_a5 x2 u = some z) : MW l yX4_write cX4_write 4 none rmX4_write_a5 G (mw G ad u) (mw G ad z) [.ref (ad 0), .ref (ad 5), .int x2] none := MW.of (by decide) (Nat.le_of_ble_eq_true rfl) (fun p e s m below meth c ls F hw hl => w_X4_write_a5_0 F _ _ _ _ _ hw hl h)
theorem yv_X4_write_a5 : YV RX4 71 yX4_write cX4_write 4 none 2 := ⟨(tw 615 (by decide +kernel) rfl), (tw 6 (by decide +kernel) rfl), (tw 612 (by decide +kernel) rfl), (tw 614 (by decide +kernel) rfl), (tp 14 (by decide +kernel) rfl), by decide +kernel⟩
theorem k_X4_write_a5 {p : Program} {l : Launch} {e : Env} {R : Room} {s : State} {m : MethodId} {args : Array Value} {below : List Frame} {meth : Method} {c : Code} {H : Heap} {locs : List Loc} {cells slots : Nat} {Q : State → Prop} {G : GX} {A : Nat → Prop} {ad : Nat → Nat} {cc : ByteArray} {nL pc : Nat} {y0 : MethodName} {ret0 : Option FieldType} {ls : Array Slot} {rest : List Value} {u : MS} {x2 : Int32} {z : MS} (F : FX p m c cc nL s args y0 ret0 RX4 meth) (hw : WD G A s (mw G ad u) H locs) (h : f_X4_write_a5 x2 u = some z) (hR : rmX4_write_a5.frames + 1 ≤ R.frames ∧ 8 + (4 + 11) + rmX4_write_a5.locals ≤ R.locals) (hcs : cells ≤ R.cells ∧ slots ≤ R.slots) (hsz : ls.size = nL) (hW : (rest.map fun v => v.category).sum ≤ 8) (hdg : decode cc pc = .ok (.invokevirtual 71, 3)) (kk : ∀ (H : Heap) (locs : List Loc), WD G A s (mw G ad z) H locs → W p l e R s m args below meth c H locs cells slots Q (F0 m (pc + 3) ls (rest))) : W p l e R s m args below meth c H locs cells slots Q (F0 m pc ls (.int x2 :: .ref (ad 5) :: .ref (ad 0) :: rest)) := callW (runV F yv_X4_write_a5 (c_X4_write_a5 h) hw.1 hw.2.1 hw.2.2.1 rfl rfl rfl ⟨rfl, rfl⟩ hR hcs rfl hsz rfl hW hdg) hw.2.2.2 hw.2.2.1.own_in (fun H1 l1 hP _ hS => kk H1 l1 ⟨hw.1, hP, hw.2.2.1.addr rfl, hS⟩)
def rmX4_write_a6 : Room := { frames := 0, cells := 0, slots := 0, locals := 0 }
noncomputable def f_X4_write_a6_2 : Nat → Int32 → Int32 → MS → Option (MS)
  | 0, _, _, _ => none
  | n + 1, x2, x3, u => (if x2 ≤ x3 then some u else (if ix x3 8 = true then (if ix (u.1 20) 98460 = true then f_X4_write_a6_2 n x2 (x3 + 1) (mF (mA u 16 (Int32.toNatClampNeg (u.1 20)) (u.2.1 6 (Int32.toNatClampNeg x3))) 20 (((mA u 16 (Int32.toNatClampNeg (u.1 20)) (u.2.1 6 (Int32.toNatClampNeg x3))).1 20) + 1)) else none) else none))
noncomputable def f_X4_write_a6 (x2 : Int32) (u : MS) : Option (MS) := f_X4_write_a6_2 NF x2 0 u
section
variable {p : Program} {l : Launch} {e : Env} {s : State} {m : MethodId} {args : Array Value} {below : List Frame} {meth : Method} {c : Code}
variable {G : GX} {A : Nat → Prop} {ad : Nat → Nat}
set_option maxHeartbeats 4000000 in
set_option maxRecDepth 100000 in
theorem w_X4_write_a6_2 (F : FX p m c cX4_write 4 s args yX4_write none RX4 meth) {z : MS} : ∀ (n : Nat) (x2 : Int32) (x3 : Int32) (u : MS) (H : Heap) (locs : List Loc) (ls : Array Slot), WD G A s (mw G ad u) H locs → lv_has ls 4 [(0, .ref (ad 0)), (1, .ref (ad 6)), (2, .int x2), (3, .int x3)] → f_X4_write_a6_2 n x2 x3 u = some z → W p l e rmX4_write_a6 s m args below meth c H locs 0 0 (MQ below (QW G (mw G ad z) A none) args s 0 0 A) (F0 m 2 ls []) := by
  obtain ⟨⟨hx, hb, hml, hown, hts⟩, hr, hlocks⟩ := id F
  intro n
  induction n with
  | zero =>
    intro x2 x3 u H locs ls hw hl h
    rw [f_X4_write_a6_2] at h
    cases h
  | succ n ih =>
    intro x2 x3 u H locs ls hw hl h
    rw [f_X4_write_a6_2] at h
    refine lv_iload_n hx hb dX4_write_2 rfl (lv_at hl 3 rfl) ?_
    refine lv_iload_n hx hb dX4_write_3 rfl (lv_at hl 2 rfl) ?_
    refine lv_icmp_ge (tgt := 35) hx hb dX4_write_4 rfl (fun c1 => ?_) (fun c1 => ?_)
    · replace h := itT h c1
      cases h
      exact retW_v F hw dX4_write_35
    · replace h := itF h c1
      refine lv_aload_n hx hb dX4_write_7 rfl (lv_at hl 0 rfl) ?_
      refine m_g16 F hw dX4_write_8 ?_
      refine lv_aload_n hx hb dX4_write_11 rfl (lv_at hl 0 rfl) ?_
      refine m_g20 F hw dX4_write_12 ?_
      refine lv_aload_n hx hb dX4_write_15 rfl (lv_at hl 1 rfl) ?_
      refine lv_iload_n hx hb dX4_write_16 rfl (lv_at hl 3 rfl) ?_
      obtain ⟨g2, h⟩ := gd h
      refine m_l6 F hw g2 dX4_write_17 ?_
      obtain ⟨g3, h⟩ := gd h
      refine m_s16 F hw g3 dX4_write_18 (fun H locs hw => ?_)
      refine lv_aload_n hx hb dX4_write_19 rfl (lv_at hl 0 rfl) ?_
      refine lv_dup hx hb dX4_write_20 rfl ?_
      refine m_g20 F hw dX4_write_21 ?_
      refine lv_iconst (v := 1) hx hb dX4_write_24 rfl ?_
      refine lv_iadd hx hb dX4_write_25 ?_
      refine m_p20 F hw dX4_write_26 (fun H locs hw => ?_)
      refine lv_iinc (v := (x3 + 1)) (lv' := [(3, .int (x3 + 1)), (0, .ref (ad 0)), (1, .ref (ad 6)), (2, .int x2)]) hx hb dX4_write_29 hl (k := 3) rfl rfl (by decide) rfl (fun ls hl => ?_)
      refine lv_goto (tgt := 2) hx hb dX4_write_32 rfl ?_
      exact ih _ _ _ _ _ _ hw (lv_sub hl [1, 2, 3, 0] rfl) h
set_option maxHeartbeats 4000000 in
set_option maxRecDepth 100000 in
theorem w_X4_write_a6_0 (F : FX p m c cX4_write 4 s args yX4_write none RX4 meth) {z : MS} : ∀ (x2 : Int32) (u : MS) (H : Heap) (locs : List Loc) (ls : Array Slot), WD G A s (mw G ad u) H locs → lv_has ls 4 [(0, .ref (ad 0)), (1, .ref (ad 6)), (2, .int x2)] → f_X4_write_a6 x2 u = some z → W p l e rmX4_write_a6 s m args below meth c H locs 0 0 (MQ below (QW G (mw G ad z) A none) args s 0 0 A) (F0 m 0 ls []) := by
  obtain ⟨⟨hx, hb, hml, hown, hts⟩, hr, hlocks⟩ := id F
  intro x2 u H locs ls hw hl h
  unfold f_X4_write_a6 at h
  refine lv_iconst (v := 0) hx hb dX4_write_0 rfl ?_
  refine lv_istore_n (lv' := [(3, .int 0), (0, .ref (ad 0)), (1, .ref (ad 6)), (2, .int x2)]) hx hb dX4_write_1 rfl hl (by decide) rfl (fun ls hl => ?_)
  exact w_X4_write_a6_2 F NF _ _ _ _ _ _ hw (lv_sub hl [1, 2, 3, 0] rfl) h
end
theorem c_X4_write_a6 {l : Launch} {G : GX} {ad : Nat → Nat} {x2 : Int32} {u : MS} {z : MS} (h : f_X4_write_a6 x2 u = some z) : MW l yX4_write cX4_write 4 none rmX4_write_a6 G (mw G ad u) (mw G ad z) [.ref (ad 0), .ref (ad 6), .int x2] none := MW.of (by decide) (Nat.le_of_ble_eq_true rfl) (fun p e s m below meth c ls F hw hl => w_X4_write_a6_0 F _ _ _ _ _ hw hl h)
theorem yv_X4_write_a6 : YV RX4 71 yX4_write cX4_write 4 none 2 := ⟨(tw 615 (by decide +kernel) rfl), (tw 6 (by decide +kernel) rfl), (tw 612 (by decide +kernel) rfl), (tw 614 (by decide +kernel) rfl), (tp 14 (by decide +kernel) rfl), by decide +kernel⟩
theorem k_X4_write_a6 {p : Program} {l : Launch} {e : Env} {R : Room} {s : State} {m : MethodId} {args : Array Value} {below : List Frame} {meth : Method} {c : Code} {H : Heap} {locs : List Loc} {cells slots : Nat} {Q : State → Prop} {G : GX} {A : Nat → Prop} {ad : Nat → Nat} {cc : ByteArray} {nL pc : Nat} {y0 : MethodName} {ret0 : Option FieldType} {ls : Array Slot} {rest : List Value} {u : MS} {x2 : Int32} {z : MS} (F : FX p m c cc nL s args y0 ret0 RX4 meth) (hw : WD G A s (mw G ad u) H locs) (h : f_X4_write_a6 x2 u = some z) (hR : rmX4_write_a6.frames + 1 ≤ R.frames ∧ 8 + (4 + 11) + rmX4_write_a6.locals ≤ R.locals) (hcs : cells ≤ R.cells ∧ slots ≤ R.slots) (hsz : ls.size = nL) (hW : (rest.map fun v => v.category).sum ≤ 8) (hdg : decode cc pc = .ok (.invokevirtual 71, 3)) (kk : ∀ (H : Heap) (locs : List Loc), WD G A s (mw G ad z) H locs → W p l e R s m args below meth c H locs cells slots Q (F0 m (pc + 3) ls (rest))) : W p l e R s m args below meth c H locs cells slots Q (F0 m pc ls (.int x2 :: .ref (ad 6) :: .ref (ad 0) :: rest)) := callW (runV F yv_X4_write_a6 (c_X4_write_a6 h) hw.1 hw.2.1 hw.2.2.1 rfl rfl rfl ⟨rfl, rfl⟩ hR hcs rfl hsz rfl hW hdg) hw.2.2.2 hw.2.2.1.own_in (fun H1 l1 hP _ hS => kk H1 l1 ⟨hw.1, hP, hw.2.2.1.addr rfl, hS⟩)
def rmX4_write_a7 : Room := { frames := 0, cells := 0, slots := 0, locals := 0 }
noncomputable def f_X4_write_a7_2 : Nat → Int32 → Int32 → MS → Option (MS)
  | 0, _, _, _ => none
  | n + 1, x2, x3, u => (if x2 ≤ x3 then some u else (if ix x3 4800 = true then (if ix (u.1 20) 98460 = true then f_X4_write_a7_2 n x2 (x3 + 1) (mF (mA u 16 (Int32.toNatClampNeg (u.1 20)) (u.2.1 7 (Int32.toNatClampNeg x3))) 20 (((mA u 16 (Int32.toNatClampNeg (u.1 20)) (u.2.1 7 (Int32.toNatClampNeg x3))).1 20) + 1)) else none) else none))
noncomputable def f_X4_write_a7 (x2 : Int32) (u : MS) : Option (MS) := f_X4_write_a7_2 NF x2 0 u
section
variable {p : Program} {l : Launch} {e : Env} {s : State} {m : MethodId} {args : Array Value} {below : List Frame} {meth : Method} {c : Code}
variable {G : GX} {A : Nat → Prop} {ad : Nat → Nat}
set_option maxHeartbeats 4000000 in
set_option maxRecDepth 100000 in
theorem w_X4_write_a7_2 (F : FX p m c cX4_write 4 s args yX4_write none RX4 meth) {z : MS} : ∀ (n : Nat) (x2 : Int32) (x3 : Int32) (u : MS) (H : Heap) (locs : List Loc) (ls : Array Slot), WD G A s (mw G ad u) H locs → lv_has ls 4 [(0, .ref (ad 0)), (1, .ref (ad 7)), (2, .int x2), (3, .int x3)] → f_X4_write_a7_2 n x2 x3 u = some z → W p l e rmX4_write_a7 s m args below meth c H locs 0 0 (MQ below (QW G (mw G ad z) A none) args s 0 0 A) (F0 m 2 ls []) := by
  obtain ⟨⟨hx, hb, hml, hown, hts⟩, hr, hlocks⟩ := id F
  intro n
  induction n with
  | zero =>
    intro x2 x3 u H locs ls hw hl h
    rw [f_X4_write_a7_2] at h
    cases h
  | succ n ih =>
    intro x2 x3 u H locs ls hw hl h
    rw [f_X4_write_a7_2] at h
    refine lv_iload_n hx hb dX4_write_2 rfl (lv_at hl 3 rfl) ?_
    refine lv_iload_n hx hb dX4_write_3 rfl (lv_at hl 2 rfl) ?_
    refine lv_icmp_ge (tgt := 35) hx hb dX4_write_4 rfl (fun c1 => ?_) (fun c1 => ?_)
    · replace h := itT h c1
      cases h
      exact retW_v F hw dX4_write_35
    · replace h := itF h c1
      refine lv_aload_n hx hb dX4_write_7 rfl (lv_at hl 0 rfl) ?_
      refine m_g16 F hw dX4_write_8 ?_
      refine lv_aload_n hx hb dX4_write_11 rfl (lv_at hl 0 rfl) ?_
      refine m_g20 F hw dX4_write_12 ?_
      refine lv_aload_n hx hb dX4_write_15 rfl (lv_at hl 1 rfl) ?_
      refine lv_iload_n hx hb dX4_write_16 rfl (lv_at hl 3 rfl) ?_
      obtain ⟨g2, h⟩ := gd h
      refine m_l7 F hw g2 dX4_write_17 ?_
      obtain ⟨g3, h⟩ := gd h
      refine m_s16 F hw g3 dX4_write_18 (fun H locs hw => ?_)
      refine lv_aload_n hx hb dX4_write_19 rfl (lv_at hl 0 rfl) ?_
      refine lv_dup hx hb dX4_write_20 rfl ?_
      refine m_g20 F hw dX4_write_21 ?_
      refine lv_iconst (v := 1) hx hb dX4_write_24 rfl ?_
      refine lv_iadd hx hb dX4_write_25 ?_
      refine m_p20 F hw dX4_write_26 (fun H locs hw => ?_)
      refine lv_iinc (v := (x3 + 1)) (lv' := [(3, .int (x3 + 1)), (0, .ref (ad 0)), (1, .ref (ad 7)), (2, .int x2)]) hx hb dX4_write_29 hl (k := 3) rfl rfl (by decide) rfl (fun ls hl => ?_)
      refine lv_goto (tgt := 2) hx hb dX4_write_32 rfl ?_
      exact ih _ _ _ _ _ _ hw (lv_sub hl [1, 2, 3, 0] rfl) h
set_option maxHeartbeats 4000000 in
set_option maxRecDepth 100000 in
theorem w_X4_write_a7_0 (F : FX p m c cX4_write 4 s args yX4_write none RX4 meth) {z : MS} : ∀ (x2 : Int32) (u : MS) (H : Heap) (locs : List Loc) (ls : Array Slot), WD G A s (mw G ad u) H locs → lv_has ls 4 [(0, .ref (ad 0)), (1, .ref (ad 7)), (2, .int x2)] → f_X4_write_a7 x2 u = some z → W p l e rmX4_write_a7 s m args below meth c H locs 0 0 (MQ below (QW G (mw G ad z) A none) args s 0 0 A) (F0 m 0 ls []) := by
  obtain ⟨⟨hx, hb, hml, hown, hts⟩, hr, hlocks⟩ := id F
  intro x2 u H locs ls hw hl h
  unfold f_X4_write_a7 at h
  refine lv_iconst (v := 0) hx hb dX4_write_0 rfl ?_
  refine lv_istore_n (lv' := [(3, .int 0), (0, .ref (ad 0)), (1, .ref (ad 7)), (2, .int x2)]) hx hb dX4_write_1 rfl hl (by decide) rfl (fun ls hl => ?_)
  exact w_X4_write_a7_2 F NF _ _ _ _ _ _ hw (lv_sub hl [1, 2, 3, 0] rfl) h
end
theorem c_X4_write_a7 {l : Launch} {G : GX} {ad : Nat → Nat} {x2 : Int32} {u : MS} {z : MS} (h : f_X4_write_a7 x2 u = some z) : MW l yX4_write cX4_write 4 none rmX4_write_a7 G (mw G ad u) (mw G ad z) [.ref (ad 0), .ref (ad 7), .int x2] none := MW.of (by decide) (Nat.le_of_ble_eq_true rfl) (fun p e s m below meth c ls F hw hl => w_X4_write_a7_0 F _ _ _ _ _ hw hl h)
theorem yv_X4_write_a7 : YV RX4 71 yX4_write cX4_write 4 none 2 := ⟨(tw 615 (by decide +kernel) rfl), (tw 6 (by decide +kernel) rfl), (tw 612 (by decide +kernel) rfl), (tw 614 (by decide +kernel) rfl), (tp 14 (by decide +kernel) rfl), by decide +kernel⟩
theorem k_X4_write_a7 {p : Program} {l : Launch} {e : Env} {R : Room} {s : State} {m : MethodId} {args : Array Value} {below : List Frame} {meth : Method} {c : Code} {H : Heap} {locs : List Loc} {cells slots : Nat} {Q : State → Prop} {G : GX} {A : Nat → Prop} {ad : Nat → Nat} {cc : ByteArray} {nL pc : Nat} {y0 : MethodName} {ret0 : Option FieldType} {ls : Array Slot} {rest : List Value} {u : MS} {x2 : Int32} {z : MS} (F : FX p m c cc nL s args y0 ret0 RX4 meth) (hw : WD G A s (mw G ad u) H locs) (h : f_X4_write_a7 x2 u = some z) (hR : rmX4_write_a7.frames + 1 ≤ R.frames ∧ 8 + (4 + 11) + rmX4_write_a7.locals ≤ R.locals) (hcs : cells ≤ R.cells ∧ slots ≤ R.slots) (hsz : ls.size = nL) (hW : (rest.map fun v => v.category).sum ≤ 8) (hdg : decode cc pc = .ok (.invokevirtual 71, 3)) (kk : ∀ (H : Heap) (locs : List Loc), WD G A s (mw G ad z) H locs → W p l e R s m args below meth c H locs cells slots Q (F0 m (pc + 3) ls (rest))) : W p l e R s m args below meth c H locs cells slots Q (F0 m pc ls (.int x2 :: .ref (ad 7) :: .ref (ad 0) :: rest)) := callW (runV F yv_X4_write_a7 (c_X4_write_a7 h) hw.1 hw.2.1 hw.2.2.1 rfl rfl rfl ⟨rfl, rfl⟩ hR hcs rfl hsz rfl hW hdg) hw.2.2.2 hw.2.2.1.own_in (fun H1 l1 hP _ hS => kk H1 l1 ⟨hw.1, hP, hw.2.2.1.addr rfl, hS⟩)
def rmX4_write_a8 : Room := { frames := 0, cells := 0, slots := 0, locals := 0 }
noncomputable def f_X4_write_a8_2 : Nat → Int32 → Int32 → MS → Option (MS)
  | 0, _, _, _ => none
  | n + 1, x2, x3, u => (if x2 ≤ x3 then some u else (if ix x3 4800 = true then (if ix (u.1 20) 98460 = true then f_X4_write_a8_2 n x2 (x3 + 1) (mF (mA u 16 (Int32.toNatClampNeg (u.1 20)) (u.2.1 8 (Int32.toNatClampNeg x3))) 20 (((mA u 16 (Int32.toNatClampNeg (u.1 20)) (u.2.1 8 (Int32.toNatClampNeg x3))).1 20) + 1)) else none) else none))
noncomputable def f_X4_write_a8 (x2 : Int32) (u : MS) : Option (MS) := f_X4_write_a8_2 NF x2 0 u
section
variable {p : Program} {l : Launch} {e : Env} {s : State} {m : MethodId} {args : Array Value} {below : List Frame} {meth : Method} {c : Code}
variable {G : GX} {A : Nat → Prop} {ad : Nat → Nat}
set_option maxHeartbeats 4000000 in
set_option maxRecDepth 100000 in
theorem w_X4_write_a8_2 (F : FX p m c cX4_write 4 s args yX4_write none RX4 meth) {z : MS} : ∀ (n : Nat) (x2 : Int32) (x3 : Int32) (u : MS) (H : Heap) (locs : List Loc) (ls : Array Slot), WD G A s (mw G ad u) H locs → lv_has ls 4 [(0, .ref (ad 0)), (1, .ref (ad 8)), (2, .int x2), (3, .int x3)] → f_X4_write_a8_2 n x2 x3 u = some z → W p l e rmX4_write_a8 s m args below meth c H locs 0 0 (MQ below (QW G (mw G ad z) A none) args s 0 0 A) (F0 m 2 ls []) := by
  obtain ⟨⟨hx, hb, hml, hown, hts⟩, hr, hlocks⟩ := id F
  intro n
  induction n with
  | zero =>
    intro x2 x3 u H locs ls hw hl h
    rw [f_X4_write_a8_2] at h
    cases h
  | succ n ih =>
    intro x2 x3 u H locs ls hw hl h
    rw [f_X4_write_a8_2] at h
    refine lv_iload_n hx hb dX4_write_2 rfl (lv_at hl 3 rfl) ?_
    refine lv_iload_n hx hb dX4_write_3 rfl (lv_at hl 2 rfl) ?_
    refine lv_icmp_ge (tgt := 35) hx hb dX4_write_4 rfl (fun c1 => ?_) (fun c1 => ?_)
    · replace h := itT h c1
      cases h
      exact retW_v F hw dX4_write_35
    · replace h := itF h c1
      refine lv_aload_n hx hb dX4_write_7 rfl (lv_at hl 0 rfl) ?_
      refine m_g16 F hw dX4_write_8 ?_
      refine lv_aload_n hx hb dX4_write_11 rfl (lv_at hl 0 rfl) ?_
      refine m_g20 F hw dX4_write_12 ?_
      refine lv_aload_n hx hb dX4_write_15 rfl (lv_at hl 1 rfl) ?_
      refine lv_iload_n hx hb dX4_write_16 rfl (lv_at hl 3 rfl) ?_
      obtain ⟨g2, h⟩ := gd h
      refine m_l8 F hw g2 dX4_write_17 ?_
      obtain ⟨g3, h⟩ := gd h
      refine m_s16 F hw g3 dX4_write_18 (fun H locs hw => ?_)
      refine lv_aload_n hx hb dX4_write_19 rfl (lv_at hl 0 rfl) ?_
      refine lv_dup hx hb dX4_write_20 rfl ?_
      refine m_g20 F hw dX4_write_21 ?_
      refine lv_iconst (v := 1) hx hb dX4_write_24 rfl ?_
      refine lv_iadd hx hb dX4_write_25 ?_
      refine m_p20 F hw dX4_write_26 (fun H locs hw => ?_)
      refine lv_iinc (v := (x3 + 1)) (lv' := [(3, .int (x3 + 1)), (0, .ref (ad 0)), (1, .ref (ad 8)), (2, .int x2)]) hx hb dX4_write_29 hl (k := 3) rfl rfl (by decide) rfl (fun ls hl => ?_)
      refine lv_goto (tgt := 2) hx hb dX4_write_32 rfl ?_
      exact ih _ _ _ _ _ _ hw (lv_sub hl [1, 2, 3, 0] rfl) h
set_option maxHeartbeats 4000000 in
set_option maxRecDepth 100000 in
theorem w_X4_write_a8_0 (F : FX p m c cX4_write 4 s args yX4_write none RX4 meth) {z : MS} : ∀ (x2 : Int32) (u : MS) (H : Heap) (locs : List Loc) (ls : Array Slot), WD G A s (mw G ad u) H locs → lv_has ls 4 [(0, .ref (ad 0)), (1, .ref (ad 8)), (2, .int x2)] → f_X4_write_a8 x2 u = some z → W p l e rmX4_write_a8 s m args below meth c H locs 0 0 (MQ below (QW G (mw G ad z) A none) args s 0 0 A) (F0 m 0 ls []) := by
  obtain ⟨⟨hx, hb, hml, hown, hts⟩, hr, hlocks⟩ := id F
  intro x2 u H locs ls hw hl h
  unfold f_X4_write_a8 at h
  refine lv_iconst (v := 0) hx hb dX4_write_0 rfl ?_
  refine lv_istore_n (lv' := [(3, .int 0), (0, .ref (ad 0)), (1, .ref (ad 8)), (2, .int x2)]) hx hb dX4_write_1 rfl hl (by decide) rfl (fun ls hl => ?_)
  exact w_X4_write_a8_2 F NF _ _ _ _ _ _ hw (lv_sub hl [1, 2, 3, 0] rfl) h
end
theorem c_X4_write_a8 {l : Launch} {G : GX} {ad : Nat → Nat} {x2 : Int32} {u : MS} {z : MS} (h : f_X4_write_a8 x2 u = some z) : MW l yX4_write cX4_write 4 none rmX4_write_a8 G (mw G ad u) (mw G ad z) [.ref (ad 0), .ref (ad 8), .int x2] none := MW.of (by decide) (Nat.le_of_ble_eq_true rfl) (fun p e s m below meth c ls F hw hl => w_X4_write_a8_0 F _ _ _ _ _ hw hl h)
theorem yv_X4_write_a8 : YV RX4 71 yX4_write cX4_write 4 none 2 := ⟨(tw 615 (by decide +kernel) rfl), (tw 6 (by decide +kernel) rfl), (tw 612 (by decide +kernel) rfl), (tw 614 (by decide +kernel) rfl), (tp 14 (by decide +kernel) rfl), by decide +kernel⟩
theorem k_X4_write_a8 {p : Program} {l : Launch} {e : Env} {R : Room} {s : State} {m : MethodId} {args : Array Value} {below : List Frame} {meth : Method} {c : Code} {H : Heap} {locs : List Loc} {cells slots : Nat} {Q : State → Prop} {G : GX} {A : Nat → Prop} {ad : Nat → Nat} {cc : ByteArray} {nL pc : Nat} {y0 : MethodName} {ret0 : Option FieldType} {ls : Array Slot} {rest : List Value} {u : MS} {x2 : Int32} {z : MS} (F : FX p m c cc nL s args y0 ret0 RX4 meth) (hw : WD G A s (mw G ad u) H locs) (h : f_X4_write_a8 x2 u = some z) (hR : rmX4_write_a8.frames + 1 ≤ R.frames ∧ 8 + (4 + 11) + rmX4_write_a8.locals ≤ R.locals) (hcs : cells ≤ R.cells ∧ slots ≤ R.slots) (hsz : ls.size = nL) (hW : (rest.map fun v => v.category).sum ≤ 8) (hdg : decode cc pc = .ok (.invokevirtual 71, 3)) (kk : ∀ (H : Heap) (locs : List Loc), WD G A s (mw G ad z) H locs → W p l e R s m args below meth c H locs cells slots Q (F0 m (pc + 3) ls (rest))) : W p l e R s m args below meth c H locs cells slots Q (F0 m pc ls (.int x2 :: .ref (ad 8) :: .ref (ad 0) :: rest)) := callW (runV F yv_X4_write_a8 (c_X4_write_a8 h) hw.1 hw.2.1 hw.2.2.1 rfl rfl rfl ⟨rfl, rfl⟩ hR hcs rfl hsz rfl hW hdg) hw.2.2.2 hw.2.2.1.own_in (fun H1 l1 hP _ hS => kk H1 l1 ⟨hw.1, hP, hw.2.2.1.addr rfl, hS⟩)
def rmX4_write_a11 : Room := { frames := 0, cells := 0, slots := 0, locals := 0 }
noncomputable def f_X4_write_a11_2 : Nat → Int32 → Int32 → MS → Option (MS)
  | 0, _, _, _ => none
  | n + 1, x2, x3, u => (if x2 ≤ x3 then some u else (if ix x3 600 = true then (if ix (u.1 20) 98460 = true then f_X4_write_a11_2 n x2 (x3 + 1) (mF (mA u 16 (Int32.toNatClampNeg (u.1 20)) (u.2.1 11 (Int32.toNatClampNeg x3))) 20 (((mA u 16 (Int32.toNatClampNeg (u.1 20)) (u.2.1 11 (Int32.toNatClampNeg x3))).1 20) + 1)) else none) else none))
noncomputable def f_X4_write_a11 (x2 : Int32) (u : MS) : Option (MS) := f_X4_write_a11_2 NF x2 0 u
section
variable {p : Program} {l : Launch} {e : Env} {s : State} {m : MethodId} {args : Array Value} {below : List Frame} {meth : Method} {c : Code}
variable {G : GX} {A : Nat → Prop} {ad : Nat → Nat}
set_option maxHeartbeats 4000000 in
set_option maxRecDepth 100000 in
theorem w_X4_write_a11_2 (F : FX p m c cX4_write 4 s args yX4_write none RX4 meth) {z : MS} : ∀ (n : Nat) (x2 : Int32) (x3 : Int32) (u : MS) (H : Heap) (locs : List Loc) (ls : Array Slot), WD G A s (mw G ad u) H locs → lv_has ls 4 [(0, .ref (ad 0)), (1, .ref (ad 11)), (2, .int x2), (3, .int x3)] → f_X4_write_a11_2 n x2 x3 u = some z → W p l e rmX4_write_a11 s m args below meth c H locs 0 0 (MQ below (QW G (mw G ad z) A none) args s 0 0 A) (F0 m 2 ls []) := by
  obtain ⟨⟨hx, hb, hml, hown, hts⟩, hr, hlocks⟩ := id F
  intro n
  induction n with
  | zero =>
    intro x2 x3 u H locs ls hw hl h
    rw [f_X4_write_a11_2] at h
    cases h
  | succ n ih =>
    intro x2 x3 u H locs ls hw hl h
    rw [f_X4_write_a11_2] at h
    refine lv_iload_n hx hb dX4_write_2 rfl (lv_at hl 3 rfl) ?_
    refine lv_iload_n hx hb dX4_write_3 rfl (lv_at hl 2 rfl) ?_
    refine lv_icmp_ge (tgt := 35) hx hb dX4_write_4 rfl (fun c1 => ?_) (fun c1 => ?_)
    · replace h := itT h c1
      cases h
      exact retW_v F hw dX4_write_35
    · replace h := itF h c1
      refine lv_aload_n hx hb dX4_write_7 rfl (lv_at hl 0 rfl) ?_
      refine m_g16 F hw dX4_write_8 ?_
      refine lv_aload_n hx hb dX4_write_11 rfl (lv_at hl 0 rfl) ?_
      refine m_g20 F hw dX4_write_12 ?_
      refine lv_aload_n hx hb dX4_write_15 rfl (lv_at hl 1 rfl) ?_
      refine lv_iload_n hx hb dX4_write_16 rfl (lv_at hl 3 rfl) ?_
      obtain ⟨g2, h⟩ := gd h
      refine m_l11 F hw g2 dX4_write_17 ?_
      obtain ⟨g3, h⟩ := gd h
      refine m_s16 F hw g3 dX4_write_18 (fun H locs hw => ?_)
      refine lv_aload_n hx hb dX4_write_19 rfl (lv_at hl 0 rfl) ?_
      refine lv_dup hx hb dX4_write_20 rfl ?_
      refine m_g20 F hw dX4_write_21 ?_
      refine lv_iconst (v := 1) hx hb dX4_write_24 rfl ?_
      refine lv_iadd hx hb dX4_write_25 ?_
      refine m_p20 F hw dX4_write_26 (fun H locs hw => ?_)
      refine lv_iinc (v := (x3 + 1)) (lv' := [(3, .int (x3 + 1)), (0, .ref (ad 0)), (1, .ref (ad 11)), (2, .int x2)]) hx hb dX4_write_29 hl (k := 3) rfl rfl (by decide) rfl (fun ls hl => ?_)
      refine lv_goto (tgt := 2) hx hb dX4_write_32 rfl ?_
      exact ih _ _ _ _ _ _ hw (lv_sub hl [1, 2, 3, 0] rfl) h
set_option maxHeartbeats 4000000 in
set_option maxRecDepth 100000 in
theorem w_X4_write_a11_0 (F : FX p m c cX4_write 4 s args yX4_write none RX4 meth) {z : MS} : ∀ (x2 : Int32) (u : MS) (H : Heap) (locs : List Loc) (ls : Array Slot), WD G A s (mw G ad u) H locs → lv_has ls 4 [(0, .ref (ad 0)), (1, .ref (ad 11)), (2, .int x2)] → f_X4_write_a11 x2 u = some z → W p l e rmX4_write_a11 s m args below meth c H locs 0 0 (MQ below (QW G (mw G ad z) A none) args s 0 0 A) (F0 m 0 ls []) := by
  obtain ⟨⟨hx, hb, hml, hown, hts⟩, hr, hlocks⟩ := id F
  intro x2 u H locs ls hw hl h
  unfold f_X4_write_a11 at h
  refine lv_iconst (v := 0) hx hb dX4_write_0 rfl ?_
  refine lv_istore_n (lv' := [(3, .int 0), (0, .ref (ad 0)), (1, .ref (ad 11)), (2, .int x2)]) hx hb dX4_write_1 rfl hl (by decide) rfl (fun ls hl => ?_)
  exact w_X4_write_a11_2 F NF _ _ _ _ _ _ hw (lv_sub hl [1, 2, 3, 0] rfl) h
end
theorem c_X4_write_a11 {l : Launch} {G : GX} {ad : Nat → Nat} {x2 : Int32} {u : MS} {z : MS} (h : f_X4_write_a11 x2 u = some z) : MW l yX4_write cX4_write 4 none rmX4_write_a11 G (mw G ad u) (mw G ad z) [.ref (ad 0), .ref (ad 11), .int x2] none := MW.of (by decide) (Nat.le_of_ble_eq_true rfl) (fun p e s m below meth c ls F hw hl => w_X4_write_a11_0 F _ _ _ _ _ hw hl h)
theorem yv_X4_write_a11 : YV RX4 71 yX4_write cX4_write 4 none 2 := ⟨(tw 615 (by decide +kernel) rfl), (tw 6 (by decide +kernel) rfl), (tw 612 (by decide +kernel) rfl), (tw 614 (by decide +kernel) rfl), (tp 14 (by decide +kernel) rfl), by decide +kernel⟩
theorem k_X4_write_a11 {p : Program} {l : Launch} {e : Env} {R : Room} {s : State} {m : MethodId} {args : Array Value} {below : List Frame} {meth : Method} {c : Code} {H : Heap} {locs : List Loc} {cells slots : Nat} {Q : State → Prop} {G : GX} {A : Nat → Prop} {ad : Nat → Nat} {cc : ByteArray} {nL pc : Nat} {y0 : MethodName} {ret0 : Option FieldType} {ls : Array Slot} {rest : List Value} {u : MS} {x2 : Int32} {z : MS} (F : FX p m c cc nL s args y0 ret0 RX4 meth) (hw : WD G A s (mw G ad u) H locs) (h : f_X4_write_a11 x2 u = some z) (hR : rmX4_write_a11.frames + 1 ≤ R.frames ∧ 8 + (4 + 11) + rmX4_write_a11.locals ≤ R.locals) (hcs : cells ≤ R.cells ∧ slots ≤ R.slots) (hsz : ls.size = nL) (hW : (rest.map fun v => v.category).sum ≤ 8) (hdg : decode cc pc = .ok (.invokevirtual 71, 3)) (kk : ∀ (H : Heap) (locs : List Loc), WD G A s (mw G ad z) H locs → W p l e R s m args below meth c H locs cells slots Q (F0 m (pc + 3) ls (rest))) : W p l e R s m args below meth c H locs cells slots Q (F0 m pc ls (.int x2 :: .ref (ad 11) :: .ref (ad 0) :: rest)) := callW (runV F yv_X4_write_a11 (c_X4_write_a11 h) hw.1 hw.2.1 hw.2.2.1 rfl rfl rfl ⟨rfl, rfl⟩ hR hcs rfl hsz rfl hW hdg) hw.2.2.2 hw.2.2.1.own_in (fun H1 l1 hP _ hS => kk H1 l1 ⟨hw.1, hP, hw.2.2.1.addr rfl, hS⟩)
def rmX4_write_a12 : Room := { frames := 0, cells := 0, slots := 0, locals := 0 }
noncomputable def f_X4_write_a12_2 : Nat → Int32 → Int32 → MS → Option (MS)
  | 0, _, _, _ => none
  | n + 1, x2, x3, u => (if x2 ≤ x3 then some u else (if ix x3 20 = true then (if ix (u.1 20) 98460 = true then f_X4_write_a12_2 n x2 (x3 + 1) (mF (mA u 16 (Int32.toNatClampNeg (u.1 20)) (u.2.1 12 (Int32.toNatClampNeg x3))) 20 (((mA u 16 (Int32.toNatClampNeg (u.1 20)) (u.2.1 12 (Int32.toNatClampNeg x3))).1 20) + 1)) else none) else none))
noncomputable def f_X4_write_a12 (x2 : Int32) (u : MS) : Option (MS) := f_X4_write_a12_2 NF x2 0 u
section
variable {p : Program} {l : Launch} {e : Env} {s : State} {m : MethodId} {args : Array Value} {below : List Frame} {meth : Method} {c : Code}
variable {G : GX} {A : Nat → Prop} {ad : Nat → Nat}
set_option maxHeartbeats 4000000 in
set_option maxRecDepth 100000 in
theorem w_X4_write_a12_2 (F : FX p m c cX4_write 4 s args yX4_write none RX4 meth) {z : MS} : ∀ (n : Nat) (x2 : Int32) (x3 : Int32) (u : MS) (H : Heap) (locs : List Loc) (ls : Array Slot), WD G A s (mw G ad u) H locs → lv_has ls 4 [(0, .ref (ad 0)), (1, .ref (ad 12)), (2, .int x2), (3, .int x3)] → f_X4_write_a12_2 n x2 x3 u = some z → W p l e rmX4_write_a12 s m args below meth c H locs 0 0 (MQ below (QW G (mw G ad z) A none) args s 0 0 A) (F0 m 2 ls []) := by
  obtain ⟨⟨hx, hb, hml, hown, hts⟩, hr, hlocks⟩ := id F
  intro n
  induction n with
  | zero =>
    intro x2 x3 u H locs ls hw hl h
    rw [f_X4_write_a12_2] at h
    cases h
  | succ n ih =>
    intro x2 x3 u H locs ls hw hl h
    rw [f_X4_write_a12_2] at h
    refine lv_iload_n hx hb dX4_write_2 rfl (lv_at hl 3 rfl) ?_
    refine lv_iload_n hx hb dX4_write_3 rfl (lv_at hl 2 rfl) ?_
    refine lv_icmp_ge (tgt := 35) hx hb dX4_write_4 rfl (fun c1 => ?_) (fun c1 => ?_)
    · replace h := itT h c1
      cases h
      exact retW_v F hw dX4_write_35
    · replace h := itF h c1
      refine lv_aload_n hx hb dX4_write_7 rfl (lv_at hl 0 rfl) ?_
      refine m_g16 F hw dX4_write_8 ?_
      refine lv_aload_n hx hb dX4_write_11 rfl (lv_at hl 0 rfl) ?_
      refine m_g20 F hw dX4_write_12 ?_
      refine lv_aload_n hx hb dX4_write_15 rfl (lv_at hl 1 rfl) ?_
      refine lv_iload_n hx hb dX4_write_16 rfl (lv_at hl 3 rfl) ?_
      obtain ⟨g2, h⟩ := gd h
      refine m_l12 F hw g2 dX4_write_17 ?_
      obtain ⟨g3, h⟩ := gd h
      refine m_s16 F hw g3 dX4_write_18 (fun H locs hw => ?_)
      refine lv_aload_n hx hb dX4_write_19 rfl (lv_at hl 0 rfl) ?_
      refine lv_dup hx hb dX4_write_20 rfl ?_
      refine m_g20 F hw dX4_write_21 ?_
      refine lv_iconst (v := 1) hx hb dX4_write_24 rfl ?_
      refine lv_iadd hx hb dX4_write_25 ?_
      refine m_p20 F hw dX4_write_26 (fun H locs hw => ?_)
      refine lv_iinc (v := (x3 + 1)) (lv' := [(3, .int (x3 + 1)), (0, .ref (ad 0)), (1, .ref (ad 12)), (2, .int x2)]) hx hb dX4_write_29 hl (k := 3) rfl rfl (by decide) rfl (fun ls hl => ?_)
      refine lv_goto (tgt := 2) hx hb dX4_write_32 rfl ?_
      exact ih _ _ _ _ _ _ hw (lv_sub hl [1, 2, 3, 0] rfl) h
set_option maxHeartbeats 4000000 in
set_option maxRecDepth 100000 in
theorem w_X4_write_a12_0 (F : FX p m c cX4_write 4 s args yX4_write none RX4 meth) {z : MS} : ∀ (x2 : Int32) (u : MS) (H : Heap) (locs : List Loc) (ls : Array Slot), WD G A s (mw G ad u) H locs → lv_has ls 4 [(0, .ref (ad 0)), (1, .ref (ad 12)), (2, .int x2)] → f_X4_write_a12 x2 u = some z → W p l e rmX4_write_a12 s m args below meth c H locs 0 0 (MQ below (QW G (mw G ad z) A none) args s 0 0 A) (F0 m 0 ls []) := by
  obtain ⟨⟨hx, hb, hml, hown, hts⟩, hr, hlocks⟩ := id F
  intro x2 u H locs ls hw hl h
  unfold f_X4_write_a12 at h
  refine lv_iconst (v := 0) hx hb dX4_write_0 rfl ?_
  refine lv_istore_n (lv' := [(3, .int 0), (0, .ref (ad 0)), (1, .ref (ad 12)), (2, .int x2)]) hx hb dX4_write_1 rfl hl (by decide) rfl (fun ls hl => ?_)
  exact w_X4_write_a12_2 F NF _ _ _ _ _ _ hw (lv_sub hl [1, 2, 3, 0] rfl) h
end
theorem c_X4_write_a12 {l : Launch} {G : GX} {ad : Nat → Nat} {x2 : Int32} {u : MS} {z : MS} (h : f_X4_write_a12 x2 u = some z) : MW l yX4_write cX4_write 4 none rmX4_write_a12 G (mw G ad u) (mw G ad z) [.ref (ad 0), .ref (ad 12), .int x2] none := MW.of (by decide) (Nat.le_of_ble_eq_true rfl) (fun p e s m below meth c ls F hw hl => w_X4_write_a12_0 F _ _ _ _ _ hw hl h)
theorem yv_X4_write_a12 : YV RX4 71 yX4_write cX4_write 4 none 2 := ⟨(tw 615 (by decide +kernel) rfl), (tw 6 (by decide +kernel) rfl), (tw 612 (by decide +kernel) rfl), (tw 614 (by decide +kernel) rfl), (tp 14 (by decide +kernel) rfl), by decide +kernel⟩
theorem k_X4_write_a12 {p : Program} {l : Launch} {e : Env} {R : Room} {s : State} {m : MethodId} {args : Array Value} {below : List Frame} {meth : Method} {c : Code} {H : Heap} {locs : List Loc} {cells slots : Nat} {Q : State → Prop} {G : GX} {A : Nat → Prop} {ad : Nat → Nat} {cc : ByteArray} {nL pc : Nat} {y0 : MethodName} {ret0 : Option FieldType} {ls : Array Slot} {rest : List Value} {u : MS} {x2 : Int32} {z : MS} (F : FX p m c cc nL s args y0 ret0 RX4 meth) (hw : WD G A s (mw G ad u) H locs) (h : f_X4_write_a12 x2 u = some z) (hR : rmX4_write_a12.frames + 1 ≤ R.frames ∧ 8 + (4 + 11) + rmX4_write_a12.locals ≤ R.locals) (hcs : cells ≤ R.cells ∧ slots ≤ R.slots) (hsz : ls.size = nL) (hW : (rest.map fun v => v.category).sum ≤ 8) (hdg : decode cc pc = .ok (.invokevirtual 71, 3)) (kk : ∀ (H : Heap) (locs : List Loc), WD G A s (mw G ad z) H locs → W p l e R s m args below meth c H locs cells slots Q (F0 m (pc + 3) ls (rest))) : W p l e R s m args below meth c H locs cells slots Q (F0 m pc ls (.int x2 :: .ref (ad 12) :: .ref (ad 0) :: rest)) := callW (runV F yv_X4_write_a12 (c_X4_write_a12 h) hw.1 hw.2.1 hw.2.2.1 rfl rfl rfl ⟨rfl, rfl⟩ hR hcs rfl hsz rfl hW hdg) hw.2.2.2 hw.2.2.1.own_in (fun H1 l1 hP _ hS => kk H1 l1 ⟨hw.1, hP, hw.2.2.1.addr rfl, hS⟩)
def rmX4_write_a13 : Room := { frames := 0, cells := 0, slots := 0, locals := 0 }
noncomputable def f_X4_write_a13_2 : Nat → Int32 → Int32 → MS → Option (MS)
  | 0, _, _, _ => none
  | n + 1, x2, x3, u => (if x2 ≤ x3 then some u else (if ix x3 20 = true then (if ix (u.1 20) 98460 = true then f_X4_write_a13_2 n x2 (x3 + 1) (mF (mA u 16 (Int32.toNatClampNeg (u.1 20)) (u.2.1 13 (Int32.toNatClampNeg x3))) 20 (((mA u 16 (Int32.toNatClampNeg (u.1 20)) (u.2.1 13 (Int32.toNatClampNeg x3))).1 20) + 1)) else none) else none))
noncomputable def f_X4_write_a13 (x2 : Int32) (u : MS) : Option (MS) := f_X4_write_a13_2 NF x2 0 u
section
variable {p : Program} {l : Launch} {e : Env} {s : State} {m : MethodId} {args : Array Value} {below : List Frame} {meth : Method} {c : Code}
variable {G : GX} {A : Nat → Prop} {ad : Nat → Nat}
set_option maxHeartbeats 4000000 in
set_option maxRecDepth 100000 in
theorem w_X4_write_a13_2 (F : FX p m c cX4_write 4 s args yX4_write none RX4 meth) {z : MS} : ∀ (n : Nat) (x2 : Int32) (x3 : Int32) (u : MS) (H : Heap) (locs : List Loc) (ls : Array Slot), WD G A s (mw G ad u) H locs → lv_has ls 4 [(0, .ref (ad 0)), (1, .ref (ad 13)), (2, .int x2), (3, .int x3)] → f_X4_write_a13_2 n x2 x3 u = some z → W p l e rmX4_write_a13 s m args below meth c H locs 0 0 (MQ below (QW G (mw G ad z) A none) args s 0 0 A) (F0 m 2 ls []) := by
  obtain ⟨⟨hx, hb, hml, hown, hts⟩, hr, hlocks⟩ := id F
  intro n
  induction n with
  | zero =>
    intro x2 x3 u H locs ls hw hl h
    rw [f_X4_write_a13_2] at h
    cases h
  | succ n ih =>
    intro x2 x3 u H locs ls hw hl h
    rw [f_X4_write_a13_2] at h
    refine lv_iload_n hx hb dX4_write_2 rfl (lv_at hl 3 rfl) ?_
    refine lv_iload_n hx hb dX4_write_3 rfl (lv_at hl 2 rfl) ?_
    refine lv_icmp_ge (tgt := 35) hx hb dX4_write_4 rfl (fun c1 => ?_) (fun c1 => ?_)
    · replace h := itT h c1
      cases h
      exact retW_v F hw dX4_write_35
    · replace h := itF h c1
      refine lv_aload_n hx hb dX4_write_7 rfl (lv_at hl 0 rfl) ?_
      refine m_g16 F hw dX4_write_8 ?_
      refine lv_aload_n hx hb dX4_write_11 rfl (lv_at hl 0 rfl) ?_
      refine m_g20 F hw dX4_write_12 ?_
      refine lv_aload_n hx hb dX4_write_15 rfl (lv_at hl 1 rfl) ?_
      refine lv_iload_n hx hb dX4_write_16 rfl (lv_at hl 3 rfl) ?_
      obtain ⟨g2, h⟩ := gd h
      refine m_l13 F hw g2 dX4_write_17 ?_
      obtain ⟨g3, h⟩ := gd h
      refine m_s16 F hw g3 dX4_write_18 (fun H locs hw => ?_)
      refine lv_aload_n hx hb dX4_write_19 rfl (lv_at hl 0 rfl) ?_
      refine lv_dup hx hb dX4_write_20 rfl ?_
      refine m_g20 F hw dX4_write_21 ?_
      refine lv_iconst (v := 1) hx hb dX4_write_24 rfl ?_
      refine lv_iadd hx hb dX4_write_25 ?_
      refine m_p20 F hw dX4_write_26 (fun H locs hw => ?_)
      refine lv_iinc (v := (x3 + 1)) (lv' := [(3, .int (x3 + 1)), (0, .ref (ad 0)), (1, .ref (ad 13)), (2, .int x2)]) hx hb dX4_write_29 hl (k := 3) rfl rfl (by decide) rfl (fun ls hl => ?_)
      refine lv_goto (tgt := 2) hx hb dX4_write_32 rfl ?_
      exact ih _ _ _ _ _ _ hw (lv_sub hl [1, 2, 3, 0] rfl) h
set_option maxHeartbeats 4000000 in
set_option maxRecDepth 100000 in
theorem w_X4_write_a13_0 (F : FX p m c cX4_write 4 s args yX4_write none RX4 meth) {z : MS} : ∀ (x2 : Int32) (u : MS) (H : Heap) (locs : List Loc) (ls : Array Slot), WD G A s (mw G ad u) H locs → lv_has ls 4 [(0, .ref (ad 0)), (1, .ref (ad 13)), (2, .int x2)] → f_X4_write_a13 x2 u = some z → W p l e rmX4_write_a13 s m args below meth c H locs 0 0 (MQ below (QW G (mw G ad z) A none) args s 0 0 A) (F0 m 0 ls []) := by
  obtain ⟨⟨hx, hb, hml, hown, hts⟩, hr, hlocks⟩ := id F
  intro x2 u H locs ls hw hl h
  unfold f_X4_write_a13 at h
  refine lv_iconst (v := 0) hx hb dX4_write_0 rfl ?_
  refine lv_istore_n (lv' := [(3, .int 0), (0, .ref (ad 0)), (1, .ref (ad 13)), (2, .int x2)]) hx hb dX4_write_1 rfl hl (by decide) rfl (fun ls hl => ?_)
  exact w_X4_write_a13_2 F NF _ _ _ _ _ _ hw (lv_sub hl [1, 2, 3, 0] rfl) h
end
theorem c_X4_write_a13 {l : Launch} {G : GX} {ad : Nat → Nat} {x2 : Int32} {u : MS} {z : MS} (h : f_X4_write_a13 x2 u = some z) : MW l yX4_write cX4_write 4 none rmX4_write_a13 G (mw G ad u) (mw G ad z) [.ref (ad 0), .ref (ad 13), .int x2] none := MW.of (by decide) (Nat.le_of_ble_eq_true rfl) (fun p e s m below meth c ls F hw hl => w_X4_write_a13_0 F _ _ _ _ _ hw hl h)
theorem yv_X4_write_a13 : YV RX4 71 yX4_write cX4_write 4 none 2 := ⟨(tw 615 (by decide +kernel) rfl), (tw 6 (by decide +kernel) rfl), (tw 612 (by decide +kernel) rfl), (tw 614 (by decide +kernel) rfl), (tp 14 (by decide +kernel) rfl), by decide +kernel⟩
theorem k_X4_write_a13 {p : Program} {l : Launch} {e : Env} {R : Room} {s : State} {m : MethodId} {args : Array Value} {below : List Frame} {meth : Method} {c : Code} {H : Heap} {locs : List Loc} {cells slots : Nat} {Q : State → Prop} {G : GX} {A : Nat → Prop} {ad : Nat → Nat} {cc : ByteArray} {nL pc : Nat} {y0 : MethodName} {ret0 : Option FieldType} {ls : Array Slot} {rest : List Value} {u : MS} {x2 : Int32} {z : MS} (F : FX p m c cc nL s args y0 ret0 RX4 meth) (hw : WD G A s (mw G ad u) H locs) (h : f_X4_write_a13 x2 u = some z) (hR : rmX4_write_a13.frames + 1 ≤ R.frames ∧ 8 + (4 + 11) + rmX4_write_a13.locals ≤ R.locals) (hcs : cells ≤ R.cells ∧ slots ≤ R.slots) (hsz : ls.size = nL) (hW : (rest.map fun v => v.category).sum ≤ 8) (hdg : decode cc pc = .ok (.invokevirtual 71, 3)) (kk : ∀ (H : Heap) (locs : List Loc), WD G A s (mw G ad z) H locs → W p l e R s m args below meth c H locs cells slots Q (F0 m (pc + 3) ls (rest))) : W p l e R s m args below meth c H locs cells slots Q (F0 m pc ls (.int x2 :: .ref (ad 13) :: .ref (ad 0) :: rest)) := callW (runV F yv_X4_write_a13 (c_X4_write_a13 h) hw.1 hw.2.1 hw.2.2.1 rfl rfl rfl ⟨rfl, rfl⟩ hR hcs rfl hsz rfl hW hdg) hw.2.2.2 hw.2.2.1.own_in (fun H1 l1 hP _ hS => kk H1 l1 ⟨hw.1, hP, hw.2.2.1.addr rfl, hS⟩)
def rmX4_write_a14 : Room := { frames := 0, cells := 0, slots := 0, locals := 0 }
noncomputable def f_X4_write_a14_2 : Nat → Int32 → Int32 → MS → Option (MS)
  | 0, _, _, _ => none
  | n + 1, x2, x3, u => (if x2 ≤ x3 then some u else (if ix x3 20 = true then (if ix (u.1 20) 98460 = true then f_X4_write_a14_2 n x2 (x3 + 1) (mF (mA u 16 (Int32.toNatClampNeg (u.1 20)) (u.2.1 14 (Int32.toNatClampNeg x3))) 20 (((mA u 16 (Int32.toNatClampNeg (u.1 20)) (u.2.1 14 (Int32.toNatClampNeg x3))).1 20) + 1)) else none) else none))
noncomputable def f_X4_write_a14 (x2 : Int32) (u : MS) : Option (MS) := f_X4_write_a14_2 NF x2 0 u
section
variable {p : Program} {l : Launch} {e : Env} {s : State} {m : MethodId} {args : Array Value} {below : List Frame} {meth : Method} {c : Code}
variable {G : GX} {A : Nat → Prop} {ad : Nat → Nat}
set_option maxHeartbeats 4000000 in
set_option maxRecDepth 100000 in
theorem w_X4_write_a14_2 (F : FX p m c cX4_write 4 s args yX4_write none RX4 meth) {z : MS} : ∀ (n : Nat) (x2 : Int32) (x3 : Int32) (u : MS) (H : Heap) (locs : List Loc) (ls : Array Slot), WD G A s (mw G ad u) H locs → lv_has ls 4 [(0, .ref (ad 0)), (1, .ref (ad 14)), (2, .int x2), (3, .int x3)] → f_X4_write_a14_2 n x2 x3 u = some z → W p l e rmX4_write_a14 s m args below meth c H locs 0 0 (MQ below (QW G (mw G ad z) A none) args s 0 0 A) (F0 m 2 ls []) := by
  obtain ⟨⟨hx, hb, hml, hown, hts⟩, hr, hlocks⟩ := id F
  intro n
  induction n with
  | zero =>
    intro x2 x3 u H locs ls hw hl h
    rw [f_X4_write_a14_2] at h
    cases h
  | succ n ih =>
    intro x2 x3 u H locs ls hw hl h
    rw [f_X4_write_a14_2] at h
    refine lv_iload_n hx hb dX4_write_2 rfl (lv_at hl 3 rfl) ?_
    refine lv_iload_n hx hb dX4_write_3 rfl (lv_at hl 2 rfl) ?_
    refine lv_icmp_ge (tgt := 35) hx hb dX4_write_4 rfl (fun c1 => ?_) (fun c1 => ?_)
    · replace h := itT h c1
      cases h
      exact retW_v F hw dX4_write_35
    · replace h := itF h c1
      refine lv_aload_n hx hb dX4_write_7 rfl (lv_at hl 0 rfl) ?_
      refine m_g16 F hw dX4_write_8 ?_
      refine lv_aload_n hx hb dX4_write_11 rfl (lv_at hl 0 rfl) ?_
      refine m_g20 F hw dX4_write_12 ?_
      refine lv_aload_n hx hb dX4_write_15 rfl (lv_at hl 1 rfl) ?_
      refine lv_iload_n hx hb dX4_write_16 rfl (lv_at hl 3 rfl) ?_
      obtain ⟨g2, h⟩ := gd h
      refine m_l14 F hw g2 dX4_write_17 ?_
      obtain ⟨g3, h⟩ := gd h
      refine m_s16 F hw g3 dX4_write_18 (fun H locs hw => ?_)
      refine lv_aload_n hx hb dX4_write_19 rfl (lv_at hl 0 rfl) ?_
      refine lv_dup hx hb dX4_write_20 rfl ?_
      refine m_g20 F hw dX4_write_21 ?_
      refine lv_iconst (v := 1) hx hb dX4_write_24 rfl ?_
      refine lv_iadd hx hb dX4_write_25 ?_
      refine m_p20 F hw dX4_write_26 (fun H locs hw => ?_)
      refine lv_iinc (v := (x3 + 1)) (lv' := [(3, .int (x3 + 1)), (0, .ref (ad 0)), (1, .ref (ad 14)), (2, .int x2)]) hx hb dX4_write_29 hl (k := 3) rfl rfl (by decide) rfl (fun ls hl => ?_)
      refine lv_goto (tgt := 2) hx hb dX4_write_32 rfl ?_
      exact ih _ _ _ _ _ _ hw (lv_sub hl [1, 2, 3, 0] rfl) h
set_option maxHeartbeats 4000000 in
set_option maxRecDepth 100000 in
theorem w_X4_write_a14_0 (F : FX p m c cX4_write 4 s args yX4_write none RX4 meth) {z : MS} : ∀ (x2 : Int32) (u : MS) (H : Heap) (locs : List Loc) (ls : Array Slot), WD G A s (mw G ad u) H locs → lv_has ls 4 [(0, .ref (ad 0)), (1, .ref (ad 14)), (2, .int x2)] → f_X4_write_a14 x2 u = some z → W p l e rmX4_write_a14 s m args below meth c H locs 0 0 (MQ below (QW G (mw G ad z) A none) args s 0 0 A) (F0 m 0 ls []) := by
  obtain ⟨⟨hx, hb, hml, hown, hts⟩, hr, hlocks⟩ := id F
  intro x2 u H locs ls hw hl h
  unfold f_X4_write_a14 at h
  refine lv_iconst (v := 0) hx hb dX4_write_0 rfl ?_
  refine lv_istore_n (lv' := [(3, .int 0), (0, .ref (ad 0)), (1, .ref (ad 14)), (2, .int x2)]) hx hb dX4_write_1 rfl hl (by decide) rfl (fun ls hl => ?_)
  exact w_X4_write_a14_2 F NF _ _ _ _ _ _ hw (lv_sub hl [1, 2, 3, 0] rfl) h
end
theorem c_X4_write_a14 {l : Launch} {G : GX} {ad : Nat → Nat} {x2 : Int32} {u : MS} {z : MS} (h : f_X4_write_a14 x2 u = some z) : MW l yX4_write cX4_write 4 none rmX4_write_a14 G (mw G ad u) (mw G ad z) [.ref (ad 0), .ref (ad 14), .int x2] none := MW.of (by decide) (Nat.le_of_ble_eq_true rfl) (fun p e s m below meth c ls F hw hl => w_X4_write_a14_0 F _ _ _ _ _ hw hl h)
theorem yv_X4_write_a14 : YV RX4 71 yX4_write cX4_write 4 none 2 := ⟨(tw 615 (by decide +kernel) rfl), (tw 6 (by decide +kernel) rfl), (tw 612 (by decide +kernel) rfl), (tw 614 (by decide +kernel) rfl), (tp 14 (by decide +kernel) rfl), by decide +kernel⟩
theorem k_X4_write_a14 {p : Program} {l : Launch} {e : Env} {R : Room} {s : State} {m : MethodId} {args : Array Value} {below : List Frame} {meth : Method} {c : Code} {H : Heap} {locs : List Loc} {cells slots : Nat} {Q : State → Prop} {G : GX} {A : Nat → Prop} {ad : Nat → Nat} {cc : ByteArray} {nL pc : Nat} {y0 : MethodName} {ret0 : Option FieldType} {ls : Array Slot} {rest : List Value} {u : MS} {x2 : Int32} {z : MS} (F : FX p m c cc nL s args y0 ret0 RX4 meth) (hw : WD G A s (mw G ad u) H locs) (h : f_X4_write_a14 x2 u = some z) (hR : rmX4_write_a14.frames + 1 ≤ R.frames ∧ 8 + (4 + 11) + rmX4_write_a14.locals ≤ R.locals) (hcs : cells ≤ R.cells ∧ slots ≤ R.slots) (hsz : ls.size = nL) (hW : (rest.map fun v => v.category).sum ≤ 8) (hdg : decode cc pc = .ok (.invokevirtual 71, 3)) (kk : ∀ (H : Heap) (locs : List Loc), WD G A s (mw G ad z) H locs → W p l e R s m args below meth c H locs cells slots Q (F0 m (pc + 3) ls (rest))) : W p l e R s m args below meth c H locs cells slots Q (F0 m pc ls (.int x2 :: .ref (ad 14) :: .ref (ad 0) :: rest)) := callW (runV F yv_X4_write_a14 (c_X4_write_a14 h) hw.1 hw.2.1 hw.2.2.1 rfl rfl rfl ⟨rfl, rfl⟩ hR hcs rfl hsz rfl hW hdg) hw.2.2.2 hw.2.2.1.own_in (fun H1 l1 hP _ hS => kk H1 l1 ⟨hw.1, hP, hw.2.2.1.addr rfl, hS⟩)
/-! ===== X4_read ===== -/
theorem dX4_read_0 : decode cX4_read 0 = .ok (.iconst 0, 1) := by decide +kernel
theorem dX4_read_1 : decode cX4_read 1 = .ok (.istore_n 3, 1) := by decide +kernel
theorem dX4_read_2 : decode cX4_read 2 = .ok (.iload_n 3, 1) := by decide +kernel
theorem dX4_read_3 : decode cX4_read 3 = .ok (.iload_n 2, 1) := by decide +kernel
theorem dX4_read_4 : decode cX4_read 4 = .ok (.if_icmp .ge 31, 3) := by decide +kernel
theorem dX4_read_7 : decode cX4_read 7 = .ok (.aload_n 1, 1) := by decide +kernel
theorem dX4_read_8 : decode cX4_read 8 = .ok (.iload_n 3, 1) := by decide +kernel
theorem dX4_read_9 : decode cX4_read 9 = .ok (.aload_n 0, 1) := by decide +kernel
theorem dX4_read_10 : decode cX4_read 10 = .ok (.getfield 51, 3) := by decide +kernel
theorem dX4_read_13 : decode cX4_read 13 = .ok (.aload_n 0, 1) := by decide +kernel
theorem dX4_read_14 : decode cX4_read 14 = .ok (.getfield 68, 3) := by decide +kernel
theorem dX4_read_17 : decode cX4_read 17 = .ok (.iaload, 1) := by decide +kernel
theorem dX4_read_18 : decode cX4_read 18 = .ok (.iastore, 1) := by decide +kernel
theorem dX4_read_19 : decode cX4_read 19 = .ok (.aload_n 0, 1) := by decide +kernel
theorem dX4_read_20 : decode cX4_read 20 = .ok (.dup, 1) := by decide +kernel
theorem dX4_read_21 : decode cX4_read 21 = .ok (.getfield 68, 3) := by decide +kernel
theorem dX4_read_24 : decode cX4_read 24 = .ok (.iconst 1, 1) := by decide +kernel
theorem dX4_read_25 : decode cX4_read 25 = .ok (.iadd, 1) := by decide +kernel
theorem dX4_read_26 : decode cX4_read 26 = .ok (.putfield 68, 3) := by decide +kernel
theorem dX4_read_29 : decode cX4_read 29 = .ok (.iinc 3 1, 3) := by decide +kernel
theorem dX4_read_32 : decode cX4_read 32 = .ok (.goto (-30), 3) := by decide +kernel
theorem dX4_read_35 : decode cX4_read 35 = .ok (.return_, 1) := by decide +kernel
def rmX4_read_a2 : Room := { frames := 0, cells := 0, slots := 0, locals := 0 }
noncomputable def f_X4_read_a2_2 : Nat → Int32 → Int32 → MS → Option (MS)
  | 0, _, _, _ => none
  | n + 1, x2, x3, u => (if x2 ≤ x3 then some u else (if ix (u.1 20) 98460 = true then (if ix x3 8 = true then f_X4_read_a2_2 n x2 (x3 + 1) (mF (mA u 2 (Int32.toNatClampNeg x3) (u.2.1 16 (Int32.toNatClampNeg (u.1 20)))) 20 (((mA u 2 (Int32.toNatClampNeg x3) (u.2.1 16 (Int32.toNatClampNeg (u.1 20)))).1 20) + 1)) else none) else none))
noncomputable def f_X4_read_a2 (x2 : Int32) (u : MS) : Option (MS) := f_X4_read_a2_2 NF x2 0 u
section
variable {p : Program} {l : Launch} {e : Env} {s : State} {m : MethodId} {args : Array Value} {below : List Frame} {meth : Method} {c : Code}
variable {G : GX} {A : Nat → Prop} {ad : Nat → Nat}
set_option maxHeartbeats 4000000 in
set_option maxRecDepth 100000 in
theorem w_X4_read_a2_2 (F : FX p m c cX4_read 4 s args yX4_read none RX4 meth) {z : MS} : ∀ (n : Nat) (x2 : Int32) (x3 : Int32) (u : MS) (H : Heap) (locs : List Loc) (ls : Array Slot), WD G A s (mw G ad u) H locs → lv_has ls 4 [(0, .ref (ad 0)), (1, .ref (ad 2)), (2, .int x2), (3, .int x3)] → f_X4_read_a2_2 n x2 x3 u = some z → W p l e rmX4_read_a2 s m args below meth c H locs 0 0 (MQ below (QW G (mw G ad z) A none) args s 0 0 A) (F0 m 2 ls []) := by
  obtain ⟨⟨hx, hb, hml, hown, hts⟩, hr, hlocks⟩ := id F
  intro n
  induction n with
  | zero =>
    intro x2 x3 u H locs ls hw hl h
    rw [f_X4_read_a2_2] at h
    cases h
  | succ n ih =>
    intro x2 x3 u H locs ls hw hl h
    rw [f_X4_read_a2_2] at h
    refine lv_iload_n hx hb dX4_read_2 rfl (lv_at hl 3 rfl) ?_
    refine lv_iload_n hx hb dX4_read_3 rfl (lv_at hl 2 rfl) ?_
    refine lv_icmp_ge (tgt := 35) hx hb dX4_read_4 rfl (fun c1 => ?_) (fun c1 => ?_)
    · replace h := itT h c1
      cases h
      exact retW_v F hw dX4_read_35
    · replace h := itF h c1
      refine lv_aload_n hx hb dX4_read_7 rfl (lv_at hl 1 rfl) ?_
      refine lv_iload_n hx hb dX4_read_8 rfl (lv_at hl 3 rfl) ?_
      refine lv_aload_n hx hb dX4_read_9 rfl (lv_at hl 0 rfl) ?_
      refine m_g16 F hw dX4_read_10 ?_
      refine lv_aload_n hx hb dX4_read_13 rfl (lv_at hl 0 rfl) ?_
      refine m_g20 F hw dX4_read_14 ?_
      obtain ⟨g2, h⟩ := gd h
      refine m_l16 F hw g2 dX4_read_17 ?_
      obtain ⟨g3, h⟩ := gd h
      refine m_s2 F hw g3 dX4_read_18 (fun H locs hw => ?_)
      refine lv_aload_n hx hb dX4_read_19 rfl (lv_at hl 0 rfl) ?_
      refine lv_dup hx hb dX4_read_20 rfl ?_
      refine m_g20 F hw dX4_read_21 ?_
      refine lv_iconst (v := 1) hx hb dX4_read_24 rfl ?_
      refine lv_iadd hx hb dX4_read_25 ?_
      refine m_p20 F hw dX4_read_26 (fun H locs hw => ?_)
      refine lv_iinc (v := (x3 + 1)) (lv' := [(3, .int (x3 + 1)), (0, .ref (ad 0)), (1, .ref (ad 2)), (2, .int x2)]) hx hb dX4_read_29 hl (k := 3) rfl rfl (by decide) rfl (fun ls hl => ?_)
      refine lv_goto (tgt := 2) hx hb dX4_read_32 rfl ?_
      exact ih _ _ _ _ _ _ hw (lv_sub hl [1, 2, 3, 0] rfl) h
set_option maxHeartbeats 4000000 in
set_option maxRecDepth 100000 in
theorem w_X4_read_a2_0 (F : FX p m c cX4_read 4 s args yX4_read none RX4 meth) {z : MS} : ∀ (x2 : Int32) (u : MS) (H : Heap) (locs : List Loc) (ls : Array Slot), WD G A s (mw G ad u) H locs → lv_has ls 4 [(0, .ref (ad 0)), (1, .ref (ad 2)), (2, .int x2)] → f_X4_read_a2 x2 u = some z → W p l e rmX4_read_a2 s m args below meth c H locs 0 0 (MQ below (QW G (mw G ad z) A none) args s 0 0 A) (F0 m 0 ls []) := by
  obtain ⟨⟨hx, hb, hml, hown, hts⟩, hr, hlocks⟩ := id F
  intro x2 u H locs ls hw hl h
  unfold f_X4_read_a2 at h
  refine lv_iconst (v := 0) hx hb dX4_read_0 rfl ?_
  refine lv_istore_n (lv' := [(3, .int 0), (0, .ref (ad 0)), (1, .ref (ad 2)), (2, .int x2)]) hx hb dX4_read_1 rfl hl (by decide) rfl (fun ls hl => ?_)
  exact w_X4_read_a2_2 F NF _ _ _ _ _ _ hw (lv_sub hl [1, 2, 3, 0] rfl) h
end
theorem c_X4_read_a2 {l : Launch} {G : GX} {ad : Nat → Nat} {x2 : Int32} {u : MS} {z : MS} (h : f_X4_read_a2 x2 u = some z) : MW l yX4_read cX4_read 4 none rmX4_read_a2 G (mw G ad u) (mw G ad z) [.ref (ad 0), .ref (ad 2), .int x2] none := MW.of (by decide) (Nat.le_of_ble_eq_true rfl) (fun p e s m below meth c ls F hw hl => w_X4_read_a2_0 F _ _ _ _ _ hw hl h)
theorem yv_X4_read_a2 : YV RX4 78 yX4_read cX4_read 4 none 2 := ⟨(tw 600 (by decide +kernel) rfl), (tw 6 (by decide +kernel) rfl), (tw 597 (by decide +kernel) rfl), (tw 599 (by decide +kernel) rfl), (tp 12 (by decide +kernel) rfl), by decide +kernel⟩
theorem k_X4_read_a2 {p : Program} {l : Launch} {e : Env} {R : Room} {s : State} {m : MethodId} {args : Array Value} {below : List Frame} {meth : Method} {c : Code} {H : Heap} {locs : List Loc} {cells slots : Nat} {Q : State → Prop} {G : GX} {A : Nat → Prop} {ad : Nat → Nat} {cc : ByteArray} {nL pc : Nat} {y0 : MethodName} {ret0 : Option FieldType} {ls : Array Slot} {rest : List Value} {u : MS} {x2 : Int32} {z : MS} (F : FX p m c cc nL s args y0 ret0 RX4 meth) (hw : WD G A s (mw G ad u) H locs) (h : f_X4_read_a2 x2 u = some z) (hR : rmX4_read_a2.frames + 1 ≤ R.frames ∧ 8 + (4 + 11) + rmX4_read_a2.locals ≤ R.locals) (hcs : cells ≤ R.cells ∧ slots ≤ R.slots) (hsz : ls.size = nL) (hW : (rest.map fun v => v.category).sum ≤ 8) (hdg : decode cc pc = .ok (.invokevirtual 78, 3)) (kk : ∀ (H : Heap) (locs : List Loc), WD G A s (mw G ad z) H locs → W p l e R s m args below meth c H locs cells slots Q (F0 m (pc + 3) ls (rest))) : W p l e R s m args below meth c H locs cells slots Q (F0 m pc ls (.int x2 :: .ref (ad 2) :: .ref (ad 0) :: rest)) := callW (runV F yv_X4_read_a2 (c_X4_read_a2 h) hw.1 hw.2.1 hw.2.2.1 rfl rfl rfl ⟨rfl, rfl⟩ hR hcs rfl hsz rfl hW hdg) hw.2.2.2 hw.2.2.1.own_in (fun H1 l1 hP _ hS => kk H1 l1 ⟨hw.1, hP, hw.2.2.1.addr rfl, hS⟩)
def rmX4_read_a3 : Room := { frames := 0, cells := 0, slots := 0, locals := 0 }
noncomputable def f_X4_read_a3_2 : Nat → Int32 → Int32 → MS → Option (MS)
  | 0, _, _, _ => none
  | n + 1, x2, x3, u => (if x2 ≤ x3 then some u else (if ix (u.1 20) 98460 = true then (if ix x3 8 = true then f_X4_read_a3_2 n x2 (x3 + 1) (mF (mA u 3 (Int32.toNatClampNeg x3) (u.2.1 16 (Int32.toNatClampNeg (u.1 20)))) 20 (((mA u 3 (Int32.toNatClampNeg x3) (u.2.1 16 (Int32.toNatClampNeg (u.1 20)))).1 20) + 1)) else none) else none))
noncomputable def f_X4_read_a3 (x2 : Int32) (u : MS) : Option (MS) := f_X4_read_a3_2 NF x2 0 u
section
variable {p : Program} {l : Launch} {e : Env} {s : State} {m : MethodId} {args : Array Value} {below : List Frame} {meth : Method} {c : Code}
variable {G : GX} {A : Nat → Prop} {ad : Nat → Nat}
set_option maxHeartbeats 4000000 in
set_option maxRecDepth 100000 in
theorem w_X4_read_a3_2 (F : FX p m c cX4_read 4 s args yX4_read none RX4 meth) {z : MS} : ∀ (n : Nat) (x2 : Int32) (x3 : Int32) (u : MS) (H : Heap) (locs : List Loc) (ls : Array Slot), WD G A s (mw G ad u) H locs → lv_has ls 4 [(0, .ref (ad 0)), (1, .ref (ad 3)), (2, .int x2), (3, .int x3)] → f_X4_read_a3_2 n x2 x3 u = some z → W p l e rmX4_read_a3 s m args below meth c H locs 0 0 (MQ below (QW G (mw G ad z) A none) args s 0 0 A) (F0 m 2 ls []) := by
  obtain ⟨⟨hx, hb, hml, hown, hts⟩, hr, hlocks⟩ := id F
  intro n
  induction n with
  | zero =>
    intro x2 x3 u H locs ls hw hl h
    rw [f_X4_read_a3_2] at h
    cases h
  | succ n ih =>
    intro x2 x3 u H locs ls hw hl h
    rw [f_X4_read_a3_2] at h
    refine lv_iload_n hx hb dX4_read_2 rfl (lv_at hl 3 rfl) ?_
    refine lv_iload_n hx hb dX4_read_3 rfl (lv_at hl 2 rfl) ?_
    refine lv_icmp_ge (tgt := 35) hx hb dX4_read_4 rfl (fun c1 => ?_) (fun c1 => ?_)
    · replace h := itT h c1
      cases h
      exact retW_v F hw dX4_read_35
    · replace h := itF h c1
      refine lv_aload_n hx hb dX4_read_7 rfl (lv_at hl 1 rfl) ?_
      refine lv_iload_n hx hb dX4_read_8 rfl (lv_at hl 3 rfl) ?_
      refine lv_aload_n hx hb dX4_read_9 rfl (lv_at hl 0 rfl) ?_
      refine m_g16 F hw dX4_read_10 ?_
      refine lv_aload_n hx hb dX4_read_13 rfl (lv_at hl 0 rfl) ?_
      refine m_g20 F hw dX4_read_14 ?_
      obtain ⟨g2, h⟩ := gd h
      refine m_l16 F hw g2 dX4_read_17 ?_
      obtain ⟨g3, h⟩ := gd h
      refine m_s3 F hw g3 dX4_read_18 (fun H locs hw => ?_)
      refine lv_aload_n hx hb dX4_read_19 rfl (lv_at hl 0 rfl) ?_
      refine lv_dup hx hb dX4_read_20 rfl ?_
      refine m_g20 F hw dX4_read_21 ?_
      refine lv_iconst (v := 1) hx hb dX4_read_24 rfl ?_
      refine lv_iadd hx hb dX4_read_25 ?_
      refine m_p20 F hw dX4_read_26 (fun H locs hw => ?_)
      refine lv_iinc (v := (x3 + 1)) (lv' := [(3, .int (x3 + 1)), (0, .ref (ad 0)), (1, .ref (ad 3)), (2, .int x2)]) hx hb dX4_read_29 hl (k := 3) rfl rfl (by decide) rfl (fun ls hl => ?_)
      refine lv_goto (tgt := 2) hx hb dX4_read_32 rfl ?_
      exact ih _ _ _ _ _ _ hw (lv_sub hl [1, 2, 3, 0] rfl) h
set_option maxHeartbeats 4000000 in
set_option maxRecDepth 100000 in
theorem w_X4_read_a3_0 (F : FX p m c cX4_read 4 s args yX4_read none RX4 meth) {z : MS} : ∀ (x2 : Int32) (u : MS) (H : Heap) (locs : List Loc) (ls : Array Slot), WD G A s (mw G ad u) H locs → lv_has ls 4 [(0, .ref (ad 0)), (1, .ref (ad 3)), (2, .int x2)] → f_X4_read_a3 x2 u = some z → W p l e rmX4_read_a3 s m args below meth c H locs 0 0 (MQ below (QW G (mw G ad z) A none) args s 0 0 A) (F0 m 0 ls []) := by
  obtain ⟨⟨hx, hb, hml, hown, hts⟩, hr, hlocks⟩ := id F
  intro x2 u H locs ls hw hl h
  unfold f_X4_read_a3 at h
  refine lv_iconst (v := 0) hx hb dX4_read_0 rfl ?_
  refine lv_istore_n (lv' := [(3, .int 0), (0, .ref (ad 0)), (1, .ref (ad 3)), (2, .int x2)]) hx hb dX4_read_1 rfl hl (by decide) rfl (fun ls hl => ?_)
  exact w_X4_read_a3_2 F NF _ _ _ _ _ _ hw (lv_sub hl [1, 2, 3, 0] rfl) h
end
theorem c_X4_read_a3 {l : Launch} {G : GX} {ad : Nat → Nat} {x2 : Int32} {u : MS} {z : MS} (h : f_X4_read_a3 x2 u = some z) : MW l yX4_read cX4_read 4 none rmX4_read_a3 G (mw G ad u) (mw G ad z) [.ref (ad 0), .ref (ad 3), .int x2] none := MW.of (by decide) (Nat.le_of_ble_eq_true rfl) (fun p e s m below meth c ls F hw hl => w_X4_read_a3_0 F _ _ _ _ _ hw hl h)
theorem yv_X4_read_a3 : YV RX4 78 yX4_read cX4_read 4 none 2 := ⟨(tw 600 (by decide +kernel) rfl), (tw 6 (by decide +kernel) rfl), (tw 597 (by decide +kernel) rfl), (tw 599 (by decide +kernel) rfl), (tp 12 (by decide +kernel) rfl), by decide +kernel⟩
theorem k_X4_read_a3 {p : Program} {l : Launch} {e : Env} {R : Room} {s : State} {m : MethodId} {args : Array Value} {below : List Frame} {meth : Method} {c : Code} {H : Heap} {locs : List Loc} {cells slots : Nat} {Q : State → Prop} {G : GX} {A : Nat → Prop} {ad : Nat → Nat} {cc : ByteArray} {nL pc : Nat} {y0 : MethodName} {ret0 : Option FieldType} {ls : Array Slot} {rest : List Value} {u : MS} {x2 : Int32} {z : MS} (F : FX p m c cc nL s args y0 ret0 RX4 meth) (hw : WD G A s (mw G ad u) H locs) (h : f_X4_read_a3 x2 u = some z) (hR : rmX4_read_a3.frames + 1 ≤ R.frames ∧ 8 + (4 + 11) + rmX4_read_a3.locals ≤ R.locals) (hcs : cells ≤ R.cells ∧ slots ≤ R.slots) (hsz : ls.size = nL) (hW : (rest.map fun v => v.category).sum ≤ 8) (hdg : decode cc pc = .ok (.invokevirtual 78, 3)) (kk : ∀ (H : Heap) (locs : List Loc), WD G A s (mw G ad z) H locs → W p l e R s m args below meth c H locs cells slots Q (F0 m (pc + 3) ls (rest))) : W p l e R s m args below meth c H locs cells slots Q (F0 m pc ls (.int x2 :: .ref (ad 3) :: .ref (ad 0) :: rest)) := callW (runV F yv_X4_read_a3 (c_X4_read_a3 h) hw.1 hw.2.1 hw.2.2.1 rfl rfl rfl ⟨rfl, rfl⟩ hR hcs rfl hsz rfl hW hdg) hw.2.2.2 hw.2.2.1.own_in (fun H1 l1 hP _ hS => kk H1 l1 ⟨hw.1, hP, hw.2.2.1.addr rfl, hS⟩)
def rmX4_read_a4 : Room := { frames := 0, cells := 0, slots := 0, locals := 0 }
noncomputable def f_X4_read_a4_2 : Nat → Int32 → Int32 → MS → Option (MS)
  | 0, _, _, _ => none
  | n + 1, x2, x3, u => (if x2 ≤ x3 then some u else (if ix (u.1 20) 98460 = true then (if ix x3 8 = true then f_X4_read_a4_2 n x2 (x3 + 1) (mF (mA u 4 (Int32.toNatClampNeg x3) (u.2.1 16 (Int32.toNatClampNeg (u.1 20)))) 20 (((mA u 4 (Int32.toNatClampNeg x3) (u.2.1 16 (Int32.toNatClampNeg (u.1 20)))).1 20) + 1)) else none) else none))
noncomputable def f_X4_read_a4 (x2 : Int32) (u : MS) : Option (MS) := f_X4_read_a4_2 NF x2 0 u
section
variable {p : Program} {l : Launch} {e : Env} {s : State} {m : MethodId} {args : Array Value} {below : List Frame} {meth : Method} {c : Code}
variable {G : GX} {A : Nat → Prop} {ad : Nat → Nat}
set_option maxHeartbeats 4000000 in
set_option maxRecDepth 100000 in
theorem w_X4_read_a4_2 (F : FX p m c cX4_read 4 s args yX4_read none RX4 meth) {z : MS} : ∀ (n : Nat) (x2 : Int32) (x3 : Int32) (u : MS) (H : Heap) (locs : List Loc) (ls : Array Slot), WD G A s (mw G ad u) H locs → lv_has ls 4 [(0, .ref (ad 0)), (1, .ref (ad 4)), (2, .int x2), (3, .int x3)] → f_X4_read_a4_2 n x2 x3 u = some z → W p l e rmX4_read_a4 s m args below meth c H locs 0 0 (MQ below (QW G (mw G ad z) A none) args s 0 0 A) (F0 m 2 ls []) := by
  obtain ⟨⟨hx, hb, hml, hown, hts⟩, hr, hlocks⟩ := id F
  intro n
  induction n with
  | zero =>
    intro x2 x3 u H locs ls hw hl h
    rw [f_X4_read_a4_2] at h
    cases h
  | succ n ih =>
    intro x2 x3 u H locs ls hw hl h
    rw [f_X4_read_a4_2] at h
    refine lv_iload_n hx hb dX4_read_2 rfl (lv_at hl 3 rfl) ?_
    refine lv_iload_n hx hb dX4_read_3 rfl (lv_at hl 2 rfl) ?_
    refine lv_icmp_ge (tgt := 35) hx hb dX4_read_4 rfl (fun c1 => ?_) (fun c1 => ?_)
    · replace h := itT h c1
      cases h
      exact retW_v F hw dX4_read_35
    · replace h := itF h c1
      refine lv_aload_n hx hb dX4_read_7 rfl (lv_at hl 1 rfl) ?_
      refine lv_iload_n hx hb dX4_read_8 rfl (lv_at hl 3 rfl) ?_
      refine lv_aload_n hx hb dX4_read_9 rfl (lv_at hl 0 rfl) ?_
      refine m_g16 F hw dX4_read_10 ?_
      refine lv_aload_n hx hb dX4_read_13 rfl (lv_at hl 0 rfl) ?_
      refine m_g20 F hw dX4_read_14 ?_
      obtain ⟨g2, h⟩ := gd h
      refine m_l16 F hw g2 dX4_read_17 ?_
      obtain ⟨g3, h⟩ := gd h
      refine m_s4 F hw g3 dX4_read_18 (fun H locs hw => ?_)
      refine lv_aload_n hx hb dX4_read_19 rfl (lv_at hl 0 rfl) ?_
      refine lv_dup hx hb dX4_read_20 rfl ?_
      refine m_g20 F hw dX4_read_21 ?_
      refine lv_iconst (v := 1) hx hb dX4_read_24 rfl ?_
      refine lv_iadd hx hb dX4_read_25 ?_
      refine m_p20 F hw dX4_read_26 (fun H locs hw => ?_)
      refine lv_iinc (v := (x3 + 1)) (lv' := [(3, .int (x3 + 1)), (0, .ref (ad 0)), (1, .ref (ad 4)), (2, .int x2)]) hx hb dX4_read_29 hl (k := 3) rfl rfl (by decide) rfl (fun ls hl => ?_)
      refine lv_goto (tgt := 2) hx hb dX4_read_32 rfl ?_
      exact ih _ _ _ _ _ _ hw (lv_sub hl [1, 2, 3, 0] rfl) h
set_option maxHeartbeats 4000000 in
set_option maxRecDepth 100000 in
theorem w_X4_read_a4_0 (F : FX p m c cX4_read 4 s args yX4_read none RX4 meth) {z : MS} : ∀ (x2 : Int32) (u : MS) (H : Heap) (locs : List Loc) (ls : Array Slot), WD G A s (mw G ad u) H locs → lv_has ls 4 [(0, .ref (ad 0)), (1, .ref (ad 4)), (2, .int x2)] → f_X4_read_a4 x2 u = some z → W p l e rmX4_read_a4 s m args below meth c H locs 0 0 (MQ below (QW G (mw G ad z) A none) args s 0 0 A) (F0 m 0 ls []) := by
  obtain ⟨⟨hx, hb, hml, hown, hts⟩, hr, hlocks⟩ := id F
  intro x2 u H locs ls hw hl h
  unfold f_X4_read_a4 at h
  refine lv_iconst (v := 0) hx hb dX4_read_0 rfl ?_
  refine lv_istore_n (lv' := [(3, .int 0), (0, .ref (ad 0)), (1, .ref (ad 4)), (2, .int x2)]) hx hb dX4_read_1 rfl hl (by decide) rfl (fun ls hl => ?_)
  exact w_X4_read_a4_2 F NF _ _ _ _ _ _ hw (lv_sub hl [1, 2, 3, 0] rfl) h
end
theorem c_X4_read_a4 {l : Launch} {G : GX} {ad : Nat → Nat} {x2 : Int32} {u : MS} {z : MS} (h : f_X4_read_a4 x2 u = some z) : MW l yX4_read cX4_read 4 none rmX4_read_a4 G (mw G ad u) (mw G ad z) [.ref (ad 0), .ref (ad 4), .int x2] none := MW.of (by decide) (Nat.le_of_ble_eq_true rfl) (fun p e s m below meth c ls F hw hl => w_X4_read_a4_0 F _ _ _ _ _ hw hl h)
theorem yv_X4_read_a4 : YV RX4 78 yX4_read cX4_read 4 none 2 := ⟨(tw 600 (by decide +kernel) rfl), (tw 6 (by decide +kernel) rfl), (tw 597 (by decide +kernel) rfl), (tw 599 (by decide +kernel) rfl), (tp 12 (by decide +kernel) rfl), by decide +kernel⟩
theorem k_X4_read_a4 {p : Program} {l : Launch} {e : Env} {R : Room} {s : State} {m : MethodId} {args : Array Value} {below : List Frame} {meth : Method} {c : Code} {H : Heap} {locs : List Loc} {cells slots : Nat} {Q : State → Prop} {G : GX} {A : Nat → Prop} {ad : Nat → Nat} {cc : ByteArray} {nL pc : Nat} {y0 : MethodName} {ret0 : Option FieldType} {ls : Array Slot} {rest : List Value} {u : MS} {x2 : Int32} {z : MS} (F : FX p m c cc nL s args y0 ret0 RX4 meth) (hw : WD G A s (mw G ad u) H locs) (h : f_X4_read_a4 x2 u = some z) (hR : rmX4_read_a4.frames + 1 ≤ R.frames ∧ 8 + (4 + 11) + rmX4_read_a4.locals ≤ R.locals) (hcs : cells ≤ R.cells ∧ slots ≤ R.slots) (hsz : ls.size = nL) (hW : (rest.map fun v => v.category).sum ≤ 8) (hdg : decode cc pc = .ok (.invokevirtual 78, 3)) (kk : ∀ (H : Heap) (locs : List Loc), WD G A s (mw G ad z) H locs → W p l e R s m args below meth c H locs cells slots Q (F0 m (pc + 3) ls (rest))) : W p l e R s m args below meth c H locs cells slots Q (F0 m pc ls (.int x2 :: .ref (ad 4) :: .ref (ad 0) :: rest)) := callW (runV F yv_X4_read_a4 (c_X4_read_a4 h) hw.1 hw.2.1 hw.2.2.1 rfl rfl rfl ⟨rfl, rfl⟩ hR hcs rfl hsz rfl hW hdg) hw.2.2.2 hw.2.2.1.own_in (fun H1 l1 hP _ hS => kk H1 l1 ⟨hw.1, hP, hw.2.2.1.addr rfl, hS⟩)
def rmX4_read_a5 : Room := { frames := 0, cells := 0, slots := 0, locals := 0 }
noncomputable def f_X4_read_a5_2 : Nat → Int32 → Int32 → MS → Option (MS)
  | 0, _, _, _ => none
  | n + 1, x2, x3, u => (if x2 ≤ x3 then some u else (if ix (u.1 20) 98460 = true then (if ix x3 8 = true then f_X4_read_a5_2 n x2 (x3 + 1) (mF (mA u 5 (Int32.toNatClampNeg x3) (u.2.1 16 (Int32.toNatClampNeg (u.1 20)))) 20 (((mA u 5 (Int32.toNatClampNeg x3) (u.2.1 16 (Int32.toNatClampNeg (u.1 20)))).1 20) + 1)) else none) else none))
noncomputable def f_X4_read_a5 (x2 : Int32) (u : MS) : Option (MS) := f_X4_read_a5_2 NF x2 0 u
section
variable {p : Program} {l : Launch} {e : Env} {s : State} {m : MethodId} {args : Array Value} {below : List Frame} {meth : Method} {c : Code}
variable {G : GX} {A : Nat → Prop} {ad : Nat → Nat}
set_option maxHeartbeats 4000000 in
set_option maxRecDepth 100000 in
theorem w_X4_read_a5_2 (F : FX p m c cX4_read 4 s args yX4_read none RX4 meth) {z : MS} : ∀ (n : Nat) (x2 : Int32) (x3 : Int32) (u : MS) (H : Heap) (locs : List Loc) (ls : Array Slot), WD G A s (mw G ad u) H locs → lv_has ls 4 [(0, .ref (ad 0)), (1, .ref (ad 5)), (2, .int x2), (3, .int x3)] → f_X4_read_a5_2 n x2 x3 u = some z → W p l e rmX4_read_a5 s m args below meth c H locs 0 0 (MQ below (QW G (mw G ad z) A none) args s 0 0 A) (F0 m 2 ls []) := by
  obtain ⟨⟨hx, hb, hml, hown, hts⟩, hr, hlocks⟩ := id F
  intro n
  induction n with
  | zero =>
    intro x2 x3 u H locs ls hw hl h
    rw [f_X4_read_a5_2] at h
    cases h
  | succ n ih =>
    intro x2 x3 u H locs ls hw hl h
    rw [f_X4_read_a5_2] at h
    refine lv_iload_n hx hb dX4_read_2 rfl (lv_at hl 3 rfl) ?_
    refine lv_iload_n hx hb dX4_read_3 rfl (lv_at hl 2 rfl) ?_
    refine lv_icmp_ge (tgt := 35) hx hb dX4_read_4 rfl (fun c1 => ?_) (fun c1 => ?_)
    · replace h := itT h c1
      cases h
      exact retW_v F hw dX4_read_35
    · replace h := itF h c1
      refine lv_aload_n hx hb dX4_read_7 rfl (lv_at hl 1 rfl) ?_
      refine lv_iload_n hx hb dX4_read_8 rfl (lv_at hl 3 rfl) ?_
      refine lv_aload_n hx hb dX4_read_9 rfl (lv_at hl 0 rfl) ?_
      refine m_g16 F hw dX4_read_10 ?_
      refine lv_aload_n hx hb dX4_read_13 rfl (lv_at hl 0 rfl) ?_
      refine m_g20 F hw dX4_read_14 ?_
      obtain ⟨g2, h⟩ := gd h
      refine m_l16 F hw g2 dX4_read_17 ?_
      obtain ⟨g3, h⟩ := gd h
      refine m_s5 F hw g3 dX4_read_18 (fun H locs hw => ?_)
      refine lv_aload_n hx hb dX4_read_19 rfl (lv_at hl 0 rfl) ?_
      refine lv_dup hx hb dX4_read_20 rfl ?_
      refine m_g20 F hw dX4_read_21 ?_
      refine lv_iconst (v := 1) hx hb dX4_read_24 rfl ?_
      refine lv_iadd hx hb dX4_read_25 ?_
      refine m_p20 F hw dX4_read_26 (fun H locs hw => ?_)
      refine lv_iinc (v := (x3 + 1)) (lv' := [(3, .int (x3 + 1)), (0, .ref (ad 0)), (1, .ref (ad 5)), (2, .int x2)]) hx hb dX4_read_29 hl (k := 3) rfl rfl (by decide) rfl (fun ls hl => ?_)
      refine lv_goto (tgt := 2) hx hb dX4_read_32 rfl ?_
      exact ih _ _ _ _ _ _ hw (lv_sub hl [1, 2, 3, 0] rfl) h
set_option maxHeartbeats 4000000 in
set_option maxRecDepth 100000 in
theorem w_X4_read_a5_0 (F : FX p m c cX4_read 4 s args yX4_read none RX4 meth) {z : MS} : ∀ (x2 : Int32) (u : MS) (H : Heap) (locs : List Loc) (ls : Array Slot), WD G A s (mw G ad u) H locs → lv_has ls 4 [(0, .ref (ad 0)), (1, .ref (ad 5)), (2, .int x2)] → f_X4_read_a5 x2 u = some z → W p l e rmX4_read_a5 s m args below meth c H locs 0 0 (MQ below (QW G (mw G ad z) A none) args s 0 0 A) (F0 m 0 ls []) := by
  obtain ⟨⟨hx, hb, hml, hown, hts⟩, hr, hlocks⟩ := id F
  intro x2 u H locs ls hw hl h
  unfold f_X4_read_a5 at h
  refine lv_iconst (v := 0) hx hb dX4_read_0 rfl ?_
  refine lv_istore_n (lv' := [(3, .int 0), (0, .ref (ad 0)), (1, .ref (ad 5)), (2, .int x2)]) hx hb dX4_read_1 rfl hl (by decide) rfl (fun ls hl => ?_)
  exact w_X4_read_a5_2 F NF _ _ _ _ _ _ hw (lv_sub hl [1, 2, 3, 0] rfl) h
end
theorem c_X4_read_a5 {l : Launch} {G : GX} {ad : Nat → Nat} {x2 : Int32} {u : MS} {z : MS} (h : f_X4_read_a5 x2 u = some z) : MW l yX4_read cX4_read 4 none rmX4_read_a5 G (mw G ad u) (mw G ad z) [.ref (ad 0), .ref (ad 5), .int x2] none := MW.of (by decide) (Nat.le_of_ble_eq_true rfl) (fun p e s m below meth c ls F hw hl => w_X4_read_a5_0 F _ _ _ _ _ hw hl h)
theorem yv_X4_read_a5 : YV RX4 78 yX4_read cX4_read 4 none 2 := ⟨(tw 600 (by decide +kernel) rfl), (tw 6 (by decide +kernel) rfl), (tw 597 (by decide +kernel) rfl), (tw 599 (by decide +kernel) rfl), (tp 12 (by decide +kernel) rfl), by decide +kernel⟩
theorem k_X4_read_a5 {p : Program} {l : Launch} {e : Env} {R : Room} {s : State} {m : MethodId} {args : Array Value} {below : List Frame} {meth : Method} {c : Code} {H : Heap} {locs : List Loc} {cells slots : Nat} {Q : State → Prop} {G : GX} {A : Nat → Prop} {ad : Nat → Nat} {cc : ByteArray} {nL pc : Nat} {y0 : MethodName} {ret0 : Option FieldType} {ls : Array Slot} {rest : List Value} {u : MS} {x2 : Int32} {z : MS} (F : FX p m c cc nL s args y0 ret0 RX4 meth) (hw : WD G A s (mw G ad u) H locs) (h : f_X4_read_a5 x2 u = some z) (hR : rmX4_read_a5.frames + 1 ≤ R.frames ∧ 8 + (4 + 11) + rmX4_read_a5.locals ≤ R.locals) (hcs : cells ≤ R.cells ∧ slots ≤ R.slots) (hsz : ls.size = nL) (hW : (rest.map fun v => v.category).sum ≤ 8) (hdg : decode cc pc = .ok (.invokevirtual 78, 3)) (kk : ∀ (H : Heap) (locs : List Loc), WD G A s (mw G ad z) H locs → W p l e R s m args below meth c H locs cells slots Q (F0 m (pc + 3) ls (rest))) : W p l e R s m args below meth c H locs cells slots Q (F0 m pc ls (.int x2 :: .ref (ad 5) :: .ref (ad 0) :: rest)) := callW (runV F yv_X4_read_a5 (c_X4_read_a5 h) hw.1 hw.2.1 hw.2.2.1 rfl rfl rfl ⟨rfl, rfl⟩ hR hcs rfl hsz rfl hW hdg) hw.2.2.2 hw.2.2.1.own_in (fun H1 l1 hP _ hS => kk H1 l1 ⟨hw.1, hP, hw.2.2.1.addr rfl, hS⟩)
def rmX4_read_a6 : Room := { frames := 0, cells := 0, slots := 0, locals := 0 }
noncomputable def f_X4_read_a6_2 : Nat → Int32 → Int32 → MS → Option (MS)
  | 0, _, _, _ => none
  | n + 1, x2, x3, u => (if x2 ≤ x3 then some u else (if ix (u.1 20) 98460 = true then (if ix x3 8 = true then f_X4_read_a6_2 n x2 (x3 + 1) (mF (mA u 6 (Int32.toNatClampNeg x3) (u.2.1 16 (Int32.toNatClampNeg (u.1 20)))) 20 (((mA u 6 (Int32.toNatClampNeg x3) (u.2.1 16 (Int32.toNatClampNeg (u.1 20)))).1 20) + 1)) else none) else none))
noncomputable def f_X4_read_a6 (x2 : Int32) (u : MS) : Option (MS) := f_X4_read_a6_2 NF x2 0 u
section
variable {p : Program} {l : Launch} {e : Env} {s : State} {m : MethodId} {args : Array Value} {below : List Frame} {meth : Method} {c : Code}
variable {G : GX} {A : Nat → Prop} {ad : Nat → Nat}
set_option maxHeartbeats 4000000 in
set_option maxRecDepth 100000 in
theorem w_X4_read_a6_2 (F : FX p m c cX4_read 4 s args yX4_read none RX4 meth) {z : MS} : ∀ (n : Nat) (x2 : Int32) (x3 : Int32) (u : MS) (H : Heap) (locs : List Loc) (ls : Array Slot), WD G A s (mw G ad u) H locs → lv_has ls 4 [(0, .ref (ad 0)), (1, .ref (ad 6)), (2, .int x2), (3, .int x3)] → f_X4_read_a6_2 n x2 x3 u = some z → W p l e rmX4_read_a6 s m args below meth c H locs 0 0 (MQ below (QW G (mw G ad z) A none) args s 0 0 A) (F0 m 2 ls []) := by
  obtain ⟨⟨hx, hb, hml, hown, hts⟩, hr, hlocks⟩ := id F
  intro n
  induction n with
  | zero =>
    intro x2 x3 u H locs ls hw hl h
    rw [f_X4_read_a6_2] at h
    cases h
  | succ n ih =>
    intro x2 x3 u H locs ls hw hl h
    rw [f_X4_read_a6_2] at h
    refine lv_iload_n hx hb dX4_read_2 rfl (lv_at hl 3 rfl) ?_
    refine lv_iload_n hx hb dX4_read_3 rfl (lv_at hl 2 rfl) ?_
    refine lv_icmp_ge (tgt := 35) hx hb dX4_read_4 rfl (fun c1 => ?_) (fun c1 => ?_)
    · replace h := itT h c1
      cases h
      exact retW_v F hw dX4_read_35
    · replace h := itF h c1
      refine lv_aload_n hx hb dX4_read_7 rfl (lv_at hl 1 rfl) ?_
      refine lv_iload_n hx hb dX4_read_8 rfl (lv_at hl 3 rfl) ?_
      refine lv_aload_n hx hb dX4_read_9 rfl (lv_at hl 0 rfl) ?_
      refine m_g16 F hw dX4_read_10 ?_
      refine lv_aload_n hx hb dX4_read_13 rfl (lv_at hl 0 rfl) ?_
      refine m_g20 F hw dX4_read_14 ?_
      obtain ⟨g2, h⟩ := gd h
      refine m_l16 F hw g2 dX4_read_17 ?_
      obtain ⟨g3, h⟩ := gd h
      refine m_s6 F hw g3 dX4_read_18 (fun H locs hw => ?_)
      refine lv_aload_n hx hb dX4_read_19 rfl (lv_at hl 0 rfl) ?_
      refine lv_dup hx hb dX4_read_20 rfl ?_
      refine m_g20 F hw dX4_read_21 ?_
      refine lv_iconst (v := 1) hx hb dX4_read_24 rfl ?_
      refine lv_iadd hx hb dX4_read_25 ?_
      refine m_p20 F hw dX4_read_26 (fun H locs hw => ?_)
      refine lv_iinc (v := (x3 + 1)) (lv' := [(3, .int (x3 + 1)), (0, .ref (ad 0)), (1, .ref (ad 6)), (2, .int x2)]) hx hb dX4_read_29 hl (k := 3) rfl rfl (by decide) rfl (fun ls hl => ?_)
      refine lv_goto (tgt := 2) hx hb dX4_read_32 rfl ?_
      exact ih _ _ _ _ _ _ hw (lv_sub hl [1, 2, 3, 0] rfl) h
set_option maxHeartbeats 4000000 in
set_option maxRecDepth 100000 in
theorem w_X4_read_a6_0 (F : FX p m c cX4_read 4 s args yX4_read none RX4 meth) {z : MS} : ∀ (x2 : Int32) (u : MS) (H : Heap) (locs : List Loc) (ls : Array Slot), WD G A s (mw G ad u) H locs → lv_has ls 4 [(0, .ref (ad 0)), (1, .ref (ad 6)), (2, .int x2)] → f_X4_read_a6 x2 u = some z → W p l e rmX4_read_a6 s m args below meth c H locs 0 0 (MQ below (QW G (mw G ad z) A none) args s 0 0 A) (F0 m 0 ls []) := by
  obtain ⟨⟨hx, hb, hml, hown, hts⟩, hr, hlocks⟩ := id F
  intro x2 u H locs ls hw hl h
  unfold f_X4_read_a6 at h
  refine lv_iconst (v := 0) hx hb dX4_read_0 rfl ?_
  refine lv_istore_n (lv' := [(3, .int 0), (0, .ref (ad 0)), (1, .ref (ad 6)), (2, .int x2)]) hx hb dX4_read_1 rfl hl (by decide) rfl (fun ls hl => ?_)
  exact w_X4_read_a6_2 F NF _ _ _ _ _ _ hw (lv_sub hl [1, 2, 3, 0] rfl) h
end
theorem c_X4_read_a6 {l : Launch} {G : GX} {ad : Nat → Nat} {x2 : Int32} {u : MS} {z : MS} (h : f_X4_read_a6 x2 u = some z) : MW l yX4_read cX4_read 4 none rmX4_read_a6 G (mw G ad u) (mw G ad z) [.ref (ad 0), .ref (ad 6), .int x2] none := MW.of (by decide) (Nat.le_of_ble_eq_true rfl) (fun p e s m below meth c ls F hw hl => w_X4_read_a6_0 F _ _ _ _ _ hw hl h)
theorem yv_X4_read_a6 : YV RX4 78 yX4_read cX4_read 4 none 2 := ⟨(tw 600 (by decide +kernel) rfl), (tw 6 (by decide +kernel) rfl), (tw 597 (by decide +kernel) rfl), (tw 599 (by decide +kernel) rfl), (tp 12 (by decide +kernel) rfl), by decide +kernel⟩
theorem k_X4_read_a6 {p : Program} {l : Launch} {e : Env} {R : Room} {s : State} {m : MethodId} {args : Array Value} {below : List Frame} {meth : Method} {c : Code} {H : Heap} {locs : List Loc} {cells slots : Nat} {Q : State → Prop} {G : GX} {A : Nat → Prop} {ad : Nat → Nat} {cc : ByteArray} {nL pc : Nat} {y0 : MethodName} {ret0 : Option FieldType} {ls : Array Slot} {rest : List Value} {u : MS} {x2 : Int32} {z : MS} (F : FX p m c cc nL s args y0 ret0 RX4 meth) (hw : WD G A s (mw G ad u) H locs) (h : f_X4_read_a6 x2 u = some z) (hR : rmX4_read_a6.frames + 1 ≤ R.frames ∧ 8 + (4 + 11) + rmX4_read_a6.locals ≤ R.locals) (hcs : cells ≤ R.cells ∧ slots ≤ R.slots) (hsz : ls.size = nL) (hW : (rest.map fun v => v.category).sum ≤ 8) (hdg : decode cc pc = .ok (.invokevirtual 78, 3)) (kk : ∀ (H : Heap) (locs : List Loc), WD G A s (mw G ad z) H locs → W p l e R s m args below meth c H locs cells slots Q (F0 m (pc + 3) ls (rest))) : W p l e R s m args below meth c H locs cells slots Q (F0 m pc ls (.int x2 :: .ref (ad 6) :: .ref (ad 0) :: rest)) := callW (runV F yv_X4_read_a6 (c_X4_read_a6 h) hw.1 hw.2.1 hw.2.2.1 rfl rfl rfl ⟨rfl, rfl⟩ hR hcs rfl hsz rfl hW hdg) hw.2.2.2 hw.2.2.1.own_in (fun H1 l1 hP _ hS => kk H1 l1 ⟨hw.1, hP, hw.2.2.1.addr rfl, hS⟩)
def rmX4_read_a7 : Room := { frames := 0, cells := 0, slots := 0, locals := 0 }
noncomputable def f_X4_read_a7_2 : Nat → Int32 → Int32 → MS → Option (MS)
  | 0, _, _, _ => none
  | n + 1, x2, x3, u => (if x2 ≤ x3 then some u else (if ix (u.1 20) 98460 = true then (if ix x3 4800 = true then f_X4_read_a7_2 n x2 (x3 + 1) (mF (mA u 7 (Int32.toNatClampNeg x3) (u.2.1 16 (Int32.toNatClampNeg (u.1 20)))) 20 (((mA u 7 (Int32.toNatClampNeg x3) (u.2.1 16 (Int32.toNatClampNeg (u.1 20)))).1 20) + 1)) else none) else none))
noncomputable def f_X4_read_a7 (x2 : Int32) (u : MS) : Option (MS) := f_X4_read_a7_2 NF x2 0 u
section
variable {p : Program} {l : Launch} {e : Env} {s : State} {m : MethodId} {args : Array Value} {below : List Frame} {meth : Method} {c : Code}
variable {G : GX} {A : Nat → Prop} {ad : Nat → Nat}
set_option maxHeartbeats 4000000 in
set_option maxRecDepth 100000 in
theorem w_X4_read_a7_2 (F : FX p m c cX4_read 4 s args yX4_read none RX4 meth) {z : MS} : ∀ (n : Nat) (x2 : Int32) (x3 : Int32) (u : MS) (H : Heap) (locs : List Loc) (ls : Array Slot), WD G A s (mw G ad u) H locs → lv_has ls 4 [(0, .ref (ad 0)), (1, .ref (ad 7)), (2, .int x2), (3, .int x3)] → f_X4_read_a7_2 n x2 x3 u = some z → W p l e rmX4_read_a7 s m args below meth c H locs 0 0 (MQ below (QW G (mw G ad z) A none) args s 0 0 A) (F0 m 2 ls []) := by
  obtain ⟨⟨hx, hb, hml, hown, hts⟩, hr, hlocks⟩ := id F
  intro n
  induction n with
  | zero =>
    intro x2 x3 u H locs ls hw hl h
    rw [f_X4_read_a7_2] at h
    cases h
  | succ n ih =>
    intro x2 x3 u H locs ls hw hl h
    rw [f_X4_read_a7_2] at h
    refine lv_iload_n hx hb dX4_read_2 rfl (lv_at hl 3 rfl) ?_
    refine lv_iload_n hx hb dX4_read_3 rfl (lv_at hl 2 rfl) ?_
    refine lv_icmp_ge (tgt := 35) hx hb dX4_read_4 rfl (fun c1 => ?_) (fun c1 => ?_)
    · replace h := itT h c1
      cases h
      exact retW_v F hw dX4_read_35
    · replace h := itF h c1
      refine lv_aload_n hx hb dX4_read_7 rfl (lv_at hl 1 rfl) ?_
      refine lv_iload_n hx hb dX4_read_8 rfl (lv_at hl 3 rfl) ?_
      refine lv_aload_n hx hb dX4_read_9 rfl (lv_at hl 0 rfl) ?_
      refine m_g16 F hw dX4_read_10 ?_
      refine lv_aload_n hx hb dX4_read_13 rfl (lv_at hl 0 rfl) ?_
      refine m_g20 F hw dX4_read_14 ?_
      obtain ⟨g2, h⟩ := gd h
      refine m_l16 F hw g2 dX4_read_17 ?_
      obtain ⟨g3, h⟩ := gd h
      refine m_s7 F hw g3 dX4_read_18 (fun H locs hw => ?_)
      refine lv_aload_n hx hb dX4_read_19 rfl (lv_at hl 0 rfl) ?_
      refine lv_dup hx hb dX4_read_20 rfl ?_
      refine m_g20 F hw dX4_read_21 ?_
      refine lv_iconst (v := 1) hx hb dX4_read_24 rfl ?_
      refine lv_iadd hx hb dX4_read_25 ?_
      refine m_p20 F hw dX4_read_26 (fun H locs hw => ?_)
      refine lv_iinc (v := (x3 + 1)) (lv' := [(3, .int (x3 + 1)), (0, .ref (ad 0)), (1, .ref (ad 7)), (2, .int x2)]) hx hb dX4_read_29 hl (k := 3) rfl rfl (by decide) rfl (fun ls hl => ?_)
      refine lv_goto (tgt := 2) hx hb dX4_read_32 rfl ?_
      exact ih _ _ _ _ _ _ hw (lv_sub hl [1, 2, 3, 0] rfl) h
set_option maxHeartbeats 4000000 in
set_option maxRecDepth 100000 in
theorem w_X4_read_a7_0 (F : FX p m c cX4_read 4 s args yX4_read none RX4 meth) {z : MS} : ∀ (x2 : Int32) (u : MS) (H : Heap) (locs : List Loc) (ls : Array Slot), WD G A s (mw G ad u) H locs → lv_has ls 4 [(0, .ref (ad 0)), (1, .ref (ad 7)), (2, .int x2)] → f_X4_read_a7 x2 u = some z → W p l e rmX4_read_a7 s m args below meth c H locs 0 0 (MQ below (QW G (mw G ad z) A none) args s 0 0 A) (F0 m 0 ls []) := by
  obtain ⟨⟨hx, hb, hml, hown, hts⟩, hr, hlocks⟩ := id F
  intro x2 u H locs ls hw hl h
  unfold f_X4_read_a7 at h
  refine lv_iconst (v := 0) hx hb dX4_read_0 rfl ?_
  refine lv_istore_n (lv' := [(3, .int 0), (0, .ref (ad 0)), (1, .ref (ad 7)), (2, .int x2)]) hx hb dX4_read_1 rfl hl (by decide) rfl (fun ls hl => ?_)
  exact w_X4_read_a7_2 F NF _ _ _ _ _ _ hw (lv_sub hl [1, 2, 3, 0] rfl) h
end
theorem c_X4_read_a7 {l : Launch} {G : GX} {ad : Nat → Nat} {x2 : Int32} {u : MS} {z : MS} (h : f_X4_read_a7 x2 u = some z) : MW l yX4_read cX4_read 4 none rmX4_read_a7 G (mw G ad u) (mw G ad z) [.ref (ad 0), .ref (ad 7), .int x2] none := MW.of (by decide) (Nat.le_of_ble_eq_true rfl) (fun p e s m below meth c ls F hw hl => w_X4_read_a7_0 F _ _ _ _ _ hw hl h)
theorem yv_X4_read_a7 : YV RX4 78 yX4_read cX4_read 4 none 2 := ⟨(tw 600 (by decide +kernel) rfl), (tw 6 (by decide +kernel) rfl), (tw 597 (by decide +kernel) rfl), (tw 599 (by decide +kernel) rfl), (tp 12 (by decide +kernel) rfl), by decide +kernel⟩
theorem k_X4_read_a7 {p : Program} {l : Launch} {e : Env} {R : Room} {s : State} {m : MethodId} {args : Array Value} {below : List Frame} {meth : Method} {c : Code} {H : Heap} {locs : List Loc} {cells slots : Nat} {Q : State → Prop} {G : GX} {A : Nat → Prop} {ad : Nat → Nat} {cc : ByteArray} {nL pc : Nat} {y0 : MethodName} {ret0 : Option FieldType} {ls : Array Slot} {rest : List Value} {u : MS} {x2 : Int32} {z : MS} (F : FX p m c cc nL s args y0 ret0 RX4 meth) (hw : WD G A s (mw G ad u) H locs) (h : f_X4_read_a7 x2 u = some z) (hR : rmX4_read_a7.frames + 1 ≤ R.frames ∧ 8 + (4 + 11) + rmX4_read_a7.locals ≤ R.locals) (hcs : cells ≤ R.cells ∧ slots ≤ R.slots) (hsz : ls.size = nL) (hW : (rest.map fun v => v.category).sum ≤ 8) (hdg : decode cc pc = .ok (.invokevirtual 78, 3)) (kk : ∀ (H : Heap) (locs : List Loc), WD G A s (mw G ad z) H locs → W p l e R s m args below meth c H locs cells slots Q (F0 m (pc + 3) ls (rest))) : W p l e R s m args below meth c H locs cells slots Q (F0 m pc ls (.int x2 :: .ref (ad 7) :: .ref (ad 0) :: rest)) := callW (runV F yv_X4_read_a7 (c_X4_read_a7 h) hw.1 hw.2.1 hw.2.2.1 rfl rfl rfl ⟨rfl, rfl⟩ hR hcs rfl hsz rfl hW hdg) hw.2.2.2 hw.2.2.1.own_in (fun H1 l1 hP _ hS => kk H1 l1 ⟨hw.1, hP, hw.2.2.1.addr rfl, hS⟩)
def rmX4_read_a8 : Room := { frames := 0, cells := 0, slots := 0, locals := 0 }
noncomputable def f_X4_read_a8_2 : Nat → Int32 → Int32 → MS → Option (MS)
  | 0, _, _, _ => none
  | n + 1, x2, x3, u => (if x2 ≤ x3 then some u else (if ix (u.1 20) 98460 = true then (if ix x3 4800 = true then f_X4_read_a8_2 n x2 (x3 + 1) (mF (mA u 8 (Int32.toNatClampNeg x3) (u.2.1 16 (Int32.toNatClampNeg (u.1 20)))) 20 (((mA u 8 (Int32.toNatClampNeg x3) (u.2.1 16 (Int32.toNatClampNeg (u.1 20)))).1 20) + 1)) else none) else none))
noncomputable def f_X4_read_a8 (x2 : Int32) (u : MS) : Option (MS) := f_X4_read_a8_2 NF x2 0 u
section
variable {p : Program} {l : Launch} {e : Env} {s : State} {m : MethodId} {args : Array Value} {below : List Frame} {meth : Method} {c : Code}
variable {G : GX} {A : Nat → Prop} {ad : Nat → Nat}
set_option maxHeartbeats 4000000 in
set_option maxRecDepth 100000 in
theorem w_X4_read_a8_2 (F : FX p m c cX4_read 4 s args yX4_read none RX4 meth) {z : MS} : ∀ (n : Nat) (x2 : Int32) (x3 : Int32) (u : MS) (H : Heap) (locs : List Loc) (ls : Array Slot), WD G A s (mw G ad u) H locs → lv_has ls 4 [(0, .ref (ad 0)), (1, .ref (ad 8)), (2, .int x2), (3, .int x3)] → f_X4_read_a8_2 n x2 x3 u = some z → W p l e rmX4_read_a8 s m args below meth c H locs 0 0 (MQ below (QW G (mw G ad z) A none) args s 0 0 A) (F0 m 2 ls []) := by
  obtain ⟨⟨hx, hb, hml, hown, hts⟩, hr, hlocks⟩ := id F
  intro n
  induction n with
  | zero =>
    intro x2 x3 u H locs ls hw hl h
    rw [f_X4_read_a8_2] at h
    cases h
  | succ n ih =>
    intro x2 x3 u H locs ls hw hl h
    rw [f_X4_read_a8_2] at h
    refine lv_iload_n hx hb dX4_read_2 rfl (lv_at hl 3 rfl) ?_
    refine lv_iload_n hx hb dX4_read_3 rfl (lv_at hl 2 rfl) ?_
    refine lv_icmp_ge (tgt := 35) hx hb dX4_read_4 rfl (fun c1 => ?_) (fun c1 => ?_)
    · replace h := itT h c1
      cases h
      exact retW_v F hw dX4_read_35
    · replace h := itF h c1
      refine lv_aload_n hx hb dX4_read_7 rfl (lv_at hl 1 rfl) ?_
      refine lv_iload_n hx hb dX4_read_8 rfl (lv_at hl 3 rfl) ?_
      refine lv_aload_n hx hb dX4_read_9 rfl (lv_at hl 0 rfl) ?_
      refine m_g16 F hw dX4_read_10 ?_
      refine lv_aload_n hx hb dX4_read_13 rfl (lv_at hl 0 rfl) ?_
      refine m_g20 F hw dX4_read_14 ?_
      obtain ⟨g2, h⟩ := gd h
      refine m_l16 F hw g2 dX4_read_17 ?_
      obtain ⟨g3, h⟩ := gd h
      refine m_s8 F hw g3 dX4_read_18 (fun H locs hw => ?_)
      refine lv_aload_n hx hb dX4_read_19 rfl (lv_at hl 0 rfl) ?_
      refine lv_dup hx hb dX4_read_20 rfl ?_
      refine m_g20 F hw dX4_read_21 ?_
      refine lv_iconst (v := 1) hx hb dX4_read_24 rfl ?_
      refine lv_iadd hx hb dX4_read_25 ?_
      refine m_p20 F hw dX4_read_26 (fun H locs hw => ?_)
      refine lv_iinc (v := (x3 + 1)) (lv' := [(3, .int (x3 + 1)), (0, .ref (ad 0)), (1, .ref (ad 8)), (2, .int x2)]) hx hb dX4_read_29 hl (k := 3) rfl rfl (by decide) rfl (fun ls hl => ?_)
      refine lv_goto (tgt := 2) hx hb dX4_read_32 rfl ?_
      exact ih _ _ _ _ _ _ hw (lv_sub hl [1, 2, 3, 0] rfl) h
set_option maxHeartbeats 4000000 in
set_option maxRecDepth 100000 in
theorem w_X4_read_a8_0 (F : FX p m c cX4_read 4 s args yX4_read none RX4 meth) {z : MS} : ∀ (x2 : Int32) (u : MS) (H : Heap) (locs : List Loc) (ls : Array Slot), WD G A s (mw G ad u) H locs → lv_has ls 4 [(0, .ref (ad 0)), (1, .ref (ad 8)), (2, .int x2)] → f_X4_read_a8 x2 u = some z → W p l e rmX4_read_a8 s m args below meth c H locs 0 0 (MQ below (QW G (mw G ad z) A none) args s 0 0 A) (F0 m 0 ls []) := by
  obtain ⟨⟨hx, hb, hml, hown, hts⟩, hr, hlocks⟩ := id F
  intro x2 u H locs ls hw hl h
  unfold f_X4_read_a8 at h
  refine lv_iconst (v := 0) hx hb dX4_read_0 rfl ?_
  refine lv_istore_n (lv' := [(3, .int 0), (0, .ref (ad 0)), (1, .ref (ad 8)), (2, .int x2)]) hx hb dX4_read_1 rfl hl (by decide) rfl (fun ls hl => ?_)
  exact w_X4_read_a8_2 F NF _ _ _ _ _ _ hw (lv_sub hl [1, 2, 3, 0] rfl) h
end
theorem c_X4_read_a8 {l : Launch} {G : GX} {ad : Nat → Nat} {x2 : Int32} {u : MS} {z : MS} (h : f_X4_read_a8 x2 u = some z) : MW l yX4_read cX4_read 4 none rmX4_read_a8 G (mw G ad u) (mw G ad z) [.ref (ad 0), .ref (ad 8), .int x2] none := MW.of (by decide) (Nat.le_of_ble_eq_true rfl) (fun p e s m below meth c ls F hw hl => w_X4_read_a8_0 F _ _ _ _ _ hw hl h)
theorem yv_X4_read_a8 : YV RX4 78 yX4_read cX4_read 4 none 2 := ⟨(tw 600 (by decide +kernel) rfl), (tw 6 (by decide +kernel) rfl), (tw 597 (by decide +kernel) rfl), (tw 599 (by decide +kernel) rfl), (tp 12 (by decide +kernel) rfl), by decide +kernel⟩
theorem k_X4_read_a8 {p : Program} {l : Launch} {e : Env} {R : Room} {s : State} {m : MethodId} {args : Array Value} {below : List Frame} {meth : Method} {c : Code} {H : Heap} {locs : List Loc} {cells slots : Nat} {Q : State → Prop} {G : GX} {A : Nat → Prop} {ad : Nat → Nat} {cc : ByteArray} {nL pc : Nat} {y0 : MethodName} {ret0 : Option FieldType} {ls : Array Slot} {rest : List Value} {u : MS} {x2 : Int32} {z : MS} (F : FX p m c cc nL s args y0 ret0 RX4 meth) (hw : WD G A s (mw G ad u) H locs) (h : f_X4_read_a8 x2 u = some z) (hR : rmX4_read_a8.frames + 1 ≤ R.frames ∧ 8 + (4 + 11) + rmX4_read_a8.locals ≤ R.locals) (hcs : cells ≤ R.cells ∧ slots ≤ R.slots) (hsz : ls.size = nL) (hW : (rest.map fun v => v.category).sum ≤ 8) (hdg : decode cc pc = .ok (.invokevirtual 78, 3)) (kk : ∀ (H : Heap) (locs : List Loc), WD G A s (mw G ad z) H locs → W p l e R s m args below meth c H locs cells slots Q (F0 m (pc + 3) ls (rest))) : W p l e R s m args below meth c H locs cells slots Q (F0 m pc ls (.int x2 :: .ref (ad 8) :: .ref (ad 0) :: rest)) := callW (runV F yv_X4_read_a8 (c_X4_read_a8 h) hw.1 hw.2.1 hw.2.2.1 rfl rfl rfl ⟨rfl, rfl⟩ hR hcs rfl hsz rfl hW hdg) hw.2.2.2 hw.2.2.1.own_in (fun H1 l1 hP _ hS => kk H1 l1 ⟨hw.1, hP, hw.2.2.1.addr rfl, hS⟩)
def rmX4_read_a11 : Room := { frames := 0, cells := 0, slots := 0, locals := 0 }
noncomputable def f_X4_read_a11_2 : Nat → Int32 → Int32 → MS → Option (MS)
  | 0, _, _, _ => none
  | n + 1, x2, x3, u => (if x2 ≤ x3 then some u else (if ix (u.1 20) 98460 = true then (if ix x3 600 = true then f_X4_read_a11_2 n x2 (x3 + 1) (mF (mA u 11 (Int32.toNatClampNeg x3) (u.2.1 16 (Int32.toNatClampNeg (u.1 20)))) 20 (((mA u 11 (Int32.toNatClampNeg x3) (u.2.1 16 (Int32.toNatClampNeg (u.1 20)))).1 20) + 1)) else none) else none))
noncomputable def f_X4_read_a11 (x2 : Int32) (u : MS) : Option (MS) := f_X4_read_a11_2 NF x2 0 u
section
variable {p : Program} {l : Launch} {e : Env} {s : State} {m : MethodId} {args : Array Value} {below : List Frame} {meth : Method} {c : Code}
variable {G : GX} {A : Nat → Prop} {ad : Nat → Nat}
set_option maxHeartbeats 4000000 in
set_option maxRecDepth 100000 in
theorem w_X4_read_a11_2 (F : FX p m c cX4_read 4 s args yX4_read none RX4 meth) {z : MS} : ∀ (n : Nat) (x2 : Int32) (x3 : Int32) (u : MS) (H : Heap) (locs : List Loc) (ls : Array Slot), WD G A s (mw G ad u) H locs → lv_has ls 4 [(0, .ref (ad 0)), (1, .ref (ad 11)), (2, .int x2), (3, .int x3)] → f_X4_read_a11_2 n x2 x3 u = some z → W p l e rmX4_read_a11 s m args below meth c H locs 0 0 (MQ below (QW G (mw G ad z) A none) args s 0 0 A) (F0 m 2 ls []) := by
  obtain ⟨⟨hx, hb, hml, hown, hts⟩, hr, hlocks⟩ := id F
  intro n
  induction n with
  | zero =>
    intro x2 x3 u H locs ls hw hl h
    rw [f_X4_read_a11_2] at h
    cases h
  | succ n ih =>
    intro x2 x3 u H locs ls hw hl h
    rw [f_X4_read_a11_2] at h
    refine lv_iload_n hx hb dX4_read_2 rfl (lv_at hl 3 rfl) ?_
    refine lv_iload_n hx hb dX4_read_3 rfl (lv_at hl 2 rfl) ?_
    refine lv_icmp_ge (tgt := 35) hx hb dX4_read_4 rfl (fun c1 => ?_) (fun c1 => ?_)
    · replace h := itT h c1
      cases h
      exact retW_v F hw dX4_read_35
    · replace h := itF h c1
      refine lv_aload_n hx hb dX4_read_7 rfl (lv_at hl 1 rfl) ?_
      refine lv_iload_n hx hb dX4_read_8 rfl (lv_at hl 3 rfl) ?_
      refine lv_aload_n hx hb dX4_read_9 rfl (lv_at hl 0 rfl) ?_
      refine m_g16 F hw dX4_read_10 ?_
      refine lv_aload_n hx hb dX4_read_13 rfl (lv_at hl 0 rfl) ?_
      refine m_g20 F hw dX4_read_14 ?_
      obtain ⟨g2, h⟩ := gd h
      refine m_l16 F hw g2 dX4_read_17 ?_
      obtain ⟨g3, h⟩ := gd h
      refine m_s11 F hw g3 dX4_read_18 (fun H locs hw => ?_)
      refine lv_aload_n hx hb dX4_read_19 rfl (lv_at hl 0 rfl) ?_
      refine lv_dup hx hb dX4_read_20 rfl ?_
      refine m_g20 F hw dX4_read_21 ?_
      refine lv_iconst (v := 1) hx hb dX4_read_24 rfl ?_
      refine lv_iadd hx hb dX4_read_25 ?_
      refine m_p20 F hw dX4_read_26 (fun H locs hw => ?_)
      refine lv_iinc (v := (x3 + 1)) (lv' := [(3, .int (x3 + 1)), (0, .ref (ad 0)), (1, .ref (ad 11)), (2, .int x2)]) hx hb dX4_read_29 hl (k := 3) rfl rfl (by decide) rfl (fun ls hl => ?_)
      refine lv_goto (tgt := 2) hx hb dX4_read_32 rfl ?_
      exact ih _ _ _ _ _ _ hw (lv_sub hl [1, 2, 3, 0] rfl) h
set_option maxHeartbeats 4000000 in
set_option maxRecDepth 100000 in
theorem w_X4_read_a11_0 (F : FX p m c cX4_read 4 s args yX4_read none RX4 meth) {z : MS} : ∀ (x2 : Int32) (u : MS) (H : Heap) (locs : List Loc) (ls : Array Slot), WD G A s (mw G ad u) H locs → lv_has ls 4 [(0, .ref (ad 0)), (1, .ref (ad 11)), (2, .int x2)] → f_X4_read_a11 x2 u = some z → W p l e rmX4_read_a11 s m args below meth c H locs 0 0 (MQ below (QW G (mw G ad z) A none) args s 0 0 A) (F0 m 0 ls []) := by
  obtain ⟨⟨hx, hb, hml, hown, hts⟩, hr, hlocks⟩ := id F
  intro x2 u H locs ls hw hl h
  unfold f_X4_read_a11 at h
  refine lv_iconst (v := 0) hx hb dX4_read_0 rfl ?_
  refine lv_istore_n (lv' := [(3, .int 0), (0, .ref (ad 0)), (1, .ref (ad 11)), (2, .int x2)]) hx hb dX4_read_1 rfl hl (by decide) rfl (fun ls hl => ?_)
  exact w_X4_read_a11_2 F NF _ _ _ _ _ _ hw (lv_sub hl [1, 2, 3, 0] rfl) h
end
theorem c_X4_read_a11 {l : Launch} {G : GX} {ad : Nat → Nat} {x2 : Int32} {u : MS} {z : MS} (h : f_X4_read_a11 x2 u = some z) : MW l yX4_read cX4_read 4 none rmX4_read_a11 G (mw G ad u) (mw G ad z) [.ref (ad 0), .ref (ad 11), .int x2] none := MW.of (by decide) (Nat.le_of_ble_eq_true rfl) (fun p e s m below meth c ls F hw hl => w_X4_read_a11_0 F _ _ _ _ _ hw hl h)
theorem yv_X4_read_a11 : YV RX4 78 yX4_read cX4_read 4 none 2 := ⟨(tw 600 (by decide +kernel) rfl), (tw 6 (by decide +kernel) rfl), (tw 597 (by decide +kernel) rfl), (tw 599 (by decide +kernel) rfl), (tp 12 (by decide +kernel) rfl), by decide +kernel⟩
theorem k_X4_read_a11 {p : Program} {l : Launch} {e : Env} {R : Room} {s : State} {m : MethodId} {args : Array Value} {below : List Frame} {meth : Method} {c : Code} {H : Heap} {locs : List Loc} {cells slots : Nat} {Q : State → Prop} {G : GX} {A : Nat → Prop} {ad : Nat → Nat} {cc : ByteArray} {nL pc : Nat} {y0 : MethodName} {ret0 : Option FieldType} {ls : Array Slot} {rest : List Value} {u : MS} {x2 : Int32} {z : MS} (F : FX p m c cc nL s args y0 ret0 RX4 meth) (hw : WD G A s (mw G ad u) H locs) (h : f_X4_read_a11 x2 u = some z) (hR : rmX4_read_a11.frames + 1 ≤ R.frames ∧ 8 + (4 + 11) + rmX4_read_a11.locals ≤ R.locals) (hcs : cells ≤ R.cells ∧ slots ≤ R.slots) (hsz : ls.size = nL) (hW : (rest.map fun v => v.category).sum ≤ 8) (hdg : decode cc pc = .ok (.invokevirtual 78, 3)) (kk : ∀ (H : Heap) (locs : List Loc), WD G A s (mw G ad z) H locs → W p l e R s m args below meth c H locs cells slots Q (F0 m (pc + 3) ls (rest))) : W p l e R s m args below meth c H locs cells slots Q (F0 m pc ls (.int x2 :: .ref (ad 11) :: .ref (ad 0) :: rest)) := callW (runV F yv_X4_read_a11 (c_X4_read_a11 h) hw.1 hw.2.1 hw.2.2.1 rfl rfl rfl ⟨rfl, rfl⟩ hR hcs rfl hsz rfl hW hdg) hw.2.2.2 hw.2.2.1.own_in (fun H1 l1 hP _ hS => kk H1 l1 ⟨hw.1, hP, hw.2.2.1.addr rfl, hS⟩)
def rmX4_read_a12 : Room := { frames := 0, cells := 0, slots := 0, locals := 0 }
noncomputable def f_X4_read_a12_2 : Nat → Int32 → Int32 → MS → Option (MS)
  | 0, _, _, _ => none
  | n + 1, x2, x3, u => (if x2 ≤ x3 then some u else (if ix (u.1 20) 98460 = true then (if ix x3 20 = true then f_X4_read_a12_2 n x2 (x3 + 1) (mF (mA u 12 (Int32.toNatClampNeg x3) (u.2.1 16 (Int32.toNatClampNeg (u.1 20)))) 20 (((mA u 12 (Int32.toNatClampNeg x3) (u.2.1 16 (Int32.toNatClampNeg (u.1 20)))).1 20) + 1)) else none) else none))
noncomputable def f_X4_read_a12 (x2 : Int32) (u : MS) : Option (MS) := f_X4_read_a12_2 NF x2 0 u
section
variable {p : Program} {l : Launch} {e : Env} {s : State} {m : MethodId} {args : Array Value} {below : List Frame} {meth : Method} {c : Code}
variable {G : GX} {A : Nat → Prop} {ad : Nat → Nat}
set_option maxHeartbeats 4000000 in
set_option maxRecDepth 100000 in
theorem w_X4_read_a12_2 (F : FX p m c cX4_read 4 s args yX4_read none RX4 meth) {z : MS} : ∀ (n : Nat) (x2 : Int32) (x3 : Int32) (u : MS) (H : Heap) (locs : List Loc) (ls : Array Slot), WD G A s (mw G ad u) H locs → lv_has ls 4 [(0, .ref (ad 0)), (1, .ref (ad 12)), (2, .int x2), (3, .int x3)] → f_X4_read_a12_2 n x2 x3 u = some z → W p l e rmX4_read_a12 s m args below meth c H locs 0 0 (MQ below (QW G (mw G ad z) A none) args s 0 0 A) (F0 m 2 ls []) := by
  obtain ⟨⟨hx, hb, hml, hown, hts⟩, hr, hlocks⟩ := id F
  intro n
  induction n with
  | zero =>
    intro x2 x3 u H locs ls hw hl h
    rw [f_X4_read_a12_2] at h
    cases h
  | succ n ih =>
    intro x2 x3 u H locs ls hw hl h
    rw [f_X4_read_a12_2] at h
    refine lv_iload_n hx hb dX4_read_2 rfl (lv_at hl 3 rfl) ?_
    refine lv_iload_n hx hb dX4_read_3 rfl (lv_at hl 2 rfl) ?_
    refine lv_icmp_ge (tgt := 35) hx hb dX4_read_4 rfl (fun c1 => ?_) (fun c1 => ?_)
    · replace h := itT h c1
      cases h
      exact retW_v F hw dX4_read_35
    · replace h := itF h c1
      refine lv_aload_n hx hb dX4_read_7 rfl (lv_at hl 1 rfl) ?_
      refine lv_iload_n hx hb dX4_read_8 rfl (lv_at hl 3 rfl) ?_
      refine lv_aload_n hx hb dX4_read_9 rfl (lv_at hl 0 rfl) ?_
      refine m_g16 F hw dX4_read_10 ?_
      refine lv_aload_n hx hb dX4_read_13 rfl (lv_at hl 0 rfl) ?_
      refine m_g20 F hw dX4_read_14 ?_
      obtain ⟨g2, h⟩ := gd h
      refine m_l16 F hw g2 dX4_read_17 ?_
      obtain ⟨g3, h⟩ := gd h
      refine m_s12 F hw g3 dX4_read_18 (fun H locs hw => ?_)
      refine lv_aload_n hx hb dX4_read_19 rfl (lv_at hl 0 rfl) ?_
      refine lv_dup hx hb dX4_read_20 rfl ?_
      refine m_g20 F hw dX4_read_21 ?_
      refine lv_iconst (v := 1) hx hb dX4_read_24 rfl ?_
      refine lv_iadd hx hb dX4_read_25 ?_
      refine m_p20 F hw dX4_read_26 (fun H locs hw => ?_)
      refine lv_iinc (v := (x3 + 1)) (lv' := [(3, .int (x3 + 1)), (0, .ref (ad 0)), (1, .ref (ad 12)), (2, .int x2)]) hx hb dX4_read_29 hl (k := 3) rfl rfl (by decide) rfl (fun ls hl => ?_)
      refine lv_goto (tgt := 2) hx hb dX4_read_32 rfl ?_
      exact ih _ _ _ _ _ _ hw (lv_sub hl [1, 2, 3, 0] rfl) h
set_option maxHeartbeats 4000000 in
set_option maxRecDepth 100000 in
theorem w_X4_read_a12_0 (F : FX p m c cX4_read 4 s args yX4_read none RX4 meth) {z : MS} : ∀ (x2 : Int32) (u : MS) (H : Heap) (locs : List Loc) (ls : Array Slot), WD G A s (mw G ad u) H locs → lv_has ls 4 [(0, .ref (ad 0)), (1, .ref (ad 12)), (2, .int x2)] → f_X4_read_a12 x2 u = some z → W p l e rmX4_read_a12 s m args below meth c H locs 0 0 (MQ below (QW G (mw G ad z) A none) args s 0 0 A) (F0 m 0 ls []) := by
  obtain ⟨⟨hx, hb, hml, hown, hts⟩, hr, hlocks⟩ := id F
  intro x2 u H locs ls hw hl h
  unfold f_X4_read_a12 at h
  refine lv_iconst (v := 0) hx hb dX4_read_0 rfl ?_
  refine lv_istore_n (lv' := [(3, .int 0), (0, .ref (ad 0)), (1, .ref (ad 12)), (2, .int x2)]) hx hb dX4_read_1 rfl hl (by decide) rfl (fun ls hl => ?_)
  exact w_X4_read_a12_2 F NF _ _ _ _ _ _ hw (lv_sub hl [1, 2, 3, 0] rfl) h
end
theorem c_X4_read_a12 {l : Launch} {G : GX} {ad : Nat → Nat} {x2 : Int32} {u : MS} {z : MS} (h : f_X4_read_a12 x2 u = some z) : MW l yX4_read cX4_read 4 none rmX4_read_a12 G (mw G ad u) (mw G ad z) [.ref (ad 0), .ref (ad 12), .int x2] none := MW.of (by decide) (Nat.le_of_ble_eq_true rfl) (fun p e s m below meth c ls F hw hl => w_X4_read_a12_0 F _ _ _ _ _ hw hl h)
theorem yv_X4_read_a12 : YV RX4 78 yX4_read cX4_read 4 none 2 := ⟨(tw 600 (by decide +kernel) rfl), (tw 6 (by decide +kernel) rfl), (tw 597 (by decide +kernel) rfl), (tw 599 (by decide +kernel) rfl), (tp 12 (by decide +kernel) rfl), by decide +kernel⟩
theorem k_X4_read_a12 {p : Program} {l : Launch} {e : Env} {R : Room} {s : State} {m : MethodId} {args : Array Value} {below : List Frame} {meth : Method} {c : Code} {H : Heap} {locs : List Loc} {cells slots : Nat} {Q : State → Prop} {G : GX} {A : Nat → Prop} {ad : Nat → Nat} {cc : ByteArray} {nL pc : Nat} {y0 : MethodName} {ret0 : Option FieldType} {ls : Array Slot} {rest : List Value} {u : MS} {x2 : Int32} {z : MS} (F : FX p m c cc nL s args y0 ret0 RX4 meth) (hw : WD G A s (mw G ad u) H locs) (h : f_X4_read_a12 x2 u = some z) (hR : rmX4_read_a12.frames + 1 ≤ R.frames ∧ 8 + (4 + 11) + rmX4_read_a12.locals ≤ R.locals) (hcs : cells ≤ R.cells ∧ slots ≤ R.slots) (hsz : ls.size = nL) (hW : (rest.map fun v => v.category).sum ≤ 8) (hdg : decode cc pc = .ok (.invokevirtual 78, 3)) (kk : ∀ (H : Heap) (locs : List Loc), WD G A s (mw G ad z) H locs → W p l e R s m args below meth c H locs cells slots Q (F0 m (pc + 3) ls (rest))) : W p l e R s m args below meth c H locs cells slots Q (F0 m pc ls (.int x2 :: .ref (ad 12) :: .ref (ad 0) :: rest)) := callW (runV F yv_X4_read_a12 (c_X4_read_a12 h) hw.1 hw.2.1 hw.2.2.1 rfl rfl rfl ⟨rfl, rfl⟩ hR hcs rfl hsz rfl hW hdg) hw.2.2.2 hw.2.2.1.own_in (fun H1 l1 hP _ hS => kk H1 l1 ⟨hw.1, hP, hw.2.2.1.addr rfl, hS⟩)
def rmX4_read_a13 : Room := { frames := 0, cells := 0, slots := 0, locals := 0 }
noncomputable def f_X4_read_a13_2 : Nat → Int32 → Int32 → MS → Option (MS)
  | 0, _, _, _ => none
  | n + 1, x2, x3, u => (if x2 ≤ x3 then some u else (if ix (u.1 20) 98460 = true then (if ix x3 20 = true then f_X4_read_a13_2 n x2 (x3 + 1) (mF (mA u 13 (Int32.toNatClampNeg x3) (u.2.1 16 (Int32.toNatClampNeg (u.1 20)))) 20 (((mA u 13 (Int32.toNatClampNeg x3) (u.2.1 16 (Int32.toNatClampNeg (u.1 20)))).1 20) + 1)) else none) else none))
noncomputable def f_X4_read_a13 (x2 : Int32) (u : MS) : Option (MS) := f_X4_read_a13_2 NF x2 0 u
section
variable {p : Program} {l : Launch} {e : Env} {s : State} {m : MethodId} {args : Array Value} {below : List Frame} {meth : Method} {c : Code}
variable {G : GX} {A : Nat → Prop} {ad : Nat → Nat}
set_option maxHeartbeats 4000000 in
set_option maxRecDepth 100000 in
theorem w_X4_read_a13_2 (F : FX p m c cX4_read 4 s args yX4_read none RX4 meth) {z : MS} : ∀ (n : Nat) (x2 : Int32) (x3 : Int32) (u : MS) (H : Heap) (locs : List Loc) (ls : Array Slot), WD G A s (mw G ad u) H locs → lv_has ls 4 [(0, .ref (ad 0)), (1, .ref (ad 13)), (2, .int x2), (3, .int x3)] → f_X4_read_a13_2 n x2 x3 u = some z → W p l e rmX4_read_a13 s m args below meth c H locs 0 0 (MQ below (QW G (mw G ad z) A none) args s 0 0 A) (F0 m 2 ls []) := by
  obtain ⟨⟨hx, hb, hml, hown, hts⟩, hr, hlocks⟩ := id F
  intro n
  induction n with
  | zero =>
    intro x2 x3 u H locs ls hw hl h
    rw [f_X4_read_a13_2] at h
    cases h
  | succ n ih =>
    intro x2 x3 u H locs ls hw hl h
    rw [f_X4_read_a13_2] at h
    refine lv_iload_n hx hb dX4_read_2 rfl (lv_at hl 3 rfl) ?_
    refine lv_iload_n hx hb dX4_read_3 rfl (lv_at hl 2 rfl) ?_
    refine lv_icmp_ge (tgt := 35) hx hb dX4_read_4 rfl (fun c1 => ?_) (fun c1 => ?_)
    · replace h := itT h c1
      cases h
      exact retW_v F hw dX4_read_35
    · replace h := itF h c1
      refine lv_aload_n hx hb dX4_read_7 rfl (lv_at hl 1 rfl) ?_
      refine lv_iload_n hx hb dX4_read_8 rfl (lv_at hl 3 rfl) ?_
      refine lv_aload_n hx hb dX4_read_9 rfl (lv_at hl 0 rfl) ?_
      refine m_g16 F hw dX4_read_10 ?_
      refine lv_aload_n hx hb dX4_read_13 rfl (lv_at hl 0 rfl) ?_
      refine m_g20 F hw dX4_read_14 ?_
      obtain ⟨g2, h⟩ := gd h
      refine m_l16 F hw g2 dX4_read_17 ?_
      obtain ⟨g3, h⟩ := gd h
      refine m_s13 F hw g3 dX4_read_18 (fun H locs hw => ?_)
      refine lv_aload_n hx hb dX4_read_19 rfl (lv_at hl 0 rfl) ?_
      refine lv_dup hx hb dX4_read_20 rfl ?_
      refine m_g20 F hw dX4_read_21 ?_
      refine lv_iconst (v := 1) hx hb dX4_read_24 rfl ?_
      refine lv_iadd hx hb dX4_read_25 ?_
      refine m_p20 F hw dX4_read_26 (fun H locs hw => ?_)
      refine lv_iinc (v := (x3 + 1)) (lv' := [(3, .int (x3 + 1)), (0, .ref (ad 0)), (1, .ref (ad 13)), (2, .int x2)]) hx hb dX4_read_29 hl (k := 3) rfl rfl (by decide) rfl (fun ls hl => ?_)
      refine lv_goto (tgt := 2) hx hb dX4_read_32 rfl ?_
      exact ih _ _ _ _ _ _ hw (lv_sub hl [1, 2, 3, 0] rfl) h
set_option maxHeartbeats 4000000 in
set_option maxRecDepth 100000 in
theorem w_X4_read_a13_0 (F : FX p m c cX4_read 4 s args yX4_read none RX4 meth) {z : MS} : ∀ (x2 : Int32) (u : MS) (H : Heap) (locs : List Loc) (ls : Array Slot), WD G A s (mw G ad u) H locs → lv_has ls 4 [(0, .ref (ad 0)), (1, .ref (ad 13)), (2, .int x2)] → f_X4_read_a13 x2 u = some z → W p l e rmX4_read_a13 s m args below meth c H locs 0 0 (MQ below (QW G (mw G ad z) A none) args s 0 0 A) (F0 m 0 ls []) := by
  obtain ⟨⟨hx, hb, hml, hown, hts⟩, hr, hlocks⟩ := id F
  intro x2 u H locs ls hw hl h
  unfold f_X4_read_a13 at h
  refine lv_iconst (v := 0) hx hb dX4_read_0 rfl ?_
  refine lv_istore_n (lv' := [(3, .int 0), (0, .ref (ad 0)), (1, .ref (ad 13)), (2, .int x2)]) hx hb dX4_read_1 rfl hl (by decide) rfl (fun ls hl => ?_)
  exact w_X4_read_a13_2 F NF _ _ _ _ _ _ hw (lv_sub hl [1, 2, 3, 0] rfl) h
end
theorem c_X4_read_a13 {l : Launch} {G : GX} {ad : Nat → Nat} {x2 : Int32} {u : MS} {z : MS} (h : f_X4_read_a13 x2 u = some z) : MW l yX4_read cX4_read 4 none rmX4_read_a13 G (mw G ad u) (mw G ad z) [.ref (ad 0), .ref (ad 13), .int x2] none := MW.of (by decide) (Nat.le_of_ble_eq_true rfl) (fun p e s m below meth c ls F hw hl => w_X4_read_a13_0 F _ _ _ _ _ hw hl h)
theorem yv_X4_read_a13 : YV RX4 78 yX4_read cX4_read 4 none 2 := ⟨(tw 600 (by decide +kernel) rfl), (tw 6 (by decide +kernel) rfl), (tw 597 (by decide +kernel) rfl), (tw 599 (by decide +kernel) rfl), (tp 12 (by decide +kernel) rfl), by decide +kernel⟩
theorem k_X4_read_a13 {p : Program} {l : Launch} {e : Env} {R : Room} {s : State} {m : MethodId} {args : Array Value} {below : List Frame} {meth : Method} {c : Code} {H : Heap} {locs : List Loc} {cells slots : Nat} {Q : State → Prop} {G : GX} {A : Nat → Prop} {ad : Nat → Nat} {cc : ByteArray} {nL pc : Nat} {y0 : MethodName} {ret0 : Option FieldType} {ls : Array Slot} {rest : List Value} {u : MS} {x2 : Int32} {z : MS} (F : FX p m c cc nL s args y0 ret0 RX4 meth) (hw : WD G A s (mw G ad u) H locs) (h : f_X4_read_a13 x2 u = some z) (hR : rmX4_read_a13.frames + 1 ≤ R.frames ∧ 8 + (4 + 11) + rmX4_read_a13.locals ≤ R.locals) (hcs : cells ≤ R.cells ∧ slots ≤ R.slots) (hsz : ls.size = nL) (hW : (rest.map fun v => v.category).sum ≤ 8) (hdg : decode cc pc = .ok (.invokevirtual 78, 3)) (kk : ∀ (H : Heap) (locs : List Loc), WD G A s (mw G ad z) H locs → W p l e R s m args below meth c H locs cells slots Q (F0 m (pc + 3) ls (rest))) : W p l e R s m args below meth c H locs cells slots Q (F0 m pc ls (.int x2 :: .ref (ad 13) :: .ref (ad 0) :: rest)) := callW (runV F yv_X4_read_a13 (c_X4_read_a13 h) hw.1 hw.2.1 hw.2.2.1 rfl rfl rfl ⟨rfl, rfl⟩ hR hcs rfl hsz rfl hW hdg) hw.2.2.2 hw.2.2.1.own_in (fun H1 l1 hP _ hS => kk H1 l1 ⟨hw.1, hP, hw.2.2.1.addr rfl, hS⟩)
def rmX4_read_a14 : Room := { frames := 0, cells := 0, slots := 0, locals := 0 }
noncomputable def f_X4_read_a14_2 : Nat → Int32 → Int32 → MS → Option (MS)
  | 0, _, _, _ => none
  | n + 1, x2, x3, u => (if x2 ≤ x3 then some u else (if ix (u.1 20) 98460 = true then (if ix x3 20 = true then f_X4_read_a14_2 n x2 (x3 + 1) (mF (mA u 14 (Int32.toNatClampNeg x3) (u.2.1 16 (Int32.toNatClampNeg (u.1 20)))) 20 (((mA u 14 (Int32.toNatClampNeg x3) (u.2.1 16 (Int32.toNatClampNeg (u.1 20)))).1 20) + 1)) else none) else none))
noncomputable def f_X4_read_a14 (x2 : Int32) (u : MS) : Option (MS) := f_X4_read_a14_2 NF x2 0 u
section
variable {p : Program} {l : Launch} {e : Env} {s : State} {m : MethodId} {args : Array Value} {below : List Frame} {meth : Method} {c : Code}
variable {G : GX} {A : Nat → Prop} {ad : Nat → Nat}
set_option maxHeartbeats 4000000 in
set_option maxRecDepth 100000 in
theorem w_X4_read_a14_2 (F : FX p m c cX4_read 4 s args yX4_read none RX4 meth) {z : MS} : ∀ (n : Nat) (x2 : Int32) (x3 : Int32) (u : MS) (H : Heap) (locs : List Loc) (ls : Array Slot), WD G A s (mw G ad u) H locs → lv_has ls 4 [(0, .ref (ad 0)), (1, .ref (ad 14)), (2, .int x2), (3, .int x3)] → f_X4_read_a14_2 n x2 x3 u = some z → W p l e rmX4_read_a14 s m args below meth c H locs 0 0 (MQ below (QW G (mw G ad z) A none) args s 0 0 A) (F0 m 2 ls []) := by
  obtain ⟨⟨hx, hb, hml, hown, hts⟩, hr, hlocks⟩ := id F
  intro n
  induction n with
  | zero =>
    intro x2 x3 u H locs ls hw hl h
    rw [f_X4_read_a14_2] at h
    cases h
  | succ n ih =>
    intro x2 x3 u H locs ls hw hl h
    rw [f_X4_read_a14_2] at h
    refine lv_iload_n hx hb dX4_read_2 rfl (lv_at hl 3 rfl) ?_
    refine lv_iload_n hx hb dX4_read_3 rfl (lv_at hl 2 rfl) ?_
    refine lv_icmp_ge (tgt := 35) hx hb dX4_read_4 rfl (fun c1 => ?_) (fun c1 => ?_)
    · replace h := itT h c1
      cases h
      exact retW_v F hw dX4_read_35
    · replace h := itF h c1
      refine lv_aload_n hx hb dX4_read_7 rfl (lv_at hl 1 rfl) ?_
      refine lv_iload_n hx hb dX4_read_8 rfl (lv_at hl 3 rfl) ?_
      refine lv_aload_n hx hb dX4_read_9 rfl (lv_at hl 0 rfl) ?_
      refine m_g16 F hw dX4_read_10 ?_
      refine lv_aload_n hx hb dX4_read_13 rfl (lv_at hl 0 rfl) ?_
      refine m_g20 F hw dX4_read_14 ?_
      obtain ⟨g2, h⟩ := gd h
      refine m_l16 F hw g2 dX4_read_17 ?_
      obtain ⟨g3, h⟩ := gd h
      refine m_s14 F hw g3 dX4_read_18 (fun H locs hw => ?_)
      refine lv_aload_n hx hb dX4_read_19 rfl (lv_at hl 0 rfl) ?_
      refine lv_dup hx hb dX4_read_20 rfl ?_
      refine m_g20 F hw dX4_read_21 ?_
      refine lv_iconst (v := 1) hx hb dX4_read_24 rfl ?_
      refine lv_iadd hx hb dX4_read_25 ?_
      refine m_p20 F hw dX4_read_26 (fun H locs hw => ?_)
      refine lv_iinc (v := (x3 + 1)) (lv' := [(3, .int (x3 + 1)), (0, .ref (ad 0)), (1, .ref (ad 14)), (2, .int x2)]) hx hb dX4_read_29 hl (k := 3) rfl rfl (by decide) rfl (fun ls hl => ?_)
      refine lv_goto (tgt := 2) hx hb dX4_read_32 rfl ?_
      exact ih _ _ _ _ _ _ hw (lv_sub hl [1, 2, 3, 0] rfl) h
set_option maxHeartbeats 4000000 in
set_option maxRecDepth 100000 in
theorem w_X4_read_a14_0 (F : FX p m c cX4_read 4 s args yX4_read none RX4 meth) {z : MS} : ∀ (x2 : Int32) (u : MS) (H : Heap) (locs : List Loc) (ls : Array Slot), WD G A s (mw G ad u) H locs → lv_has ls 4 [(0, .ref (ad 0)), (1, .ref (ad 14)), (2, .int x2)] → f_X4_read_a14 x2 u = some z → W p l e rmX4_read_a14 s m args below meth c H locs 0 0 (MQ below (QW G (mw G ad z) A none) args s 0 0 A) (F0 m 0 ls []) := by
  obtain ⟨⟨hx, hb, hml, hown, hts⟩, hr, hlocks⟩ := id F
  intro x2 u H locs ls hw hl h
  unfold f_X4_read_a14 at h
  refine lv_iconst (v := 0) hx hb dX4_read_0 rfl ?_
  refine lv_istore_n (lv' := [(3, .int 0), (0, .ref (ad 0)), (1, .ref (ad 14)), (2, .int x2)]) hx hb dX4_read_1 rfl hl (by decide) rfl (fun ls hl => ?_)
  exact w_X4_read_a14_2 F NF _ _ _ _ _ _ hw (lv_sub hl [1, 2, 3, 0] rfl) h
end
theorem c_X4_read_a14 {l : Launch} {G : GX} {ad : Nat → Nat} {x2 : Int32} {u : MS} {z : MS} (h : f_X4_read_a14 x2 u = some z) : MW l yX4_read cX4_read 4 none rmX4_read_a14 G (mw G ad u) (mw G ad z) [.ref (ad 0), .ref (ad 14), .int x2] none := MW.of (by decide) (Nat.le_of_ble_eq_true rfl) (fun p e s m below meth c ls F hw hl => w_X4_read_a14_0 F _ _ _ _ _ hw hl h)
theorem yv_X4_read_a14 : YV RX4 78 yX4_read cX4_read 4 none 2 := ⟨(tw 600 (by decide +kernel) rfl), (tw 6 (by decide +kernel) rfl), (tw 597 (by decide +kernel) rfl), (tw 599 (by decide +kernel) rfl), (tp 12 (by decide +kernel) rfl), by decide +kernel⟩
theorem k_X4_read_a14 {p : Program} {l : Launch} {e : Env} {R : Room} {s : State} {m : MethodId} {args : Array Value} {below : List Frame} {meth : Method} {c : Code} {H : Heap} {locs : List Loc} {cells slots : Nat} {Q : State → Prop} {G : GX} {A : Nat → Prop} {ad : Nat → Nat} {cc : ByteArray} {nL pc : Nat} {y0 : MethodName} {ret0 : Option FieldType} {ls : Array Slot} {rest : List Value} {u : MS} {x2 : Int32} {z : MS} (F : FX p m c cc nL s args y0 ret0 RX4 meth) (hw : WD G A s (mw G ad u) H locs) (h : f_X4_read_a14 x2 u = some z) (hR : rmX4_read_a14.frames + 1 ≤ R.frames ∧ 8 + (4 + 11) + rmX4_read_a14.locals ≤ R.locals) (hcs : cells ≤ R.cells ∧ slots ≤ R.slots) (hsz : ls.size = nL) (hW : (rest.map fun v => v.category).sum ≤ 8) (hdg : decode cc pc = .ok (.invokevirtual 78, 3)) (kk : ∀ (H : Heap) (locs : List Loc), WD G A s (mw G ad z) H locs → W p l e R s m args below meth c H locs cells slots Q (F0 m (pc + 3) ls (rest))) : W p l e R s m args below meth c H locs cells slots Q (F0 m pc ls (.int x2 :: .ref (ad 14) :: .ref (ad 0) :: rest)) := callW (runV F yv_X4_read_a14 (c_X4_read_a14 h) hw.1 hw.2.1 hw.2.2.1 rfl rfl rfl ⟨rfl, rfl⟩ hR hcs rfl hsz rfl hW hdg) hw.2.2.2 hw.2.2.1.own_in (fun H1 l1 hP _ hS => kk H1 l1 ⟨hw.1, hP, hw.2.2.1.addr rfl, hS⟩)
/-! ===== X4_save ===== -/
theorem dX4_save_0 : decode cX4_save 0 = .ok (.aload_n 0, 1) := by decide +kernel
theorem dX4_save_1 : decode cX4_save 1 = .ok (.sipush 10940, 3) := by decide +kernel
theorem dX4_save_4 : decode cX4_save 4 = .ok (.iload_n 1, 1) := by decide +kernel
theorem dX4_save_5 : decode cX4_save 5 = .ok (.imul, 1) := by decide +kernel
theorem dX4_save_6 : decode cX4_save 6 = .ok (.putfield 68, 3) := by decide +kernel
theorem dX4_save_9 : decode cX4_save 9 = .ok (.aload_n 0, 1) := by decide +kernel
theorem dX4_save_10 : decode cX4_save 10 = .ok (.aload_n 0, 1) := by decide +kernel
theorem dX4_save_11 : decode cX4_save 11 = .ok (.getfield 7, 3) := by decide +kernel
theorem dX4_save_14 : decode cX4_save 14 = .ok (.bipush 8, 2) := by decide +kernel
theorem dX4_save_16 : decode cX4_save 16 = .ok (.invokevirtual 71, 3) := by decide +kernel
theorem dX4_save_19 : decode cX4_save 19 = .ok (.aload_n 0, 1) := by decide +kernel
theorem dX4_save_20 : decode cX4_save 20 = .ok (.aload_n 0, 1) := by decide +kernel
theorem dX4_save_21 : decode cX4_save 21 = .ok (.getfield 13, 3) := by decide +kernel
theorem dX4_save_24 : decode cX4_save 24 = .ok (.bipush 8, 2) := by decide +kernel
theorem dX4_save_26 : decode cX4_save 26 = .ok (.invokevirtual 71, 3) := by decide +kernel
theorem dX4_save_29 : decode cX4_save 29 = .ok (.aload_n 0, 1) := by decide +kernel
theorem dX4_save_30 : decode cX4_save 30 = .ok (.aload_n 0, 1) := by decide +kernel
theorem dX4_save_31 : decode cX4_save 31 = .ok (.getfield 16, 3) := by decide +kernel
theorem dX4_save_34 : decode cX4_save 34 = .ok (.bipush 8, 2) := by decide +kernel
theorem dX4_save_36 : decode cX4_save 36 = .ok (.invokevirtual 71, 3) := by decide +kernel
theorem dX4_save_39 : decode cX4_save 39 = .ok (.aload_n 0, 1) := by decide +kernel
theorem dX4_save_40 : decode cX4_save 40 = .ok (.aload_n 0, 1) := by decide +kernel
theorem dX4_save_41 : decode cX4_save 41 = .ok (.getfield 19, 3) := by decide +kernel
theorem dX4_save_44 : decode cX4_save 44 = .ok (.bipush 8, 2) := by decide +kernel
theorem dX4_save_46 : decode cX4_save 46 = .ok (.invokevirtual 71, 3) := by decide +kernel
theorem dX4_save_49 : decode cX4_save 49 = .ok (.aload_n 0, 1) := by decide +kernel
theorem dX4_save_50 : decode cX4_save 50 = .ok (.aload_n 0, 1) := by decide +kernel
theorem dX4_save_51 : decode cX4_save 51 = .ok (.getfield 22, 3) := by decide +kernel
theorem dX4_save_54 : decode cX4_save 54 = .ok (.bipush 8, 2) := by decide +kernel
theorem dX4_save_56 : decode cX4_save 56 = .ok (.invokevirtual 71, 3) := by decide +kernel
theorem dX4_save_59 : decode cX4_save 59 = .ok (.aload_n 0, 1) := by decide +kernel
theorem dX4_save_60 : decode cX4_save 60 = .ok (.aload_n 0, 1) := by decide +kernel
theorem dX4_save_61 : decode cX4_save 61 = .ok (.getfield 25, 3) := by decide +kernel
theorem dX4_save_64 : decode cX4_save 64 = .ok (.sipush 4800, 3) := by decide +kernel
theorem dX4_save_67 : decode cX4_save 67 = .ok (.invokevirtual 71, 3) := by decide +kernel
theorem dX4_save_70 : decode cX4_save 70 = .ok (.aload_n 0, 1) := by decide +kernel
theorem dX4_save_71 : decode cX4_save 71 = .ok (.aload_n 0, 1) := by decide +kernel
theorem dX4_save_72 : decode cX4_save 72 = .ok (.getfield 28, 3) := by decide +kernel
theorem dX4_save_75 : decode cX4_save 75 = .ok (.sipush 4800, 3) := by decide +kernel
theorem dX4_save_78 : decode cX4_save 78 = .ok (.invokevirtual 71, 3) := by decide +kernel
theorem dX4_save_81 : decode cX4_save 81 = .ok (.aload_n 0, 1) := by decide +kernel
theorem dX4_save_82 : decode cX4_save 82 = .ok (.aload_n 0, 1) := by decide +kernel
theorem dX4_save_83 : decode cX4_save 83 = .ok (.getfield 38, 3) := by decide +kernel
theorem dX4_save_86 : decode cX4_save 86 = .ok (.sipush 600, 3) := by decide +kernel
theorem dX4_save_89 : decode cX4_save 89 = .ok (.invokevirtual 71, 3) := by decide +kernel
theorem dX4_save_92 : decode cX4_save 92 = .ok (.aload_n 0, 1) := by decide +kernel
theorem dX4_save_93 : decode cX4_save 93 = .ok (.aload_n 0, 1) := by decide +kernel
theorem dX4_save_94 : decode cX4_save 94 = .ok (.getfield 41, 3) := by decide +kernel
theorem dX4_save_97 : decode cX4_save 97 = .ok (.bipush 20, 2) := by decide +kernel
theorem dX4_save_99 : decode cX4_save 99 = .ok (.invokevirtual 71, 3) := by decide +kernel
theorem dX4_save_102 : decode cX4_save 102 = .ok (.aload_n 0, 1) := by decide +kernel
theorem dX4_save_103 : decode cX4_save 103 = .ok (.aload_n 0, 1) := by decide +kernel
theorem dX4_save_104 : decode cX4_save 104 = .ok (.getfield 44, 3) := by decide +kernel
theorem dX4_save_107 : decode cX4_save 107 = .ok (.bipush 20, 2) := by decide +kernel
theorem dX4_save_109 : decode cX4_save 109 = .ok (.invokevirtual 71, 3) := by decide +kernel
theorem dX4_save_112 : decode cX4_save 112 = .ok (.aload_n 0, 1) := by decide +kernel
theorem dX4_save_113 : decode cX4_save 113 = .ok (.aload_n 0, 1) := by decide +kernel
theorem dX4_save_114 : decode cX4_save 114 = .ok (.getfield 47, 3) := by decide +kernel
theorem dX4_save_117 : decode cX4_save 117 = .ok (.bipush 20, 2) := by decide +kernel
theorem dX4_save_119 : decode cX4_save 119 = .ok (.invokevirtual 71, 3) := by decide +kernel
theorem dX4_save_122 : decode cX4_save 122 = .ok (.aload_n 0, 1) := by decide +kernel
theorem dX4_save_123 : decode cX4_save 123 = .ok (.getfield 51, 3) := by decide +kernel
theorem dX4_save_126 : decode cX4_save 126 = .ok (.aload_n 0, 1) := by decide +kernel
theorem dX4_save_127 : decode cX4_save 127 = .ok (.getfield 68, 3) := by decide +kernel
theorem dX4_save_130 : decode cX4_save 130 = .ok (.aload_n 0, 1) := by decide +kernel
theorem dX4_save_131 : decode cX4_save 131 = .ok (.getfield 75, 3) := by decide +kernel
theorem dX4_save_134 : decode cX4_save 134 = .ok (.iastore, 1) := by decide +kernel
theorem dX4_save_135 : decode cX4_save 135 = .ok (.iconst 0, 1) := by decide +kernel
theorem dX4_save_136 : decode cX4_save 136 = .ok (.istore_n 2, 1) := by decide +kernel
theorem dX4_save_137 : decode cX4_save 137 = .ok (.iload_n 2, 1) := by decide +kernel
theorem dX4_save_138 : decode cX4_save 138 = .ok (.sipush 4800, 3) := by decide +kernel
theorem dX4_save_141 : decode cX4_save 141 = .ok (.if_icmp .ge 27, 3) := by decide +kernel
theorem dX4_save_144 : decode cX4_save 144 = .ok (.aload_n 0, 1) := by decide +kernel
theorem dX4_save_145 : decode cX4_save 145 = .ok (.getfield 55, 3) := by decide +kernel
theorem dX4_save_148 : decode cX4_save 148 = .ok (.sipush 5400, 3) := by decide +kernel
theorem dX4_save_151 : decode cX4_save 151 = .ok (.iload_n 1, 1) := by decide +kernel
theorem dX4_save_152 : decode cX4_save 152 = .ok (.imul, 1) := by decide +kernel
theorem dX4_save_153 : decode cX4_save 153 = .ok (.iload_n 2, 1) := by decide +kernel
theorem dX4_save_154 : decode cX4_save 154 = .ok (.iadd, 1) := by decide +kernel
theorem dX4_save_155 : decode cX4_save 155 = .ok (.aload_n 0, 1) := by decide +kernel
theorem dX4_save_156 : decode cX4_save 156 = .ok (.getfield 31, 3) := by decide +kernel
theorem dX4_save_159 : decode cX4_save 159 = .ok (.iload_n 2, 1) := by decide +kernel
theorem dX4_save_160 : decode cX4_save 160 = .ok (.laload, 1) := by decide +kernel
theorem dX4_save_161 : decode cX4_save 161 = .ok (.lastore, 1) := by decide +kernel
theorem dX4_save_162 : decode cX4_save 162 = .ok (.iinc 2 1, 3) := by decide +kernel
theorem dX4_save_165 : decode cX4_save 165 = .ok (.goto (-28), 3) := by decide +kernel
theorem dX4_save_168 : decode cX4_save 168 = .ok (.iconst 0, 1) := by decide +kernel
theorem dX4_save_169 : decode cX4_save 169 = .ok (.istore_n 2, 1) := by decide +kernel
theorem dX4_save_170 : decode cX4_save 170 = .ok (.iload_n 2, 1) := by decide +kernel
theorem dX4_save_171 : decode cX4_save 171 = .ok (.sipush 600, 3) := by decide +kernel
theorem dX4_save_174 : decode cX4_save 174 = .ok (.if_icmp .ge 31, 3) := by decide +kernel
theorem dX4_save_177 : decode cX4_save 177 = .ok (.aload_n 0, 1) := by decide +kernel
theorem dX4_save_178 : decode cX4_save 178 = .ok (.getfield 55, 3) := by decide +kernel
theorem dX4_save_181 : decode cX4_save 181 = .ok (.sipush 5400, 3) := by decide +kernel
theorem dX4_save_184 : decode cX4_save 184 = .ok (.iload_n 1, 1) := by decide +kernel
theorem dX4_save_185 : decode cX4_save 185 = .ok (.imul, 1) := by decide +kernel
theorem dX4_save_186 : decode cX4_save 186 = .ok (.sipush 4800, 3) := by decide +kernel
theorem dX4_save_189 : decode cX4_save 189 = .ok (.iadd, 1) := by decide +kernel
theorem dX4_save_190 : decode cX4_save 190 = .ok (.iload_n 2, 1) := by decide +kernel
theorem dX4_save_191 : decode cX4_save 191 = .ok (.iadd, 1) := by decide +kernel
theorem dX4_save_192 : decode cX4_save 192 = .ok (.aload_n 0, 1) := by decide +kernel
theorem dX4_save_193 : decode cX4_save 193 = .ok (.getfield 35, 3) := by decide +kernel
theorem dX4_save_196 : decode cX4_save 196 = .ok (.iload_n 2, 1) := by decide +kernel
theorem dX4_save_197 : decode cX4_save 197 = .ok (.laload, 1) := by decide +kernel
theorem dX4_save_198 : decode cX4_save 198 = .ok (.lastore, 1) := by decide +kernel
theorem dX4_save_199 : decode cX4_save 199 = .ok (.iinc 2 1, 3) := by decide +kernel
theorem dX4_save_202 : decode cX4_save 202 = .ok (.goto (-32), 3) := by decide +kernel
theorem dX4_save_205 : decode cX4_save 205 = .ok (.return_, 1) := by decide +kernel
def rmX4_save : Room := { frames := 1, cells := 0, slots := 0, locals := 23 }
noncomputable def f_X4_save_170 : Nat → Int32 → Int32 → MS → Option (MS)
  | 0, _, _, _ => none
  | n + 1, x1, x2, u => (if (600 : Int32) ≤ x2 then some u else (if ix x2 600 = true then (if ix (((5400 * x1) + 4800) + x2) 48600 = true then f_X4_save_170 n x1 (x2 + 1) (mB u 17 (Int32.toNatClampNeg (((5400 * x1) + 4800) + x2)) (u.2.2 10 (Int32.toNatClampNeg x2))) else none) else none))
noncomputable def f_X4_save_137 : Nat → Int32 → Int32 → MS → Option (MS)
  | 0, _, _, _ => none
  | n + 1, x1, x2, u => (if (4800 : Int32) ≤ x2 then f_X4_save_170 NF x1 0 u else (if ix x2 4800 = true then (if ix ((5400 * x1) + x2) 48600 = true then f_X4_save_137 n x1 (x2 + 1) (mB u 17 (Int32.toNatClampNeg ((5400 * x1) + x2)) (u.2.2 9 (Int32.toNatClampNeg x2))) else none) else none))
noncomputable def f_X4_save (x1 : Int32) (u : MS) : Option (MS) := (f_X4_write_a2 8 (mF u 20 (10940 * x1))).bind (fun z1 => (f_X4_write_a3 8 z1).bind (fun z3 => (f_X4_write_a4 8 z3).bind (fun z5 => (f_X4_write_a5 8 z5).bind (fun z7 => (f_X4_write_a6 8 z7).bind (fun z9 => (f_X4_write_a7 4800 z9).bind (fun z11 => (f_X4_write_a8 4800 z11).bind (fun z13 => (f_X4_write_a11 600 z13).bind (fun z15 => (f_X4_write_a12 20 z15).bind (fun z17 => (f_X4_write_a13 20 z17).bind (fun z19 => (f_X4_write_a14 20 z19).bind (fun z21 => (if ix (z21.1 20) 98460 = true then f_X4_save_137 NF x1 0 (mA z21 16 (Int32.toNatClampNeg (z21.1 20)) (z21.1 15)) else none))))))))))))
section
variable {p : Program} {l : Launch} {e : Env} {s : State} {m : MethodId} {args : Array Value} {below : List Frame} {meth : Method} {c : Code}
variable {G : GX} {A : Nat → Prop} {ad : Nat → Nat}
set_option maxHeartbeats 4000000 in
set_option maxRecDepth 100000 in
theorem w_X4_save_170 (F : FX p m c cX4_save 3 s args yX4_save none RX4 meth) {z : MS} : ∀ (n : Nat) (x1 : Int32) (x2 : Int32) (u : MS) (H : Heap) (locs : List Loc) (ls : Array Slot), WD G A s (mw G ad u) H locs → lv_has ls 3 [(0, .ref (ad 0)), (1, .int x1), (2, .int x2)] → f_X4_save_170 n x1 x2 u = some z → W p l e rmX4_save s m args below meth c H locs 0 0 (MQ below (QW G (mw G ad z) A none) args s 0 0 A) (F0 m 170 ls []) := by
  obtain ⟨⟨hx, hb, hml, hown, hts⟩, hr, hlocks⟩ := id F
  intro n
  induction n with
  | zero =>
    intro x1 x2 u H locs ls hw hl h
    rw [f_X4_save_170] at h
    cases h
  | succ n ih =>
    intro x1 x2 u H locs ls hw hl h
    rw [f_X4_save_170] at h
    refine lv_iload_n hx hb dX4_save_170 rfl (lv_at hl 2 rfl) ?_
    refine lv_sipush (v := 600) hx hb dX4_save_171 rfl ?_
    refine lv_icmp_ge (tgt := 205) hx hb dX4_save_174 rfl (fun c27 => ?_) (fun c27 => ?_)
    · replace h := itT h c27
      cases h
      exact retW_v F hw dX4_save_205
    · replace h := itF h c27
      refine lv_aload_n hx hb dX4_save_177 rfl (lv_at hl 0 rfl) ?_
      refine m_g17 F hw dX4_save_178 ?_
      refine lv_sipush (v := 5400) hx hb dX4_save_181 rfl ?_
      refine lv_iload_n hx hb dX4_save_184 rfl (lv_at hl 1 rfl) ?_
      refine lv_imul hx hb dX4_save_185 ?_
      refine lv_sipush (v := 4800) hx hb dX4_save_186 rfl ?_
      refine lv_iadd hx hb dX4_save_189 ?_
      refine lv_iload_n hx hb dX4_save_190 rfl (lv_at hl 2 rfl) ?_
      refine lv_iadd hx hb dX4_save_191 ?_
      refine lv_aload_n hx hb dX4_save_192 rfl (lv_at hl 0 rfl) ?_
      refine m_g10 F hw dX4_save_193 ?_
      refine lv_iload_n hx hb dX4_save_196 rfl (lv_at hl 2 rfl) ?_
      obtain ⟨g28, h⟩ := gd h
      refine m_l10 F hw g28 dX4_save_197 ?_
      obtain ⟨g29, h⟩ := gd h
      refine m_s17 F hw g29 dX4_save_198 (fun H locs hw => ?_)
      refine lv_iinc (v := (x2 + 1)) (lv' := [(2, .int (x2 + 1)), (0, .ref (ad 0)), (1, .int x1)]) hx hb dX4_save_199 hl (k := 2) rfl rfl (by decide) rfl (fun ls hl => ?_)
      refine lv_goto (tgt := 170) hx hb dX4_save_202 rfl ?_
      exact ih _ _ _ _ _ _ hw (lv_sub hl [1, 2, 0] rfl) h
set_option maxHeartbeats 4000000 in
set_option maxRecDepth 100000 in
theorem w_X4_save_137 (F : FX p m c cX4_save 3 s args yX4_save none RX4 meth) {z : MS} : ∀ (n : Nat) (x1 : Int32) (x2 : Int32) (u : MS) (H : Heap) (locs : List Loc) (ls : Array Slot), WD G A s (mw G ad u) H locs → lv_has ls 3 [(0, .ref (ad 0)), (1, .int x1), (2, .int x2)] → f_X4_save_137 n x1 x2 u = some z → W p l e rmX4_save s m args below meth c H locs 0 0 (MQ below (QW G (mw G ad z) A none) args s 0 0 A) (F0 m 137 ls []) := by
  obtain ⟨⟨hx, hb, hml, hown, hts⟩, hr, hlocks⟩ := id F
  intro n
  induction n with
  | zero =>
    intro x1 x2 u H locs ls hw hl h
    rw [f_X4_save_137] at h
    cases h
  | succ n ih =>
    intro x1 x2 u H locs ls hw hl h
    rw [f_X4_save_137] at h
    refine lv_iload_n hx hb dX4_save_137 rfl (lv_at hl 2 rfl) ?_
    refine lv_sipush (v := 4800) hx hb dX4_save_138 rfl ?_
    refine lv_icmp_ge (tgt := 168) hx hb dX4_save_141 rfl (fun c24 => ?_) (fun c24 => ?_)
    · replace h := itT h c24
      refine lv_iconst (v := 0) hx hb dX4_save_168 rfl ?_
      refine lv_istore_n (lv' := [(2, .int 0), (0, .ref (ad 0)), (1, .int x1)]) hx hb dX4_save_169 rfl hl (by decide) rfl (fun ls hl => ?_)
      exact w_X4_save_170 F NF _ _ _ _ _ _ hw (lv_sub hl [1, 2, 0] rfl) h
    · replace h := itF h c24
      refine lv_aload_n hx hb dX4_save_144 rfl (lv_at hl 0 rfl) ?_
      refine m_g17 F hw dX4_save_145 ?_
      refine lv_sipush (v := 5400) hx hb dX4_save_148 rfl ?_
      refine lv_iload_n hx hb dX4_save_151 rfl (lv_at hl 1 rfl) ?_
      refine lv_imul hx hb dX4_save_152 ?_
      refine lv_iload_n hx hb dX4_save_153 rfl (lv_at hl 2 rfl) ?_
      refine lv_iadd hx hb dX4_save_154 ?_
      refine lv_aload_n hx hb dX4_save_155 rfl (lv_at hl 0 rfl) ?_
      refine m_g9 F hw dX4_save_156 ?_
      refine lv_iload_n hx hb dX4_save_159 rfl (lv_at hl 2 rfl) ?_
      obtain ⟨g25, h⟩ := gd h
      refine m_l9 F hw g25 dX4_save_160 ?_
      obtain ⟨g26, h⟩ := gd h
      refine m_s17 F hw g26 dX4_save_161 (fun H locs hw => ?_)
      refine lv_iinc (v := (x2 + 1)) (lv' := [(2, .int (x2 + 1)), (0, .ref (ad 0)), (1, .int x1)]) hx hb dX4_save_162 hl (k := 2) rfl rfl (by decide) rfl (fun ls hl => ?_)
      refine lv_goto (tgt := 137) hx hb dX4_save_165 rfl ?_
      exact ih _ _ _ _ _ _ hw (lv_sub hl [1, 2, 0] rfl) h
set_option maxHeartbeats 4000000 in
set_option maxRecDepth 100000 in
theorem w_X4_save_0 (F : FX p m c cX4_save 3 s args yX4_save none RX4 meth) {z : MS} : ∀ (x1 : Int32) (u : MS) (H : Heap) (locs : List Loc) (ls : Array Slot), WD G A s (mw G ad u) H locs → lv_has ls 3 [(0, .ref (ad 0)), (1, .int x1)] → f_X4_save x1 u = some z → W p l e rmX4_save s m args below meth c H locs 0 0 (MQ below (QW G (mw G ad z) A none) args s 0 0 A) (F0 m 0 ls []) := by
  obtain ⟨⟨hx, hb, hml, hown, hts⟩, hr, hlocks⟩ := id F
  intro x1 u H locs ls hw hl h
  unfold f_X4_save at h
  refine lv_aload_n hx hb dX4_save_0 rfl (lv_at hl 0 rfl) ?_
  refine lv_sipush (v := 10940) hx hb dX4_save_1 rfl ?_
  refine lv_iload_n hx hb dX4_save_4 rfl (lv_at hl 1 rfl) ?_
  refine lv_imul hx hb dX4_save_5 ?_
  refine m_p20 F hw dX4_save_6 (fun H locs hw => ?_)
  refine lv_aload_n hx hb dX4_save_9 rfl (lv_at hl 0 rfl) ?_
  refine lv_aload_n hx hb dX4_save_10 rfl (lv_at hl 0 rfl) ?_
  refine m_g2 F hw dX4_save_11 ?_
  refine lv_bipush (v := 8) hx hb dX4_save_14 rfl ?_
  obtain ⟨z1, e2, h⟩ := bnd h
  refine k_X4_write_a2 F hw e2 ⟨Nat.le_of_ble_eq_true rfl, Nat.le_of_ble_eq_true rfl⟩ ⟨Nat.zero_le _, Nat.zero_le _⟩ hl.1 (Nat.le_of_ble_eq_true rfl) dX4_save_16 (fun H locs hw => ?_)
  refine lv_aload_n hx hb dX4_save_19 rfl (lv_at hl 0 rfl) ?_
  refine lv_aload_n hx hb dX4_save_20 rfl (lv_at hl 0 rfl) ?_
  refine m_g3 F hw dX4_save_21 ?_
  refine lv_bipush (v := 8) hx hb dX4_save_24 rfl ?_
  obtain ⟨z3, e4, h⟩ := bnd h
  refine k_X4_write_a3 F hw e4 ⟨Nat.le_of_ble_eq_true rfl, Nat.le_of_ble_eq_true rfl⟩ ⟨Nat.zero_le _, Nat.zero_le _⟩ hl.1 (Nat.le_of_ble_eq_true rfl) dX4_save_26 (fun H locs hw => ?_)
  refine lv_aload_n hx hb dX4_save_29 rfl (lv_at hl 0 rfl) ?_
  refine lv_aload_n hx hb dX4_save_30 rfl (lv_at hl 0 rfl) ?_
  refine m_g4 F hw dX4_save_31 ?_
  refine lv_bipush (v := 8) hx hb dX4_save_34 rfl ?_
  obtain ⟨z5, e6, h⟩ := bnd h
  refine k_X4_write_a4 F hw e6 ⟨Nat.le_of_ble_eq_true rfl, Nat.le_of_ble_eq_true rfl⟩ ⟨Nat.zero_le _, Nat.zero_le _⟩ hl.1 (Nat.le_of_ble_eq_true rfl) dX4_save_36 (fun H locs hw => ?_)
  refine lv_aload_n hx hb dX4_save_39 rfl (lv_at hl 0 rfl) ?_
  refine lv_aload_n hx hb dX4_save_40 rfl (lv_at hl 0 rfl) ?_
  refine m_g5 F hw dX4_save_41 ?_
  refine lv_bipush (v := 8) hx hb dX4_save_44 rfl ?_
  obtain ⟨z7, e8, h⟩ := bnd h
  refine k_X4_write_a5 F hw e8 ⟨Nat.le_of_ble_eq_true rfl, Nat.le_of_ble_eq_true rfl⟩ ⟨Nat.zero_le _, Nat.zero_le _⟩ hl.1 (Nat.le_of_ble_eq_true rfl) dX4_save_46 (fun H locs hw => ?_)
  refine lv_aload_n hx hb dX4_save_49 rfl (lv_at hl 0 rfl) ?_
  refine lv_aload_n hx hb dX4_save_50 rfl (lv_at hl 0 rfl) ?_
  refine m_g6 F hw dX4_save_51 ?_
  refine lv_bipush (v := 8) hx hb dX4_save_54 rfl ?_
  obtain ⟨z9, e10, h⟩ := bnd h
  refine k_X4_write_a6 F hw e10 ⟨Nat.le_of_ble_eq_true rfl, Nat.le_of_ble_eq_true rfl⟩ ⟨Nat.zero_le _, Nat.zero_le _⟩ hl.1 (Nat.le_of_ble_eq_true rfl) dX4_save_56 (fun H locs hw => ?_)
  refine lv_aload_n hx hb dX4_save_59 rfl (lv_at hl 0 rfl) ?_
  refine lv_aload_n hx hb dX4_save_60 rfl (lv_at hl 0 rfl) ?_
  refine m_g7 F hw dX4_save_61 ?_
  refine lv_sipush (v := 4800) hx hb dX4_save_64 rfl ?_
  obtain ⟨z11, e12, h⟩ := bnd h
  refine k_X4_write_a7 F hw e12 ⟨Nat.le_of_ble_eq_true rfl, Nat.le_of_ble_eq_true rfl⟩ ⟨Nat.zero_le _, Nat.zero_le _⟩ hl.1 (Nat.le_of_ble_eq_true rfl) dX4_save_67 (fun H locs hw => ?_)
  refine lv_aload_n hx hb dX4_save_70 rfl (lv_at hl 0 rfl) ?_
  refine lv_aload_n hx hb dX4_save_71 rfl (lv_at hl 0 rfl) ?_
  refine m_g8 F hw dX4_save_72 ?_
  refine lv_sipush (v := 4800) hx hb dX4_save_75 rfl ?_
  obtain ⟨z13, e14, h⟩ := bnd h
  refine k_X4_write_a8 F hw e14 ⟨Nat.le_of_ble_eq_true rfl, Nat.le_of_ble_eq_true rfl⟩ ⟨Nat.zero_le _, Nat.zero_le _⟩ hl.1 (Nat.le_of_ble_eq_true rfl) dX4_save_78 (fun H locs hw => ?_)
  refine lv_aload_n hx hb dX4_save_81 rfl (lv_at hl 0 rfl) ?_
  refine lv_aload_n hx hb dX4_save_82 rfl (lv_at hl 0 rfl) ?_
  refine m_g11 F hw dX4_save_83 ?_
  refine lv_sipush (v := 600) hx hb dX4_save_86 rfl ?_
  obtain ⟨z15, e16, h⟩ := bnd h
  refine k_X4_write_a11 F hw e16 ⟨Nat.le_of_ble_eq_true rfl, Nat.le_of_ble_eq_true rfl⟩ ⟨Nat.zero_le _, Nat.zero_le _⟩ hl.1 (Nat.le_of_ble_eq_true rfl) dX4_save_89 (fun H locs hw => ?_)
  refine lv_aload_n hx hb dX4_save_92 rfl (lv_at hl 0 rfl) ?_
  refine lv_aload_n hx hb dX4_save_93 rfl (lv_at hl 0 rfl) ?_
  refine m_g12 F hw dX4_save_94 ?_
  refine lv_bipush (v := 20) hx hb dX4_save_97 rfl ?_
  obtain ⟨z17, e18, h⟩ := bnd h
  refine k_X4_write_a12 F hw e18 ⟨Nat.le_of_ble_eq_true rfl, Nat.le_of_ble_eq_true rfl⟩ ⟨Nat.zero_le _, Nat.zero_le _⟩ hl.1 (Nat.le_of_ble_eq_true rfl) dX4_save_99 (fun H locs hw => ?_)
  refine lv_aload_n hx hb dX4_save_102 rfl (lv_at hl 0 rfl) ?_
  refine lv_aload_n hx hb dX4_save_103 rfl (lv_at hl 0 rfl) ?_
  refine m_g13 F hw dX4_save_104 ?_
  refine lv_bipush (v := 20) hx hb dX4_save_107 rfl ?_
  obtain ⟨z19, e20, h⟩ := bnd h
  refine k_X4_write_a13 F hw e20 ⟨Nat.le_of_ble_eq_true rfl, Nat.le_of_ble_eq_true rfl⟩ ⟨Nat.zero_le _, Nat.zero_le _⟩ hl.1 (Nat.le_of_ble_eq_true rfl) dX4_save_109 (fun H locs hw => ?_)
  refine lv_aload_n hx hb dX4_save_112 rfl (lv_at hl 0 rfl) ?_
  refine lv_aload_n hx hb dX4_save_113 rfl (lv_at hl 0 rfl) ?_
  refine m_g14 F hw dX4_save_114 ?_
  refine lv_bipush (v := 20) hx hb dX4_save_117 rfl ?_
  obtain ⟨z21, e22, h⟩ := bnd h
  refine k_X4_write_a14 F hw e22 ⟨Nat.le_of_ble_eq_true rfl, Nat.le_of_ble_eq_true rfl⟩ ⟨Nat.zero_le _, Nat.zero_le _⟩ hl.1 (Nat.le_of_ble_eq_true rfl) dX4_save_119 (fun H locs hw => ?_)
  refine lv_aload_n hx hb dX4_save_122 rfl (lv_at hl 0 rfl) ?_
  refine m_g16 F hw dX4_save_123 ?_
  refine lv_aload_n hx hb dX4_save_126 rfl (lv_at hl 0 rfl) ?_
  refine m_g20 F hw dX4_save_127 ?_
  refine lv_aload_n hx hb dX4_save_130 rfl (lv_at hl 0 rfl) ?_
  refine m_g15 F hw dX4_save_131 ?_
  obtain ⟨g23, h⟩ := gd h
  refine m_s16 F hw g23 dX4_save_134 (fun H locs hw => ?_)
  refine lv_iconst (v := 0) hx hb dX4_save_135 rfl ?_
  refine lv_istore_n (lv' := [(2, .int 0), (0, .ref (ad 0)), (1, .int x1)]) hx hb dX4_save_136 rfl hl (by decide) rfl (fun ls hl => ?_)
  exact w_X4_save_137 F NF _ _ _ _ _ _ hw (lv_sub hl [1, 2, 0] rfl) h
end
theorem c_X4_save {l : Launch} {G : GX} {ad : Nat → Nat} {x1 : Int32} {u : MS} {z : MS} (h : f_X4_save x1 u = some z) : MW l yX4_save cX4_save 3 none rmX4_save G (mw G ad u) (mw G ad z) [.ref (ad 0), .int x1] none := MW.of (by decide) (Nat.le_of_ble_eq_true rfl) (fun p e s m below meth c ls F hw hl => w_X4_save_0 F _ _ _ _ _ hw hl h)
theorem yv_X4_save : YV RX4 104 yX4_save cX4_save 3 none 1 := ⟨(tw 611 (by decide +kernel) rfl), (tw 6 (by decide +kernel) rfl), (tw 608 (by decide +kernel) rfl), (tw 610 (by decide +kernel) rfl), (tp 13 (by decide +kernel) rfl), by decide +kernel⟩
theorem k_X4_save {p : Program} {l : Launch} {e : Env} {R : Room} {s : State} {m : MethodId} {args : Array Value} {below : List Frame} {meth : Method} {c : Code} {H : Heap} {locs : List Loc} {cells slots : Nat} {Q : State → Prop} {G : GX} {A : Nat → Prop} {ad : Nat → Nat} {cc : ByteArray} {nL pc : Nat} {y0 : MethodName} {ret0 : Option FieldType} {ls : Array Slot} {rest : List Value} {u : MS} {x1 : Int32} {z : MS} (F : FX p m c cc nL s args y0 ret0 RX4 meth) (hw : WD G A s (mw G ad u) H locs) (h : f_X4_save x1 u = some z) (hR : rmX4_save.frames + 1 ≤ R.frames ∧ 8 + (3 + 11) + rmX4_save.locals ≤ R.locals) (hcs : cells ≤ R.cells ∧ slots ≤ R.slots) (hsz : ls.size = nL) (hW : (rest.map fun v => v.category).sum ≤ 8) (hdg : decode cc pc = .ok (.invokevirtual 104, 3)) (kk : ∀ (H : Heap) (locs : List Loc), WD G A s (mw G ad z) H locs → W p l e R s m args below meth c H locs cells slots Q (F0 m (pc + 3) ls (rest))) : W p l e R s m args below meth c H locs cells slots Q (F0 m pc ls (.int x1 :: .ref (ad 0) :: rest)) := callW (runV F yv_X4_save (c_X4_save h) hw.1 hw.2.1 hw.2.2.1 rfl rfl rfl ⟨rfl, rfl⟩ hR hcs rfl hsz rfl hW hdg) hw.2.2.2 hw.2.2.1.own_in (fun H1 l1 hP _ hS => kk H1 l1 ⟨hw.1, hP, hw.2.2.1.addr rfl, hS⟩)
/-! ===== X4_load ===== -/
theorem dX4_load_0 : decode cX4_load 0 = .ok (.aload_n 0, 1) := by decide +kernel
theorem dX4_load_1 : decode cX4_load 1 = .ok (.sipush 10940, 3) := by decide +kernel
theorem dX4_load_4 : decode cX4_load 4 = .ok (.iload_n 1, 1) := by decide +kernel
theorem dX4_load_5 : decode cX4_load 5 = .ok (.imul, 1) := by decide +kernel
theorem dX4_load_6 : decode cX4_load 6 = .ok (.putfield 68, 3) := by decide +kernel
theorem dX4_load_9 : decode cX4_load 9 = .ok (.aload_n 0, 1) := by decide +kernel
theorem dX4_load_10 : decode cX4_load 10 = .ok (.aload_n 0, 1) := by decide +kernel
theorem dX4_load_11 : decode cX4_load 11 = .ok (.getfield 7, 3) := by decide +kernel
theorem dX4_load_14 : decode cX4_load 14 = .ok (.bipush 8, 2) := by decide +kernel
theorem dX4_load_16 : decode cX4_load 16 = .ok (.invokevirtual 78, 3) := by decide +kernel
theorem dX4_load_19 : decode cX4_load 19 = .ok (.aload_n 0, 1) := by decide +kernel
theorem dX4_load_20 : decode cX4_load 20 = .ok (.aload_n 0, 1) := by decide +kernel
theorem dX4_load_21 : decode cX4_load 21 = .ok (.getfield 13, 3) := by decide +kernel
theorem dX4_load_24 : decode cX4_load 24 = .ok (.bipush 8, 2) := by decide +kernel
theorem dX4_load_26 : decode cX4_load 26 = .ok (.invokevirtual 78, 3) := by decide +kernel
theorem dX4_load_29 : decode cX4_load 29 = .ok (.aload_n 0, 1) := by decide +kernel
theorem dX4_load_30 : decode cX4_load 30 = .ok (.aload_n 0, 1) := by decide +kernel
theorem dX4_load_31 : decode cX4_load 31 = .ok (.getfield 16, 3) := by decide +kernel
theorem dX4_load_34 : decode cX4_load 34 = .ok (.bipush 8, 2) := by decide +kernel
theorem dX4_load_36 : decode cX4_load 36 = .ok (.invokevirtual 78, 3) := by decide +kernel
theorem dX4_load_39 : decode cX4_load 39 = .ok (.aload_n 0, 1) := by decide +kernel
theorem dX4_load_40 : decode cX4_load 40 = .ok (.aload_n 0, 1) := by decide +kernel
theorem dX4_load_41 : decode cX4_load 41 = .ok (.getfield 19, 3) := by decide +kernel
theorem dX4_load_44 : decode cX4_load 44 = .ok (.bipush 8, 2) := by decide +kernel
theorem dX4_load_46 : decode cX4_load 46 = .ok (.invokevirtual 78, 3) := by decide +kernel
theorem dX4_load_49 : decode cX4_load 49 = .ok (.aload_n 0, 1) := by decide +kernel
theorem dX4_load_50 : decode cX4_load 50 = .ok (.aload_n 0, 1) := by decide +kernel
theorem dX4_load_51 : decode cX4_load 51 = .ok (.getfield 22, 3) := by decide +kernel
theorem dX4_load_54 : decode cX4_load 54 = .ok (.bipush 8, 2) := by decide +kernel
theorem dX4_load_56 : decode cX4_load 56 = .ok (.invokevirtual 78, 3) := by decide +kernel
theorem dX4_load_59 : decode cX4_load 59 = .ok (.aload_n 0, 1) := by decide +kernel
theorem dX4_load_60 : decode cX4_load 60 = .ok (.aload_n 0, 1) := by decide +kernel
theorem dX4_load_61 : decode cX4_load 61 = .ok (.getfield 25, 3) := by decide +kernel
theorem dX4_load_64 : decode cX4_load 64 = .ok (.sipush 4800, 3) := by decide +kernel
theorem dX4_load_67 : decode cX4_load 67 = .ok (.invokevirtual 78, 3) := by decide +kernel
theorem dX4_load_70 : decode cX4_load 70 = .ok (.aload_n 0, 1) := by decide +kernel
theorem dX4_load_71 : decode cX4_load 71 = .ok (.aload_n 0, 1) := by decide +kernel
theorem dX4_load_72 : decode cX4_load 72 = .ok (.getfield 28, 3) := by decide +kernel
theorem dX4_load_75 : decode cX4_load 75 = .ok (.sipush 4800, 3) := by decide +kernel
theorem dX4_load_78 : decode cX4_load 78 = .ok (.invokevirtual 78, 3) := by decide +kernel
theorem dX4_load_81 : decode cX4_load 81 = .ok (.aload_n 0, 1) := by decide +kernel
theorem dX4_load_82 : decode cX4_load 82 = .ok (.aload_n 0, 1) := by decide +kernel
theorem dX4_load_83 : decode cX4_load 83 = .ok (.getfield 38, 3) := by decide +kernel
theorem dX4_load_86 : decode cX4_load 86 = .ok (.sipush 600, 3) := by decide +kernel
theorem dX4_load_89 : decode cX4_load 89 = .ok (.invokevirtual 78, 3) := by decide +kernel
theorem dX4_load_92 : decode cX4_load 92 = .ok (.aload_n 0, 1) := by decide +kernel
theorem dX4_load_93 : decode cX4_load 93 = .ok (.aload_n 0, 1) := by decide +kernel
theorem dX4_load_94 : decode cX4_load 94 = .ok (.getfield 41, 3) := by decide +kernel
theorem dX4_load_97 : decode cX4_load 97 = .ok (.bipush 20, 2) := by decide +kernel
theorem dX4_load_99 : decode cX4_load 99 = .ok (.invokevirtual 78, 3) := by decide +kernel
theorem dX4_load_102 : decode cX4_load 102 = .ok (.aload_n 0, 1) := by decide +kernel
theorem dX4_load_103 : decode cX4_load 103 = .ok (.aload_n 0, 1) := by decide +kernel
theorem dX4_load_104 : decode cX4_load 104 = .ok (.getfield 44, 3) := by decide +kernel
theorem dX4_load_107 : decode cX4_load 107 = .ok (.bipush 20, 2) := by decide +kernel
theorem dX4_load_109 : decode cX4_load 109 = .ok (.invokevirtual 78, 3) := by decide +kernel
theorem dX4_load_112 : decode cX4_load 112 = .ok (.aload_n 0, 1) := by decide +kernel
theorem dX4_load_113 : decode cX4_load 113 = .ok (.aload_n 0, 1) := by decide +kernel
theorem dX4_load_114 : decode cX4_load 114 = .ok (.getfield 47, 3) := by decide +kernel
theorem dX4_load_117 : decode cX4_load 117 = .ok (.bipush 20, 2) := by decide +kernel
theorem dX4_load_119 : decode cX4_load 119 = .ok (.invokevirtual 78, 3) := by decide +kernel
theorem dX4_load_122 : decode cX4_load 122 = .ok (.aload_n 0, 1) := by decide +kernel
theorem dX4_load_123 : decode cX4_load 123 = .ok (.aload_n 0, 1) := by decide +kernel
theorem dX4_load_124 : decode cX4_load 124 = .ok (.getfield 51, 3) := by decide +kernel
theorem dX4_load_127 : decode cX4_load 127 = .ok (.aload_n 0, 1) := by decide +kernel
theorem dX4_load_128 : decode cX4_load 128 = .ok (.getfield 68, 3) := by decide +kernel
theorem dX4_load_131 : decode cX4_load 131 = .ok (.iaload, 1) := by decide +kernel
theorem dX4_load_132 : decode cX4_load 132 = .ok (.putfield 75, 3) := by decide +kernel
theorem dX4_load_135 : decode cX4_load 135 = .ok (.iconst 0, 1) := by decide +kernel
theorem dX4_load_136 : decode cX4_load 136 = .ok (.istore_n 2, 1) := by decide +kernel
theorem dX4_load_137 : decode cX4_load 137 = .ok (.iload_n 2, 1) := by decide +kernel
theorem dX4_load_138 : decode cX4_load 138 = .ok (.sipush 4800, 3) := by decide +kernel
theorem dX4_load_141 : decode cX4_load 141 = .ok (.if_icmp .ge 27, 3) := by decide +kernel
theorem dX4_load_144 : decode cX4_load 144 = .ok (.aload_n 0, 1) := by decide +kernel
theorem dX4_load_145 : decode cX4_load 145 = .ok (.getfield 31, 3) := by decide +kernel
theorem dX4_load_148 : decode cX4_load 148 = .ok (.iload_n 2, 1) := by decide +kernel
theorem dX4_load_149 : decode cX4_load 149 = .ok (.aload_n 0, 1) := by decide +kernel
theorem dX4_load_150 : decode cX4_load 150 = .ok (.getfield 55, 3) := by decide +kernel
theorem dX4_load_153 : decode cX4_load 153 = .ok (.sipush 5400, 3) := by decide +kernel
theorem dX4_load_156 : decode cX4_load 156 = .ok (.iload_n 1, 1) := by decide +kernel
theorem dX4_load_157 : decode cX4_load 157 = .ok (.imul, 1) := by decide +kernel
theorem dX4_load_158 : decode cX4_load 158 = .ok (.iload_n 2, 1) := by decide +kernel
theorem dX4_load_159 : decode cX4_load 159 = .ok (.iadd, 1) := by decide +kernel
theorem dX4_load_160 : decode cX4_load 160 = .ok (.laload, 1) := by decide +kernel
theorem dX4_load_161 : decode cX4_load 161 = .ok (.lastore, 1) := by decide +kernel
theorem dX4_load_162 : decode cX4_load 162 = .ok (.iinc 2 1, 3) := by decide +kernel
theorem dX4_load_165 : decode cX4_load 165 = .ok (.goto (-28), 3) := by decide +kernel
theorem dX4_load_168 : decode cX4_load 168 = .ok (.iconst 0, 1) := by decide +kernel
theorem dX4_load_169 : decode cX4_load 169 = .ok (.istore_n 2, 1) := by decide +kernel
theorem dX4_load_170 : decode cX4_load 170 = .ok (.iload_n 2, 1) := by decide +kernel
theorem dX4_load_171 : decode cX4_load 171 = .ok (.sipush 600, 3) := by decide +kernel
theorem dX4_load_174 : decode cX4_load 174 = .ok (.if_icmp .ge 31, 3) := by decide +kernel
theorem dX4_load_177 : decode cX4_load 177 = .ok (.aload_n 0, 1) := by decide +kernel
theorem dX4_load_178 : decode cX4_load 178 = .ok (.getfield 35, 3) := by decide +kernel
theorem dX4_load_181 : decode cX4_load 181 = .ok (.iload_n 2, 1) := by decide +kernel
theorem dX4_load_182 : decode cX4_load 182 = .ok (.aload_n 0, 1) := by decide +kernel
theorem dX4_load_183 : decode cX4_load 183 = .ok (.getfield 55, 3) := by decide +kernel
theorem dX4_load_186 : decode cX4_load 186 = .ok (.sipush 5400, 3) := by decide +kernel
theorem dX4_load_189 : decode cX4_load 189 = .ok (.iload_n 1, 1) := by decide +kernel
theorem dX4_load_190 : decode cX4_load 190 = .ok (.imul, 1) := by decide +kernel
theorem dX4_load_191 : decode cX4_load 191 = .ok (.sipush 4800, 3) := by decide +kernel
theorem dX4_load_194 : decode cX4_load 194 = .ok (.iadd, 1) := by decide +kernel
theorem dX4_load_195 : decode cX4_load 195 = .ok (.iload_n 2, 1) := by decide +kernel
theorem dX4_load_196 : decode cX4_load 196 = .ok (.iadd, 1) := by decide +kernel
theorem dX4_load_197 : decode cX4_load 197 = .ok (.laload, 1) := by decide +kernel
theorem dX4_load_198 : decode cX4_load 198 = .ok (.lastore, 1) := by decide +kernel
theorem dX4_load_199 : decode cX4_load 199 = .ok (.iinc 2 1, 3) := by decide +kernel
theorem dX4_load_202 : decode cX4_load 202 = .ok (.goto (-32), 3) := by decide +kernel
theorem dX4_load_205 : decode cX4_load 205 = .ok (.return_, 1) := by decide +kernel
def rmX4_load : Room := { frames := 1, cells := 0, slots := 0, locals := 23 }
noncomputable def f_X4_load_170 : Nat → Int32 → Int32 → MS → Option (MS)
  | 0, _, _, _ => none
  | n + 1, x1, x2, u => (if (600 : Int32) ≤ x2 then some u else (if ix (((5400 * x1) + 4800) + x2) 48600 = true then (if ix x2 600 = true then f_X4_load_170 n x1 (x2 + 1) (mB u 10 (Int32.toNatClampNeg x2) (u.2.2 17 (Int32.toNatClampNeg (((5400 * x1) + 4800) + x2)))) else none) else none))
noncomputable def f_X4_load_137 : Nat → Int32 → Int32 → MS → Option (MS)
  | 0, _, _, _ => none
  | n + 1, x1, x2, u => (if (4800 : Int32) ≤ x2 then f_X4_load_170 NF x1 0 u else (if ix ((5400 * x1) + x2) 48600 = true then (if ix x2 4800 = true then f_X4_load_137 n x1 (x2 + 1) (mB u 9 (Int32.toNatClampNeg x2) (u.2.2 17 (Int32.toNatClampNeg ((5400 * x1) + x2)))) else none) else none))
noncomputable def f_X4_load (x1 : Int32) (u : MS) : Option (MS) := (f_X4_read_a2 8 (mF u 20 (10940 * x1))).bind (fun z1 => (f_X4_read_a3 8 z1).bind (fun z3 => (f_X4_read_a4 8 z3).bind (fun z5 => (f_X4_read_a5 8 z5).bind (fun z7 => (f_X4_read_a6 8 z7).bind (fun z9 => (f_X4_read_a7 4800 z9).bind (fun z11 => (f_X4_read_a8 4800 z11).bind (fun z13 => (f_X4_read_a11 600 z13).bind (fun z15 => (f_X4_read_a12 20 z15).bind (fun z17 => (f_X4_read_a13 20 z17).bind (fun z19 => (f_X4_read_a14 20 z19).bind (fun z21 => (if ix (z21.1 20) 98460 = true then f_X4_load_137 NF x1 0 (mF z21 15 (z21.2.1 16 (Int32.toNatClampNeg (z21.1 20)))) else none))))))))))))
section
variable {p : Program} {l : Launch} {e : Env} {s : State} {m : MethodId} {args : Array Value} {below : List Frame} {meth : Method} {c : Code}
variable {G : GX} {A : Nat → Prop} {ad : Nat → Nat}
set_option maxHeartbeats 4000000 in
set_option maxRecDepth 100000 in
theorem w_X4_load_170 (F : FX p m c cX4_load 3 s args yX4_load none RX4 meth) {z : MS} : ∀ (n : Nat) (x1 : Int32) (x2 : Int32) (u : MS) (H : Heap) (locs : List Loc) (ls : Array Slot), WD G A s (mw G ad u) H locs → lv_has ls 3 [(0, .ref (ad 0)), (1, .int x1), (2, .int x2)] → f_X4_load_170 n x1 x2 u = some z → W p l e rmX4_load s m args below meth c H locs 0 0 (MQ below (QW G (mw G ad z) A none) args s 0 0 A) (F0 m 170 ls []) := by
  obtain ⟨⟨hx, hb, hml, hown, hts⟩, hr, hlocks⟩ := id F
  intro n
  induction n with
  | zero =>
    intro x1 x2 u H locs ls hw hl h
    rw [f_X4_load_170] at h
    cases h
  | succ n ih =>
    intro x1 x2 u H locs ls hw hl h
    rw [f_X4_load_170] at h
    refine lv_iload_n hx hb dX4_load_170 rfl (lv_at hl 2 rfl) ?_
    refine lv_sipush (v := 600) hx hb dX4_load_171 rfl ?_
    refine lv_icmp_ge (tgt := 205) hx hb dX4_load_174 rfl (fun c27 => ?_) (fun c27 => ?_)
    · replace h := itT h c27
      cases h
      exact retW_v F hw dX4_load_205
    · replace h := itF h c27
      refine lv_aload_n hx hb dX4_load_177 rfl (lv_at hl 0 rfl) ?_
      refine m_g10 F hw dX4_load_178 ?_
      refine lv_iload_n hx hb dX4_load_181 rfl (lv_at hl 2 rfl) ?_
      refine lv_aload_n hx hb dX4_load_182 rfl (lv_at hl 0 rfl) ?_
      refine m_g17 F hw dX4_load_183 ?_
      refine lv_sipush (v := 5400) hx hb dX4_load_186 rfl ?_
      refine lv_iload_n hx hb dX4_load_189 rfl (lv_at hl 1 rfl) ?_
      refine lv_imul hx hb dX4_load_190 ?_
      refine lv_sipush (v := 4800) hx hb dX4_load_191 rfl ?_
      refine lv_iadd hx hb dX4_load_194 ?_
      refine lv_iload_n hx hb dX4_load_195 rfl (lv_at hl 2 rfl) ?_
      refine lv_iadd hx hb dX4_load_196 ?_
      obtain ⟨g28, h⟩ := gd h
      refine m_l17 F hw g28 dX4_load_197 ?_
      obtain ⟨g29, h⟩ := gd h
      refine m_s10 F hw g29 dX4_load_198 (fun H locs hw => ?_)
      refine lv_iinc (v := (x2 + 1)) (lv' := [(2, .int (x2 + 1)), (0, .ref (ad 0)), (1, .int x1)]) hx hb dX4_load_199 hl (k := 2) rfl rfl (by decide) rfl (fun ls hl => ?_)
      refine lv_goto (tgt := 170) hx hb dX4_load_202 rfl ?_
      exact ih _ _ _ _ _ _ hw (lv_sub hl [1, 2, 0] rfl) h
set_option maxHeartbeats 4000000 in
set_option maxRecDepth 100000 in
theorem w_X4_load_137 (F : FX p m c cX4_load 3 s args yX4_load none RX4 meth) {z : MS} : ∀ (n : Nat) (x1 : Int32) (x2 : Int32) (u : MS) (H : Heap) (locs : List Loc) (ls : Array Slot), WD G A s (mw G ad u) H locs → lv_has ls 3 [(0, .ref (ad 0)), (1, .int x1), (2, .int x2)] → f_X4_load_137 n x1 x2 u = some z → W p l e rmX4_load s m args below meth c H locs 0 0 (MQ below (QW G (mw G ad z) A none) args s 0 0 A) (F0 m 137 ls []) := by
  obtain ⟨⟨hx, hb, hml, hown, hts⟩, hr, hlocks⟩ := id F
  intro n
  induction n with
  | zero =>
    intro x1 x2 u H locs ls hw hl h
    rw [f_X4_load_137] at h
    cases h
  | succ n ih =>
    intro x1 x2 u H locs ls hw hl h
    rw [f_X4_load_137] at h
    refine lv_iload_n hx hb dX4_load_137 rfl (lv_at hl 2 rfl) ?_
    refine lv_sipush (v := 4800) hx hb dX4_load_138 rfl ?_
    refine lv_icmp_ge (tgt := 168) hx hb dX4_load_141 rfl (fun c24 => ?_) (fun c24 => ?_)
    · replace h := itT h c24
      refine lv_iconst (v := 0) hx hb dX4_load_168 rfl ?_
      refine lv_istore_n (lv' := [(2, .int 0), (0, .ref (ad 0)), (1, .int x1)]) hx hb dX4_load_169 rfl hl (by decide) rfl (fun ls hl => ?_)
      exact w_X4_load_170 F NF _ _ _ _ _ _ hw (lv_sub hl [1, 2, 0] rfl) h
    · replace h := itF h c24
      refine lv_aload_n hx hb dX4_load_144 rfl (lv_at hl 0 rfl) ?_
      refine m_g9 F hw dX4_load_145 ?_
      refine lv_iload_n hx hb dX4_load_148 rfl (lv_at hl 2 rfl) ?_
      refine lv_aload_n hx hb dX4_load_149 rfl (lv_at hl 0 rfl) ?_
      refine m_g17 F hw dX4_load_150 ?_
      refine lv_sipush (v := 5400) hx hb dX4_load_153 rfl ?_
      refine lv_iload_n hx hb dX4_load_156 rfl (lv_at hl 1 rfl) ?_
      refine lv_imul hx hb dX4_load_157 ?_
      refine lv_iload_n hx hb dX4_load_158 rfl (lv_at hl 2 rfl) ?_
      refine lv_iadd hx hb dX4_load_159 ?_
      obtain ⟨g25, h⟩ := gd h
      refine m_l17 F hw g25 dX4_load_160 ?_
      obtain ⟨g26, h⟩ := gd h
      refine m_s9 F hw g26 dX4_load_161 (fun H locs hw => ?_)
      refine lv_iinc (v := (x2 + 1)) (lv' := [(2, .int (x2 + 1)), (0, .ref (ad 0)), (1, .int x1)]) hx hb dX4_load_162 hl (k := 2) rfl rfl (by decide) rfl (fun ls hl => ?_)
      refine lv_goto (tgt := 137) hx hb dX4_load_165 rfl ?_
      exact ih _ _ _ _ _ _ hw (lv_sub hl [1, 2, 0] rfl) h
set_option maxHeartbeats 4000000 in
set_option maxRecDepth 100000 in
theorem w_X4_load_0 (F : FX p m c cX4_load 3 s args yX4_load none RX4 meth) {z : MS} : ∀ (x1 : Int32) (u : MS) (H : Heap) (locs : List Loc) (ls : Array Slot), WD G A s (mw G ad u) H locs → lv_has ls 3 [(0, .ref (ad 0)), (1, .int x1)] → f_X4_load x1 u = some z → W p l e rmX4_load s m args below meth c H locs 0 0 (MQ below (QW G (mw G ad z) A none) args s 0 0 A) (F0 m 0 ls []) := by
  obtain ⟨⟨hx, hb, hml, hown, hts⟩, hr, hlocks⟩ := id F
  intro x1 u H locs ls hw hl h
  unfold f_X4_load at h
  refine lv_aload_n hx hb dX4_load_0 rfl (lv_at hl 0 rfl) ?_
  refine lv_sipush (v := 10940) hx hb dX4_load_1 rfl ?_
  refine lv_iload_n hx hb dX4_load_4 rfl (lv_at hl 1 rfl) ?_
  refine lv_imul hx hb dX4_load_5 ?_
  refine m_p20 F hw dX4_load_6 (fun H locs hw => ?_)
  refine lv_aload_n hx hb dX4_load_9 rfl (lv_at hl 0 rfl) ?_
  refine lv_aload_n hx hb dX4_load_10 rfl (lv_at hl 0 rfl) ?_
  refine m_g2 F hw dX4_load_11 ?_
  refine lv_bipush (v := 8) hx hb dX4_load_14 rfl ?_
  obtain ⟨z1, e2, h⟩ := bnd h
  refine k_X4_read_a2 F hw e2 ⟨Nat.le_of_ble_eq_true rfl, Nat.le_of_ble_eq_true rfl⟩ ⟨Nat.zero_le _, Nat.zero_le _⟩ hl.1 (Nat.le_of_ble_eq_true rfl) dX4_load_16 (fun H locs hw => ?_)
  refine lv_aload_n hx hb dX4_load_19 rfl (lv_at hl 0 rfl) ?_
  refine lv_aload_n hx hb dX4_load_20 rfl (lv_at hl 0 rfl) ?_
  refine m_g3 F hw dX4_load_21 ?_
  refine lv_bipush (v := 8) hx hb dX4_load_24 rfl ?_
  obtain ⟨z3, e4, h⟩ := bnd h
  refine k_X4_read_a3 F hw e4 ⟨Nat.le_of_ble_eq_true rfl, Nat.le_of_ble_eq_true rfl⟩ ⟨Nat.zero_le _, Nat.zero_le _⟩ hl.1 (Nat.le_of_ble_eq_true rfl) dX4_load_26 (fun H locs hw => ?_)
  refine lv_aload_n hx hb dX4_load_29 rfl (lv_at hl 0 rfl) ?_
  refine lv_aload_n hx hb dX4_load_30 rfl (lv_at hl 0 rfl) ?_
  refine m_g4 F hw dX4_load_31 ?_
  refine lv_bipush (v := 8) hx hb dX4_load_34 rfl ?_
  obtain ⟨z5, e6, h⟩ := bnd h
  refine k_X4_read_a4 F hw e6 ⟨Nat.le_of_ble_eq_true rfl, Nat.le_of_ble_eq_true rfl⟩ ⟨Nat.zero_le _, Nat.zero_le _⟩ hl.1 (Nat.le_of_ble_eq_true rfl) dX4_load_36 (fun H locs hw => ?_)
  refine lv_aload_n hx hb dX4_load_39 rfl (lv_at hl 0 rfl) ?_
  refine lv_aload_n hx hb dX4_load_40 rfl (lv_at hl 0 rfl) ?_
  refine m_g5 F hw dX4_load_41 ?_
  refine lv_bipush (v := 8) hx hb dX4_load_44 rfl ?_
  obtain ⟨z7, e8, h⟩ := bnd h
  refine k_X4_read_a5 F hw e8 ⟨Nat.le_of_ble_eq_true rfl, Nat.le_of_ble_eq_true rfl⟩ ⟨Nat.zero_le _, Nat.zero_le _⟩ hl.1 (Nat.le_of_ble_eq_true rfl) dX4_load_46 (fun H locs hw => ?_)
  refine lv_aload_n hx hb dX4_load_49 rfl (lv_at hl 0 rfl) ?_
  refine lv_aload_n hx hb dX4_load_50 rfl (lv_at hl 0 rfl) ?_
  refine m_g6 F hw dX4_load_51 ?_
  refine lv_bipush (v := 8) hx hb dX4_load_54 rfl ?_
  obtain ⟨z9, e10, h⟩ := bnd h
  refine k_X4_read_a6 F hw e10 ⟨Nat.le_of_ble_eq_true rfl, Nat.le_of_ble_eq_true rfl⟩ ⟨Nat.zero_le _, Nat.zero_le _⟩ hl.1 (Nat.le_of_ble_eq_true rfl) dX4_load_56 (fun H locs hw => ?_)
  refine lv_aload_n hx hb dX4_load_59 rfl (lv_at hl 0 rfl) ?_
  refine lv_aload_n hx hb dX4_load_60 rfl (lv_at hl 0 rfl) ?_
  refine m_g7 F hw dX4_load_61 ?_
  refine lv_sipush (v := 4800) hx hb dX4_load_64 rfl ?_
  obtain ⟨z11, e12, h⟩ := bnd h
  refine k_X4_read_a7 F hw e12 ⟨Nat.le_of_ble_eq_true rfl, Nat.le_of_ble_eq_true rfl⟩ ⟨Nat.zero_le _, Nat.zero_le _⟩ hl.1 (Nat.le_of_ble_eq_true rfl) dX4_load_67 (fun H locs hw => ?_)
  refine lv_aload_n hx hb dX4_load_70 rfl (lv_at hl 0 rfl) ?_
  refine lv_aload_n hx hb dX4_load_71 rfl (lv_at hl 0 rfl) ?_
  refine m_g8 F hw dX4_load_72 ?_
  refine lv_sipush (v := 4800) hx hb dX4_load_75 rfl ?_
  obtain ⟨z13, e14, h⟩ := bnd h
  refine k_X4_read_a8 F hw e14 ⟨Nat.le_of_ble_eq_true rfl, Nat.le_of_ble_eq_true rfl⟩ ⟨Nat.zero_le _, Nat.zero_le _⟩ hl.1 (Nat.le_of_ble_eq_true rfl) dX4_load_78 (fun H locs hw => ?_)
  refine lv_aload_n hx hb dX4_load_81 rfl (lv_at hl 0 rfl) ?_
  refine lv_aload_n hx hb dX4_load_82 rfl (lv_at hl 0 rfl) ?_
  refine m_g11 F hw dX4_load_83 ?_
  refine lv_sipush (v := 600) hx hb dX4_load_86 rfl ?_
  obtain ⟨z15, e16, h⟩ := bnd h
  refine k_X4_read_a11 F hw e16 ⟨Nat.le_of_ble_eq_true rfl, Nat.le_of_ble_eq_true rfl⟩ ⟨Nat.zero_le _, Nat.zero_le _⟩ hl.1 (Nat.le_of_ble_eq_true rfl) dX4_load_89 (fun H locs hw => ?_)
  refine lv_aload_n hx hb dX4_load_92 rfl (lv_at hl 0 rfl) ?_
  refine lv_aload_n hx hb dX4_load_93 rfl (lv_at hl 0 rfl) ?_
  refine m_g12 F hw dX4_load_94 ?_
  refine lv_bipush (v := 20) hx hb dX4_load_97 rfl ?_
  obtain ⟨z17, e18, h⟩ := bnd h
  refine k_X4_read_a12 F hw e18 ⟨Nat.le_of_ble_eq_true rfl, Nat.le_of_ble_eq_true rfl⟩ ⟨Nat.zero_le _, Nat.zero_le _⟩ hl.1 (Nat.le_of_ble_eq_true rfl) dX4_load_99 (fun H locs hw => ?_)
  refine lv_aload_n hx hb dX4_load_102 rfl (lv_at hl 0 rfl) ?_
  refine lv_aload_n hx hb dX4_load_103 rfl (lv_at hl 0 rfl) ?_
  refine m_g13 F hw dX4_load_104 ?_
  refine lv_bipush (v := 20) hx hb dX4_load_107 rfl ?_
  obtain ⟨z19, e20, h⟩ := bnd h
  refine k_X4_read_a13 F hw e20 ⟨Nat.le_of_ble_eq_true rfl, Nat.le_of_ble_eq_true rfl⟩ ⟨Nat.zero_le _, Nat.zero_le _⟩ hl.1 (Nat.le_of_ble_eq_true rfl) dX4_load_109 (fun H locs hw => ?_)
  refine lv_aload_n hx hb dX4_load_112 rfl (lv_at hl 0 rfl) ?_
  refine lv_aload_n hx hb dX4_load_113 rfl (lv_at hl 0 rfl) ?_
  refine m_g14 F hw dX4_load_114 ?_
  refine lv_bipush (v := 20) hx hb dX4_load_117 rfl ?_
  obtain ⟨z21, e22, h⟩ := bnd h
  refine k_X4_read_a14 F hw e22 ⟨Nat.le_of_ble_eq_true rfl, Nat.le_of_ble_eq_true rfl⟩ ⟨Nat.zero_le _, Nat.zero_le _⟩ hl.1 (Nat.le_of_ble_eq_true rfl) dX4_load_119 (fun H locs hw => ?_)
  refine lv_aload_n hx hb dX4_load_122 rfl (lv_at hl 0 rfl) ?_
  refine lv_aload_n hx hb dX4_load_123 rfl (lv_at hl 0 rfl) ?_
  refine m_g16 F hw dX4_load_124 ?_
  refine lv_aload_n hx hb dX4_load_127 rfl (lv_at hl 0 rfl) ?_
  refine m_g20 F hw dX4_load_128 ?_
  obtain ⟨g23, h⟩ := gd h
  refine m_l16 F hw g23 dX4_load_131 ?_
  refine m_p15 F hw dX4_load_132 (fun H locs hw => ?_)
  refine lv_iconst (v := 0) hx hb dX4_load_135 rfl ?_
  refine lv_istore_n (lv' := [(2, .int 0), (0, .ref (ad 0)), (1, .int x1)]) hx hb dX4_load_136 rfl hl (by decide) rfl (fun ls hl => ?_)
  exact w_X4_load_137 F NF _ _ _ _ _ _ hw (lv_sub hl [1, 2, 0] rfl) h
end
theorem c_X4_load {l : Launch} {G : GX} {ad : Nat → Nat} {x1 : Int32} {u : MS} {z : MS} (h : f_X4_load x1 u = some z) : MW l yX4_load cX4_load 3 none rmX4_load G (mw G ad u) (mw G ad z) [.ref (ad 0), .int x1] none := MW.of (by decide) (Nat.le_of_ble_eq_true rfl) (fun p e s m below meth c ls F hw hl => w_X4_load_0 F _ _ _ _ _ hw hl h)
theorem yv_X4_load : YV RX4 89 yX4_load cX4_load 3 none 1 := ⟨(tw 596 (by decide +kernel) rfl), (tw 6 (by decide +kernel) rfl), (tw 593 (by decide +kernel) rfl), (tw 595 (by decide +kernel) rfl), (tp 11 (by decide +kernel) rfl), by decide +kernel⟩
theorem k_X4_load {p : Program} {l : Launch} {e : Env} {R : Room} {s : State} {m : MethodId} {args : Array Value} {below : List Frame} {meth : Method} {c : Code} {H : Heap} {locs : List Loc} {cells slots : Nat} {Q : State → Prop} {G : GX} {A : Nat → Prop} {ad : Nat → Nat} {cc : ByteArray} {nL pc : Nat} {y0 : MethodName} {ret0 : Option FieldType} {ls : Array Slot} {rest : List Value} {u : MS} {x1 : Int32} {z : MS} (F : FX p m c cc nL s args y0 ret0 RX4 meth) (hw : WD G A s (mw G ad u) H locs) (h : f_X4_load x1 u = some z) (hR : rmX4_load.frames + 1 ≤ R.frames ∧ 8 + (3 + 11) + rmX4_load.locals ≤ R.locals) (hcs : cells ≤ R.cells ∧ slots ≤ R.slots) (hsz : ls.size = nL) (hW : (rest.map fun v => v.category).sum ≤ 8) (hdg : decode cc pc = .ok (.invokevirtual 89, 3)) (kk : ∀ (H : Heap) (locs : List Loc), WD G A s (mw G ad z) H locs → W p l e R s m args below meth c H locs cells slots Q (F0 m (pc + 3) ls (rest))) : W p l e R s m args below meth c H locs cells slots Q (F0 m pc ls (.int x1 :: .ref (ad 0) :: rest)) := callW (runV F yv_X4_load (c_X4_load h) hw.1 hw.2.1 hw.2.2.1 rfl rfl rfl ⟨rfl, rfl⟩ hR hcs rfl hsz rfl hW hdg) hw.2.2.2 hw.2.2.1.own_in (fun H1 l1 hP _ hS => kk H1 l1 ⟨hw.1, hP, hw.2.2.1.addr rfl, hS⟩)
/-! ===== X4_keep ===== -/
theorem dX4_keep_0 : decode cX4_keep 0 = .ok (.iconst 0, 1) := by decide +kernel
theorem dX4_keep_1 : decode cX4_keep 1 = .ok (.istore_n 1, 1) := by decide +kernel
theorem dX4_keep_2 : decode cX4_keep 2 = .ok (.iload_n 1, 1) := by decide +kernel
theorem dX4_keep_3 : decode cX4_keep 3 = .ok (.sipush 10940, 3) := by decide +kernel
theorem dX4_keep_6 : decode cX4_keep 6 = .ok (.if_icmp .ge 33, 3) := by decide +kernel
theorem dX4_keep_9 : decode cX4_keep 9 = .ok (.aload_n 0, 1) := by decide +kernel
theorem dX4_keep_10 : decode cX4_keep 10 = .ok (.getfield 51, 3) := by decide +kernel
theorem dX4_keep_13 : decode cX4_keep 13 = .ok (.sipush 10940, 3) := by decide +kernel
theorem dX4_keep_16 : decode cX4_keep 16 = .ok (.aload_n 0, 1) := by decide +kernel
theorem dX4_keep_17 : decode cX4_keep 17 = .ok (.getfield 81, 3) := by decide +kernel
theorem dX4_keep_20 : decode cX4_keep 20 = .ok (.imul, 1) := by decide +kernel
theorem dX4_keep_21 : decode cX4_keep 21 = .ok (.iload_n 1, 1) := by decide +kernel
theorem dX4_keep_22 : decode cX4_keep 22 = .ok (.iadd, 1) := by decide +kernel
theorem dX4_keep_23 : decode cX4_keep 23 = .ok (.aload_n 0, 1) := by decide +kernel
theorem dX4_keep_24 : decode cX4_keep 24 = .ok (.getfield 51, 3) := by decide +kernel
theorem dX4_keep_27 : decode cX4_keep 27 = .ok (.ldc 84, 2) := by decide +kernel
theorem dX4_keep_29 : decode cX4_keep 29 = .ok (.iload_n 1, 1) := by decide +kernel
theorem dX4_keep_30 : decode cX4_keep 30 = .ok (.iadd, 1) := by decide +kernel
theorem dX4_keep_31 : decode cX4_keep 31 = .ok (.iaload, 1) := by decide +kernel
theorem dX4_keep_32 : decode cX4_keep 32 = .ok (.iastore, 1) := by decide +kernel
theorem dX4_keep_33 : decode cX4_keep 33 = .ok (.iinc 1 1, 3) := by decide +kernel
theorem dX4_keep_36 : decode cX4_keep 36 = .ok (.goto (-34), 3) := by decide +kernel
theorem dX4_keep_39 : decode cX4_keep 39 = .ok (.iconst 0, 1) := by decide +kernel
theorem dX4_keep_40 : decode cX4_keep 40 = .ok (.istore_n 1, 1) := by decide +kernel
theorem dX4_keep_41 : decode cX4_keep 41 = .ok (.iload_n 1, 1) := by decide +kernel
theorem dX4_keep_42 : decode cX4_keep 42 = .ok (.sipush 5400, 3) := by decide +kernel
theorem dX4_keep_45 : decode cX4_keep 45 = .ok (.if_icmp .ge 33, 3) := by decide +kernel
theorem dX4_keep_48 : decode cX4_keep 48 = .ok (.aload_n 0, 1) := by decide +kernel
theorem dX4_keep_49 : decode cX4_keep 49 = .ok (.getfield 55, 3) := by decide +kernel
theorem dX4_keep_52 : decode cX4_keep 52 = .ok (.sipush 5400, 3) := by decide +kernel
theorem dX4_keep_55 : decode cX4_keep 55 = .ok (.aload_n 0, 1) := by decide +kernel
theorem dX4_keep_56 : decode cX4_keep 56 = .ok (.getfield 81, 3) := by decide +kernel
theorem dX4_keep_59 : decode cX4_keep 59 = .ok (.imul, 1) := by decide +kernel
theorem dX4_keep_60 : decode cX4_keep 60 = .ok (.iload_n 1, 1) := by decide +kernel
theorem dX4_keep_61 : decode cX4_keep 61 = .ok (.iadd, 1) := by decide +kernel
theorem dX4_keep_62 : decode cX4_keep 62 = .ok (.aload_n 0, 1) := by decide +kernel
theorem dX4_keep_63 : decode cX4_keep 63 = .ok (.getfield 55, 3) := by decide +kernel
theorem dX4_keep_66 : decode cX4_keep 66 = .ok (.ldc 85, 2) := by decide +kernel
theorem dX4_keep_68 : decode cX4_keep 68 = .ok (.iload_n 1, 1) := by decide +kernel
theorem dX4_keep_69 : decode cX4_keep 69 = .ok (.iadd, 1) := by decide +kernel
theorem dX4_keep_70 : decode cX4_keep 70 = .ok (.laload, 1) := by decide +kernel
theorem dX4_keep_71 : decode cX4_keep 71 = .ok (.lastore, 1) := by decide +kernel
theorem dX4_keep_72 : decode cX4_keep 72 = .ok (.iinc 1 1, 3) := by decide +kernel
theorem dX4_keep_75 : decode cX4_keep 75 = .ok (.goto (-34), 3) := by decide +kernel
theorem dX4_keep_78 : decode cX4_keep 78 = .ok (.aload_n 0, 1) := by decide +kernel
theorem dX4_keep_79 : decode cX4_keep 79 = .ok (.aload_n 0, 1) := by decide +kernel
theorem dX4_keep_80 : decode cX4_keep 80 = .ok (.getfield 81, 3) := by decide +kernel
theorem dX4_keep_83 : decode cX4_keep 83 = .ok (.iconst 1, 1) := by decide +kernel
theorem dX4_keep_84 : decode cX4_keep 84 = .ok (.iadd, 1) := by decide +kernel
theorem dX4_keep_85 : decode cX4_keep 85 = .ok (.bipush 8, 2) := by decide +kernel
theorem dX4_keep_87 : decode cX4_keep 87 = .ok (.irem, 1) := by decide +kernel
theorem dX4_keep_88 : decode cX4_keep 88 = .ok (.putfield 81, 3) := by decide +kernel
theorem dX4_keep_91 : decode cX4_keep 91 = .ok (.aload_n 0, 1) := by decide +kernel
theorem dX4_keep_92 : decode cX4_keep 92 = .ok (.aload_n 0, 1) := by decide +kernel
theorem dX4_keep_93 : decode cX4_keep 93 = .ok (.getfield 86, 3) := by decide +kernel
theorem dX4_keep_96 : decode cX4_keep 96 = .ok (.bipush 8, 2) := by decide +kernel
theorem dX4_keep_98 : decode cX4_keep 98 = .ok (.if_icmp .ge 12, 3) := by decide +kernel
theorem dX4_keep_101 : decode cX4_keep 101 = .ok (.aload_n 0, 1) := by decide +kernel
theorem dX4_keep_102 : decode cX4_keep 102 = .ok (.getfield 86, 3) := by decide +kernel
theorem dX4_keep_105 : decode cX4_keep 105 = .ok (.iconst 1, 1) := by decide +kernel
theorem dX4_keep_106 : decode cX4_keep 106 = .ok (.iadd, 1) := by decide +kernel
theorem dX4_keep_107 : decode cX4_keep 107 = .ok (.goto 5, 3) := by decide +kernel
theorem dX4_keep_110 : decode cX4_keep 110 = .ok (.bipush 8, 2) := by decide +kernel
theorem dX4_keep_112 : decode cX4_keep 112 = .ok (.putfield 86, 3) := by decide +kernel
theorem dX4_keep_115 : decode cX4_keep 115 = .ok (.return_, 1) := by decide +kernel
def rmX4_keep : Room := { frames := 0, cells := 0, slots := 0, locals := 0 }
noncomputable def f_X4_keep_41 : Nat → Int32 → MS → Option (MS)
  | 0, _, _ => none
  | n + 1, x1, u => (if (5400 : Int32) ≤ x1 then (if (8 : Int32) ≤ ((mF u 18 (((u.1 18) + 1) - ((u.1 18) + 1) / 8 * 8)).1 19) then some (mF (mF u 18 (((u.1 18) + 1) - ((u.1 18) + 1) / 8 * 8)) 19 8) else some (mF (mF u 18 (((u.1 18) + 1) - ((u.1 18) + 1) / 8 * 8)) 19 (((mF u 18 (((u.1 18) + 1) - ((u.1 18) + 1) / 8 * 8)).1 19) + 1))) else (if ix (43200 + x1) 48600 = true then (if ix ((5400 * (u.1 18)) + x1) 48600 = true then f_X4_keep_41 n (x1 + 1) (mB u 17 (Int32.toNatClampNeg ((5400 * (u.1 18)) + x1)) (u.2.2 17 (Int32.toNatClampNeg (43200 + x1)))) else none) else none))
noncomputable def f_X4_keep_2 : Nat → Int32 → MS → Option (MS)
  | 0, _, _ => none
  | n + 1, x1, u => (if (10940 : Int32) ≤ x1 then f_X4_keep_41 NF 0 u else (if ix (87520 + x1) 98460 = true then (if ix ((10940 * (u.1 18)) + x1) 98460 = true then f_X4_keep_2 n (x1 + 1) (mA u 16 (Int32.toNatClampNeg ((10940 * (u.1 18)) + x1)) (u.2.1 16 (Int32.toNatClampNeg (87520 + x1)))) else none) else none))
noncomputable def f_X4_keep (u : MS) : Option (MS) := f_X4_keep_2 NF 0 u
section
variable {p : Program} {l : Launch} {e : Env} {s : State} {m : MethodId} {args : Array Value} {below : List Frame} {meth : Method} {c : Code}
variable {G : GX} {A : Nat → Prop} {ad : Nat → Nat}
set_option maxHeartbeats 4000000 in
set_option maxRecDepth 100000 in
theorem w_X4_keep_41 (F : FX p m c cX4_keep 2 s args yX4_keep none RX4 meth) {z : MS} : ∀ (n : Nat) (x1 : Int32) (u : MS) (H : Heap) (locs : List Loc) (ls : Array Slot), WD G A s (mw G ad u) H locs → lv_has ls 2 [(0, .ref (ad 0)), (1, .int x1)] → f_X4_keep_41 n x1 u = some z → W p l e rmX4_keep s m args below meth c H locs 0 0 (MQ below (QW G (mw G ad z) A none) args s 0 0 A) (F0 m 41 ls []) := by
  obtain ⟨⟨hx, hb, hml, hown, hts⟩, hr, hlocks⟩ := id F
  intro n
  induction n with
  | zero =>
    intro x1 u H locs ls hw hl h
    rw [f_X4_keep_41] at h
    cases h
  | succ n ih =>
    intro x1 u H locs ls hw hl h
    rw [f_X4_keep_41] at h
    refine lv_iload_n hx hb dX4_keep_41 rfl (lv_at hl 1 rfl) ?_
    refine lv_sipush (v := 5400) hx hb dX4_keep_42 rfl ?_
    refine lv_icmp_ge (tgt := 78) hx hb dX4_keep_45 rfl (fun c4 => ?_) (fun c4 => ?_)
    · replace h := itT h c4
      refine lv_aload_n hx hb dX4_keep_78 rfl (lv_at hl 0 rfl) ?_
      refine lv_aload_n hx hb dX4_keep_79 rfl (lv_at hl 0 rfl) ?_
      refine m_g18 F hw dX4_keep_80 ?_
      refine lv_iconst (v := 1) hx hb dX4_keep_83 rfl ?_
      refine lv_iadd hx hb dX4_keep_84 ?_
      refine lv_bipush (v := 8) hx hb dX4_keep_85 rfl ?_
      refine lv_irem hx hb dX4_keep_87 (by decide) ?_
      refine m_p18 F hw dX4_keep_88 (fun H locs hw => ?_)
      refine lv_aload_n hx hb dX4_keep_91 rfl (lv_at hl 0 rfl) ?_
      refine lv_aload_n hx hb dX4_keep_92 rfl (lv_at hl 0 rfl) ?_
      refine m_g19 F hw dX4_keep_93 ?_
      refine lv_bipush (v := 8) hx hb dX4_keep_96 rfl ?_
      refine lv_icmp_ge (tgt := 110) hx hb dX4_keep_98 rfl (fun c5 => ?_) (fun c5 => ?_)
      · replace h := itT h c5
        refine lv_bipush (v := 8) hx hb dX4_keep_110 rfl ?_
        refine m_p19 F hw dX4_keep_112 (fun H locs hw => ?_)
        cases h
        exact retW_v F hw dX4_keep_115
      · replace h := itF h c5
        refine lv_aload_n hx hb dX4_keep_101 rfl (lv_at hl 0 rfl) ?_
        refine m_g19 F hw dX4_keep_102 ?_
        refine lv_iconst (v := 1) hx hb dX4_keep_105 rfl ?_
        refine lv_iadd hx hb dX4_keep_106 ?_
        refine lv_goto (tgt := 112) hx hb dX4_keep_107 rfl ?_
        refine m_p19 F hw dX4_keep_112 (fun H locs hw => ?_)
        cases h
        exact retW_v F hw dX4_keep_115
    · replace h := itF h c4
      refine lv_aload_n hx hb dX4_keep_48 rfl (lv_at hl 0 rfl) ?_
      refine m_g17 F hw dX4_keep_49 ?_
      refine lv_sipush (v := 5400) hx hb dX4_keep_52 rfl ?_
      refine lv_aload_n hx hb dX4_keep_55 rfl (lv_at hl 0 rfl) ?_
      refine m_g18 F hw dX4_keep_56 ?_
      refine lv_imul hx hb dX4_keep_59 ?_
      refine lv_iload_n hx hb dX4_keep_60 rfl (lv_at hl 1 rfl) ?_
      refine lv_iadd hx hb dX4_keep_61 ?_
      refine lv_aload_n hx hb dX4_keep_62 rfl (lv_at hl 0 rfl) ?_
      refine m_g17 F hw dX4_keep_63 ?_
      refine lv_ldc (own := RX4) (v := 43200) hx hb hown (F.tb (tw 621 (by decide +kernel) rfl)) dX4_keep_66 ?_
      refine lv_iload_n hx hb dX4_keep_68 rfl (lv_at hl 1 rfl) ?_
      refine lv_iadd hx hb dX4_keep_69 ?_
      obtain ⟨g6, h⟩ := gd h
      refine m_l17 F hw g6 dX4_keep_70 ?_
      obtain ⟨g7, h⟩ := gd h
      refine m_s17 F hw g7 dX4_keep_71 (fun H locs hw => ?_)
      refine lv_iinc (v := (x1 + 1)) (lv' := [(1, .int (x1 + 1)), (0, .ref (ad 0))]) hx hb dX4_keep_72 hl (k := 1) rfl rfl (by decide) rfl (fun ls hl => ?_)
      refine lv_goto (tgt := 41) hx hb dX4_keep_75 rfl ?_
      exact ih _ _ _ _ _ hw (lv_sub hl [1, 0] rfl) h
set_option maxHeartbeats 4000000 in
set_option maxRecDepth 100000 in
theorem w_X4_keep_2 (F : FX p m c cX4_keep 2 s args yX4_keep none RX4 meth) {z : MS} : ∀ (n : Nat) (x1 : Int32) (u : MS) (H : Heap) (locs : List Loc) (ls : Array Slot), WD G A s (mw G ad u) H locs → lv_has ls 2 [(0, .ref (ad 0)), (1, .int x1)] → f_X4_keep_2 n x1 u = some z → W p l e rmX4_keep s m args below meth c H locs 0 0 (MQ below (QW G (mw G ad z) A none) args s 0 0 A) (F0 m 2 ls []) := by
  obtain ⟨⟨hx, hb, hml, hown, hts⟩, hr, hlocks⟩ := id F
  intro n
  induction n with
  | zero =>
    intro x1 u H locs ls hw hl h
    rw [f_X4_keep_2] at h
    cases h
  | succ n ih =>
    intro x1 u H locs ls hw hl h
    rw [f_X4_keep_2] at h
    refine lv_iload_n hx hb dX4_keep_2 rfl (lv_at hl 1 rfl) ?_
    refine lv_sipush (v := 10940) hx hb dX4_keep_3 rfl ?_
    refine lv_icmp_ge (tgt := 39) hx hb dX4_keep_6 rfl (fun c1 => ?_) (fun c1 => ?_)
    · replace h := itT h c1
      refine lv_iconst (v := 0) hx hb dX4_keep_39 rfl ?_
      refine lv_istore_n (lv' := [(1, .int 0), (0, .ref (ad 0))]) hx hb dX4_keep_40 rfl hl (by decide) rfl (fun ls hl => ?_)
      exact w_X4_keep_41 F NF _ _ _ _ _ hw (lv_sub hl [1, 0] rfl) h
    · replace h := itF h c1
      refine lv_aload_n hx hb dX4_keep_9 rfl (lv_at hl 0 rfl) ?_
      refine m_g16 F hw dX4_keep_10 ?_
      refine lv_sipush (v := 10940) hx hb dX4_keep_13 rfl ?_
      refine lv_aload_n hx hb dX4_keep_16 rfl (lv_at hl 0 rfl) ?_
      refine m_g18 F hw dX4_keep_17 ?_
      refine lv_imul hx hb dX4_keep_20 ?_
      refine lv_iload_n hx hb dX4_keep_21 rfl (lv_at hl 1 rfl) ?_
      refine lv_iadd hx hb dX4_keep_22 ?_
      refine lv_aload_n hx hb dX4_keep_23 rfl (lv_at hl 0 rfl) ?_
      refine m_g16 F hw dX4_keep_24 ?_
      refine lv_ldc (own := RX4) (v := 87520) hx hb hown (F.tb (tw 620 (by decide +kernel) rfl)) dX4_keep_27 ?_
      refine lv_iload_n hx hb dX4_keep_29 rfl (lv_at hl 1 rfl) ?_
      refine lv_iadd hx hb dX4_keep_30 ?_
      obtain ⟨g2, h⟩ := gd h
      refine m_l16 F hw g2 dX4_keep_31 ?_
      obtain ⟨g3, h⟩ := gd h
      refine m_s16 F hw g3 dX4_keep_32 (fun H locs hw => ?_)
      refine lv_iinc (v := (x1 + 1)) (lv' := [(1, .int (x1 + 1)), (0, .ref (ad 0))]) hx hb dX4_keep_33 hl (k := 1) rfl rfl (by decide) rfl (fun ls hl => ?_)
      refine lv_goto (tgt := 2) hx hb dX4_keep_36 rfl ?_
      exact ih _ _ _ _ _ hw (lv_sub hl [1, 0] rfl) h
set_option maxHeartbeats 4000000 in
set_option maxRecDepth 100000 in
theorem w_X4_keep_0 (F : FX p m c cX4_keep 2 s args yX4_keep none RX4 meth) {z : MS} : ∀ (u : MS) (H : Heap) (locs : List Loc) (ls : Array Slot), WD G A s (mw G ad u) H locs → lv_has ls 2 [(0, .ref (ad 0))] → f_X4_keep u = some z → W p l e rmX4_keep s m args below meth c H locs 0 0 (MQ below (QW G (mw G ad z) A none) args s 0 0 A) (F0 m 0 ls []) := by
  obtain ⟨⟨hx, hb, hml, hown, hts⟩, hr, hlocks⟩ := id F
  intro u H locs ls hw hl h
  unfold f_X4_keep at h
  refine lv_iconst (v := 0) hx hb dX4_keep_0 rfl ?_
  refine lv_istore_n (lv' := [(1, .int 0), (0, .ref (ad 0))]) hx hb dX4_keep_1 rfl hl (by decide) rfl (fun ls hl => ?_)
  exact w_X4_keep_2 F NF _ _ _ _ _ hw (lv_sub hl [1, 0] rfl) h
end
theorem c_X4_keep {l : Launch} {G : GX} {ad : Nat → Nat} {u : MS} {z : MS} (h : f_X4_keep u = some z) : MW l yX4_keep cX4_keep 2 none rmX4_keep G (mw G ad u) (mw G ad z) [.ref (ad 0)] none := MW.of (by decide) (Nat.le_of_ble_eq_true rfl) (fun p e s m below meth c ls F hw hl => w_X4_keep_0 F  _ _ _ _ hw hl h)
theorem yv_X4_keep : YV RX4 107 yX4_keep cX4_keep 2 none 0 := ⟨(tw 619 (by decide +kernel) rfl), (tw 6 (by decide +kernel) rfl), (tw 616 (by decide +kernel) rfl), (tw 618 (by decide +kernel) rfl), (tp 15 (by decide +kernel) rfl), by decide +kernel⟩
theorem k_X4_keep {p : Program} {l : Launch} {e : Env} {R : Room} {s : State} {m : MethodId} {args : Array Value} {below : List Frame} {meth : Method} {c : Code} {H : Heap} {locs : List Loc} {cells slots : Nat} {Q : State → Prop} {G : GX} {A : Nat → Prop} {ad : Nat → Nat} {cc : ByteArray} {nL pc : Nat} {y0 : MethodName} {ret0 : Option FieldType} {ls : Array Slot} {rest : List Value} {u : MS} {z : MS} (F : FX p m c cc nL s args y0 ret0 RX4 meth) (hw : WD G A s (mw G ad u) H locs) (h : f_X4_keep u = some z) (hR : rmX4_keep.frames + 1 ≤ R.frames ∧ 8 + (2 + 11) + rmX4_keep.locals ≤ R.locals) (hcs : cells ≤ R.cells ∧ slots ≤ R.slots) (hsz : ls.size = nL) (hW : (rest.map fun v => v.category).sum ≤ 8) (hdg : decode cc pc = .ok (.invokevirtual 107, 3)) (kk : ∀ (H : Heap) (locs : List Loc), WD G A s (mw G ad z) H locs → W p l e R s m args below meth c H locs cells slots Q (F0 m (pc + 3) ls (rest))) : W p l e R s m args below meth c H locs cells slots Q (F0 m pc ls (.ref (ad 0) :: rest)) := callW (runV F yv_X4_keep (c_X4_keep h) hw.1 hw.2.1 hw.2.2.1 rfl rfl rfl ⟨rfl, rfl⟩ hR hcs rfl hsz rfl hW hdg) hw.2.2.2 hw.2.2.1.own_in (fun H1 l1 hP _ hS => kk H1 l1 ⟨hw.1, hP, hw.2.2.1.addr rfl, hS⟩)
/-! ===== X4_isRow ===== -/
theorem dX4_isRow_0 : decode cX4_isRow 0 = .ok (.iload_n 1, 1) := by decide +kernel
theorem dX4_isRow_1 : decode cX4_isRow 1 = .ok (.iconst 0, 1) := by decide +kernel
theorem dX4_isRow_2 : decode cX4_isRow 2 = .ok (.bipush 7, 2) := by decide +kernel
theorem dX4_isRow_4 : decode cX4_isRow 4 = .ok (.invokestatic 93, 3) := by decide +kernel
theorem dX4_isRow_7 : decode cX4_isRow 7 = .ok (.ifCond .eq 17, 3) := by decide +kernel
theorem dX4_isRow_10 : decode cX4_isRow 10 = .ok (.aload_n 0, 1) := by decide +kernel
theorem dX4_isRow_11 : decode cX4_isRow 11 = .ok (.getfield 7, 3) := by decide +kernel
theorem dX4_isRow_14 : decode cX4_isRow 14 = .ok (.iload_n 1, 1) := by decide +kernel
theorem dX4_isRow_15 : decode cX4_isRow 15 = .ok (.iaload, 1) := by decide +kernel
theorem dX4_isRow_16 : decode cX4_isRow 16 = .ok (.iconst (-1), 1) := by decide +kernel
theorem dX4_isRow_17 : decode cX4_isRow 17 = .ok (.if_icmp .eq 7, 3) := by decide +kernel
theorem dX4_isRow_20 : decode cX4_isRow 20 = .ok (.iconst 1, 1) := by decide +kernel
theorem dX4_isRow_21 : decode cX4_isRow 21 = .ok (.goto 4, 3) := by decide +kernel
theorem dX4_isRow_24 : decode cX4_isRow 24 = .ok (.iconst 0, 1) := by decide +kernel
theorem dX4_isRow_25 : decode cX4_isRow 25 = .ok (.ireturn, 1) := by decide +kernel
def rmX4_isRow : Room := { frames := 1, cells := 0, slots := 0, locals := 22 }
noncomputable def f_X4_isRow (x1 : Int32) (u : MS) : Option (Int32) := (f_X4_in x1 0 7).bind (fun z1 => (if z1 = 0 then some 0 else (if ix x1 8 = true then (if (u.2.1 2 (Int32.toNatClampNeg x1)) = ((-1) : Int32) then some 0 else some 1) else none)))
section
variable {p : Program} {l : Launch} {e : Env} {s : State} {m : MethodId} {args : Array Value} {below : List Frame} {meth : Method} {c : Code}
variable {G : GX} {A : Nat → Prop} {ad : Nat → Nat}
set_option maxHeartbeats 4000000 in
set_option maxRecDepth 100000 in
theorem w_X4_isRow_0 (F : FX p m c cX4_isRow 2 s args yX4_isRow (some .boolean) RX4 meth) {z : Int32} : ∀ (x1 : Int32) (u : MS) (ls : Array Slot), WD G A s (mw G ad u) s.heap [] → lv_has ls 2 [(0, .ref (ad 0)), (1, .int x1)] → f_X4_isRow x1 u = some z → W p l e rmX4_isRow s m args below meth c s.heap [] 0 0 (MQ below (QO (some (.int z))) args s 0 0 (fun _ => False)) (F0 m 0 ls []) := by
  obtain ⟨⟨hx, hb, hml, hown, hts⟩, hr, hlocks⟩ := id F
  intro x1 u ls hw hl h
  unfold f_X4_isRow at h
  refine lv_iload_n hx hb dX4_isRow_0 rfl (lv_at hl 1 rfl) ?_
  refine lv_iconst (v := 0) hx hb dX4_isRow_1 rfl ?_
  refine lv_bipush (v := 7) hx hb dX4_isRow_2 rfl ?_
  obtain ⟨z1, e2, h⟩ := bnd h
  refine k_X4_in F hw e2 ⟨Nat.le_of_ble_eq_true rfl, Nat.le_of_ble_eq_true rfl⟩ ⟨Nat.zero_le _, Nat.zero_le _⟩ hl.1 (Nat.le_of_ble_eq_true rfl) dX4_isRow_4 ?_
  refine lv_if_eq (tgt := 24) hx hb dX4_isRow_7 rfl (fun c3 => ?_) (fun c3 => ?_)
  · replace h := itT h c3
    refine lv_iconst (v := 0) hx hb dX4_isRow_24 rfl ?_
    cases h
    exact retO_z F narrow_b0 dX4_isRow_25
  · replace h := itF h c3
    refine lv_aload_n hx hb dX4_isRow_10 rfl (lv_at hl 0 rfl) ?_
    refine m_g2 F hw dX4_isRow_11 ?_
    refine lv_iload_n hx hb dX4_isRow_14 rfl (lv_at hl 1 rfl) ?_
    obtain ⟨g4, h⟩ := gd h
    refine m_l2 F hw g4 dX4_isRow_15 ?_
    refine lv_iconst (v := (-1)) hx hb dX4_isRow_16 rfl ?_
    refine lv_icmp_eq (tgt := 24) hx hb dX4_isRow_17 rfl (fun c5 => ?_) (fun c5 => ?_)
    · replace h := itT h c5
      refine lv_iconst (v := 0) hx hb dX4_isRow_24 rfl ?_
      cases h
      exact retO_z F narrow_b0 dX4_isRow_25
    · replace h := itF h c5
      refine lv_iconst (v := 1) hx hb dX4_isRow_20 rfl ?_
      refine lv_goto (tgt := 25) hx hb dX4_isRow_21 rfl ?_
      cases h
      exact retO_z F narrow_b1 dX4_isRow_25
end
theorem c_X4_isRow {l : Launch} {G : GX} {ad : Nat → Nat} {x1 : Int32} {u : MS} {z : Int32} (h : f_X4_isRow x1 u = some z) : MO l yX4_isRow cX4_isRow 2 (some .boolean) rmX4_isRow G (mw G ad u) [.ref (ad 0), .int x1] (some (.int z)) := MO.of (by decide) (Nat.le_of_ble_eq_true rfl) (fun p e s m below meth c ls F hw hl => w_X4_isRow_0 F _ _ _ hw hl h)
theorem yv_X4_isRow : YV RX4 186 yX4_isRow cX4_isRow 2 (some .boolean) 1 := ⟨(tw 629 (by decide +kernel) rfl), (tw 6 (by decide +kernel) rfl), (tw 626 (by decide +kernel) rfl), (tw 628 (by decide +kernel) rfl), (tp 16 (by decide +kernel) rfl), by decide +kernel⟩
theorem k_X4_isRow {p : Program} {l : Launch} {e : Env} {R : Room} {s : State} {m : MethodId} {args : Array Value} {below : List Frame} {meth : Method} {c : Code} {H : Heap} {locs : List Loc} {cells slots : Nat} {Q : State → Prop} {G : GX} {A : Nat → Prop} {ad : Nat → Nat} {cc : ByteArray} {nL pc : Nat} {y0 : MethodName} {ret0 : Option FieldType} {ls : Array Slot} {rest : List Value} {u : MS} {x1 : Int32} {z : Int32} (F : FX p m c cc nL s args y0 ret0 RX4 meth) (hw : WD G A s (mw G ad u) H locs) (h : f_X4_isRow x1 u = some z) (hR : rmX4_isRow.frames + 1 ≤ R.frames ∧ 8 + (2 + 11) + rmX4_isRow.locals ≤ R.locals) (hcs : cells ≤ R.cells ∧ slots ≤ R.slots) (hsz : ls.size = nL) (hW : (rest.map fun v => v.category).sum ≤ 8) (hdg : decode cc pc = .ok (.invokevirtual 186, 3)) (kk : W p l e R s m args below meth c H locs cells slots Q (F0 m (pc + 3) ls (.int z :: rest))) : W p l e R s m args below meth c H locs cells slots Q (F0 m pc ls (.int x1 :: .ref (ad 0) :: rest)) := callO (runV F yv_X4_isRow (c_X4_isRow h) hw.1 hw.2.1 hw.2.2.1 rfl rfl rfl ⟨rfl, rfl⟩ hR hcs rfl hsz rfl hW hdg) kk
/-! ===== X4_rowWith ===== -/
theorem dX4_rowWith_0 : decode cX4_rowWith 0 = .ok (.iconst 0, 1) := by decide +kernel
theorem dX4_rowWith_1 : decode cX4_rowWith 1 = .ok (.istore_n 2, 1) := by decide +kernel
theorem dX4_rowWith_2 : decode cX4_rowWith 2 = .ok (.iload_n 2, 1) := by decide +kernel
theorem dX4_rowWith_3 : decode cX4_rowWith 3 = .ok (.bipush 8, 2) := by decide +kernel
theorem dX4_rowWith_5 : decode cX4_rowWith 5 = .ok (.if_icmp .ge 55, 3) := by decide +kernel
theorem dX4_rowWith_8 : decode cX4_rowWith 8 = .ok (.iconst 0, 1) := by decide +kernel
theorem dX4_rowWith_9 : decode cX4_rowWith 9 = .ok (.istore_n 3, 1) := by decide +kernel
theorem dX4_rowWith_10 : decode cX4_rowWith 10 = .ok (.iload_n 3, 1) := by decide +kernel
theorem dX4_rowWith_11 : decode cX4_rowWith 11 = .ok (.aload_n 0, 1) := by decide +kernel
theorem dX4_rowWith_12 : decode cX4_rowWith 12 = .ok (.getfield 16, 3) := by decide +kernel
theorem dX4_rowWith_15 : decode cX4_rowWith 15 = .ok (.iload_n 2, 1) := by decide +kernel
theorem dX4_rowWith_16 : decode cX4_rowWith 16 = .ok (.iaload, 1) := by decide +kernel
theorem dX4_rowWith_17 : decode cX4_rowWith 17 = .ok (.if_icmp .ge 37, 3) := by decide +kernel
theorem dX4_rowWith_20 : decode cX4_rowWith 20 = .ok (.aload_n 0, 1) := by decide +kernel
theorem dX4_rowWith_21 : decode cX4_rowWith 21 = .ok (.getfield 7, 3) := by decide +kernel
theorem dX4_rowWith_24 : decode cX4_rowWith 24 = .ok (.iload_n 2, 1) := by decide +kernel
theorem dX4_rowWith_25 : decode cX4_rowWith 25 = .ok (.iaload, 1) := by decide +kernel
theorem dX4_rowWith_26 : decode cX4_rowWith 26 = .ok (.iconst (-1), 1) := by decide +kernel
theorem dX4_rowWith_27 : decode cX4_rowWith 27 = .ok (.if_icmp .eq 27, 3) := by decide +kernel
theorem dX4_rowWith_30 : decode cX4_rowWith 30 = .ok (.aload_n 0, 1) := by decide +kernel
theorem dX4_rowWith_31 : decode cX4_rowWith 31 = .ok (.getfield 25, 3) := by decide +kernel
theorem dX4_rowWith_34 : decode cX4_rowWith 34 = .ok (.sipush 600, 3) := by decide +kernel
theorem dX4_rowWith_37 : decode cX4_rowWith 37 = .ok (.iload_n 2, 1) := by decide +kernel
theorem dX4_rowWith_38 : decode cX4_rowWith 38 = .ok (.imul, 1) := by decide +kernel
theorem dX4_rowWith_39 : decode cX4_rowWith 39 = .ok (.iload_n 3, 1) := by decide +kernel
theorem dX4_rowWith_40 : decode cX4_rowWith 40 = .ok (.iadd, 1) := by decide +kernel
theorem dX4_rowWith_41 : decode cX4_rowWith 41 = .ok (.iaload, 1) := by decide +kernel
theorem dX4_rowWith_42 : decode cX4_rowWith 42 = .ok (.iload_n 1, 1) := by decide +kernel
theorem dX4_rowWith_43 : decode cX4_rowWith 43 = .ok (.if_icmp .ne 5, 3) := by decide +kernel
theorem dX4_rowWith_46 : decode cX4_rowWith 46 = .ok (.iload_n 2, 1) := by decide +kernel
theorem dX4_rowWith_47 : decode cX4_rowWith 47 = .ok (.ireturn, 1) := by decide +kernel
theorem dX4_rowWith_48 : decode cX4_rowWith 48 = .ok (.iinc 3 1, 3) := by decide +kernel
theorem dX4_rowWith_51 : decode cX4_rowWith 51 = .ok (.goto (-41), 3) := by decide +kernel
theorem dX4_rowWith_54 : decode cX4_rowWith 54 = .ok (.iinc 2 1, 3) := by decide +kernel
theorem dX4_rowWith_57 : decode cX4_rowWith 57 = .ok (.goto (-55), 3) := by decide +kernel
theorem dX4_rowWith_60 : decode cX4_rowWith 60 = .ok (.iconst (-1), 1) := by decide +kernel
theorem dX4_rowWith_61 : decode cX4_rowWith 61 = .ok (.ireturn, 1) := by decide +kernel
def rmX4_rowWith : Room := { frames := 0, cells := 0, slots := 0, locals := 0 }
noncomputable def f_X4_rowWith_10 (k_2 : Int32 → Int32 → MS → Option (Int32)) : Nat → Int32 → Int32 → Int32 → MS → Option (Int32)
  | 0, _, _, _, _ => none
  | n + 1, x1, x2, x3, u => (if ix x2 8 = true then (if (u.2.1 4 (Int32.toNatClampNeg x2)) ≤ x3 then k_2 x1 (x2 + 1) u else (if ix x2 8 = true then (if (u.2.1 2 (Int32.toNatClampNeg x2)) = ((-1) : Int32) then k_2 x1 (x2 + 1) u else (if ix ((600 * x2) + x3) 4800 = true then (if (u.2.1 7 (Int32.toNatClampNeg ((600 * x2) + x3))) = x1 then some x2 else f_X4_rowWith_10 k_2 n x1 x2 (x3 + 1) u) else none)) else none)) else none)
noncomputable def f_X4_rowWith_2 : Nat → Int32 → Int32 → MS → Option (Int32)
  | 0, _, _, _ => none
  | n + 1, x1, x2, u => (if (8 : Int32) ≤ x2 then some (-1) else f_X4_rowWith_10 (f_X4_rowWith_2 n) NF x1 x2 0 u)
noncomputable def f_X4_rowWith (x1 : Int32) (u : MS) : Option (Int32) := f_X4_rowWith_2 NF x1 0 u
section
variable {p : Program} {l : Launch} {e : Env} {s : State} {m : MethodId} {args : Array Value} {below : List Frame} {meth : Method} {c : Code}
variable {G : GX} {A : Nat → Prop} {ad : Nat → Nat}
set_option maxHeartbeats 4000000 in
set_option maxRecDepth 100000 in
theorem w_X4_rowWith_10 (F : FX p m c cX4_rowWith 4 s args yX4_rowWith (some .int) RX4 meth) {z : Int32} (k_2 : Int32 → Int32 → MS → Option (Int32)) (hk_2 : ∀ (x1 : Int32) (x2 : Int32) (u : MS) (ls : Array Slot), WD G A s (mw G ad u) s.heap [] → lv_has ls 4 [(0, .ref (ad 0)), (1, .int x1), (2, .int x2)] → k_2 x1 x2 u = some z → W p l e rmX4_rowWith s m args below meth c s.heap [] 0 0 (MQ below (QO (some (.int z))) args s 0 0 (fun _ => False)) (F0 m 2 ls [])) : ∀ (n : Nat) (x1 : Int32) (x2 : Int32) (x3 : Int32) (u : MS) (ls : Array Slot), WD G A s (mw G ad u) s.heap [] → lv_has ls 4 [(0, .ref (ad 0)), (1, .int x1), (2, .int x2), (3, .int x3)] → f_X4_rowWith_10 k_2 n x1 x2 x3 u = some z → W p l e rmX4_rowWith s m args below meth c s.heap [] 0 0 (MQ below (QO (some (.int z))) args s 0 0 (fun _ => False)) (F0 m 10 ls []) := by
  obtain ⟨⟨hx, hb, hml, hown, hts⟩, hr, hlocks⟩ := id F
  intro n
  induction n with
  | zero =>
    intro x1 x2 x3 u ls hw hl h
    rw [f_X4_rowWith_10] at h
    cases h
  | succ n ih =>
    intro x1 x2 x3 u ls hw hl h
    rw [f_X4_rowWith_10] at h
    refine lv_iload_n hx hb dX4_rowWith_10 rfl (lv_at hl 3 rfl) ?_
    refine lv_aload_n hx hb dX4_rowWith_11 rfl (lv_at hl 0 rfl) ?_
    refine m_g4 F hw dX4_rowWith_12 ?_
    refine lv_iload_n hx hb dX4_rowWith_15 rfl (lv_at hl 2 rfl) ?_
    obtain ⟨g2, h⟩ := gd h
    refine m_l4 F hw g2 dX4_rowWith_16 ?_
    refine lv_icmp_ge (tgt := 54) hx hb dX4_rowWith_17 rfl (fun c3 => ?_) (fun c3 => ?_)
    · replace h := itT h c3
      refine lv_iinc (v := (x2 + 1)) (lv' := [(2, .int (x2 + 1)), (0, .ref (ad 0)), (1, .int x1), (3, .int x3)]) hx hb dX4_rowWith_54 hl (k := 2) rfl rfl (by decide) rfl (fun ls hl => ?_)
      refine lv_goto (tgt := 2) hx hb dX4_rowWith_57 rfl ?_
      exact hk_2 _ _ _ _ hw (lv_sub hl [1, 2, 0] rfl) h
    · replace h := itF h c3
      refine lv_aload_n hx hb dX4_rowWith_20 rfl (lv_at hl 0 rfl) ?_
      refine m_g2 F hw dX4_rowWith_21 ?_
      refine lv_iload_n hx hb dX4_rowWith_24 rfl (lv_at hl 2 rfl) ?_
      obtain ⟨g4, h⟩ := gd h
      refine m_l2 F hw g4 dX4_rowWith_25 ?_
      refine lv_iconst (v := (-1)) hx hb dX4_rowWith_26 rfl ?_
      refine lv_icmp_eq (tgt := 54) hx hb dX4_rowWith_27 rfl (fun c5 => ?_) (fun c5 => ?_)
      · replace h := itT h c5
        refine lv_iinc (v := (x2 + 1)) (lv' := [(2, .int (x2 + 1)), (0, .ref (ad 0)), (1, .int x1), (3, .int x3)]) hx hb dX4_rowWith_54 hl (k := 2) rfl rfl (by decide) rfl (fun ls hl => ?_)
        refine lv_goto (tgt := 2) hx hb dX4_rowWith_57 rfl ?_
        exact hk_2 _ _ _ _ hw (lv_sub hl [1, 2, 0] rfl) h
      · replace h := itF h c5
        refine lv_aload_n hx hb dX4_rowWith_30 rfl (lv_at hl 0 rfl) ?_
        refine m_g7 F hw dX4_rowWith_31 ?_
        refine lv_sipush (v := 600) hx hb dX4_rowWith_34 rfl ?_
        refine lv_iload_n hx hb dX4_rowWith_37 rfl (lv_at hl 2 rfl) ?_
        refine lv_imul hx hb dX4_rowWith_38 ?_
        refine lv_iload_n hx hb dX4_rowWith_39 rfl (lv_at hl 3 rfl) ?_
        refine lv_iadd hx hb dX4_rowWith_40 ?_
        obtain ⟨g6, h⟩ := gd h
        refine m_l7 F hw g6 dX4_rowWith_41 ?_
        refine lv_iload_n hx hb dX4_rowWith_42 rfl (lv_at hl 1 rfl) ?_
        refine lv_icmp_ne (tgt := 48) hx hb dX4_rowWith_43 rfl (fun c7 => ?_) (fun c7 => ?_)
        · replace h := itF h c7
          refine lv_iinc (v := (x3 + 1)) (lv' := [(3, .int (x3 + 1)), (0, .ref (ad 0)), (1, .int x1), (2, .int x2)]) hx hb dX4_rowWith_48 hl (k := 3) rfl rfl (by decide) rfl (fun ls hl => ?_)
          refine lv_goto (tgt := 10) hx hb dX4_rowWith_51 rfl ?_
          exact ih _ _ _ _ _ hw (lv_sub hl [1, 2, 3, 0] rfl) h
        · replace h := itT h c7
          refine lv_iload_n hx hb dX4_rowWith_46 rfl (lv_at hl 2 rfl) ?_
          cases h
          exact retO_i F dX4_rowWith_47
set_option maxHeartbeats 4000000 in
set_option maxRecDepth 100000 in
theorem w_X4_rowWith_2 (F : FX p m c cX4_rowWith 4 s args yX4_rowWith (some .int) RX4 meth) {z : Int32} : ∀ (n : Nat) (x1 : Int32) (x2 : Int32) (u : MS) (ls : Array Slot), WD G A s (mw G ad u) s.heap [] → lv_has ls 4 [(0, .ref (ad 0)), (1, .int x1), (2, .int x2)] → f_X4_rowWith_2 n x1 x2 u = some z → W p l e rmX4_rowWith s m args below meth c s.heap [] 0 0 (MQ below (QO (some (.int z))) args s 0 0 (fun _ => False)) (F0 m 2 ls []) := by
  obtain ⟨⟨hx, hb, hml, hown, hts⟩, hr, hlocks⟩ := id F
  intro n
  induction n with
  | zero =>
    intro x1 x2 u ls hw hl h
    rw [f_X4_rowWith_2] at h
    cases h
  | succ n ih =>
    intro x1 x2 u ls hw hl h
    rw [f_X4_rowWith_2] at h
    refine lv_iload_n hx hb dX4_rowWith_2 rfl (lv_at hl 2 rfl) ?_
    refine lv_bipush (v := 8) hx hb dX4_rowWith_3 rfl ?_
    refine lv_icmp_ge (tgt := 60) hx hb dX4_rowWith_5 rfl (fun c1 => ?_) (fun c1 => ?_)
    · replace h := itT h c1
      refine lv_iconst (v := (-1)) hx hb dX4_rowWith_60 rfl ?_
      cases h
      exact retO_i F dX4_rowWith_61
    · replace h := itF h c1
      refine lv_iconst (v := 0) hx hb dX4_rowWith_8 rfl ?_
      refine lv_istore_n (lv' := [(3, .int 0), (0, .ref (ad 0)), (1, .int x1), (2, .int x2)]) hx hb dX4_rowWith_9 rfl hl (by decide) rfl (fun ls hl => ?_)
      exact w_X4_rowWith_10 F (f_X4_rowWith_2 n) (fun x1 x2 u ls hw hl h => ih x1 x2 u ls hw hl h) NF _ _ _ _ _ hw (lv_sub hl [1, 2, 3, 0] rfl) h
set_option maxHeartbeats 4000000 in
set_option maxRecDepth 100000 in
theorem w_X4_rowWith_0 (F : FX p m c cX4_rowWith 4 s args yX4_rowWith (some .int) RX4 meth) {z : Int32} : ∀ (x1 : Int32) (u : MS) (ls : Array Slot), WD G A s (mw G ad u) s.heap [] → lv_has ls 4 [(0, .ref (ad 0)), (1, .int x1)] → f_X4_rowWith x1 u = some z → W p l e rmX4_rowWith s m args below meth c s.heap [] 0 0 (MQ below (QO (some (.int z))) args s 0 0 (fun _ => False)) (F0 m 0 ls []) := by
  obtain ⟨⟨hx, hb, hml, hown, hts⟩, hr, hlocks⟩ := id F
  intro x1 u ls hw hl h
  unfold f_X4_rowWith at h
  refine lv_iconst (v := 0) hx hb dX4_rowWith_0 rfl ?_
  refine lv_istore_n (lv' := [(2, .int 0), (0, .ref (ad 0)), (1, .int x1)]) hx hb dX4_rowWith_1 rfl hl (by decide) rfl (fun ls hl => ?_)
  exact w_X4_rowWith_2 F NF _ _ _ _ hw (lv_sub hl [1, 2, 0] rfl) h
end
theorem c_X4_rowWith {l : Launch} {G : GX} {ad : Nat → Nat} {x1 : Int32} {u : MS} {z : Int32} (h : f_X4_rowWith x1 u = some z) : MO l yX4_rowWith cX4_rowWith 4 (some .int) rmX4_rowWith G (mw G ad u) [.ref (ad 0), .int x1] (some (.int z)) := MO.of (by decide) (Nat.le_of_ble_eq_true rfl) (fun p e s m below meth c ls F hw hl => w_X4_rowWith_0 F _ _ _ hw hl h)
theorem yv_X4_rowWith : YV RX4 100 yX4_rowWith cX4_rowWith 4 (some .int) 1 := ⟨(tw 641 (by decide +kernel) rfl), (tw 6 (by decide +kernel) rfl), (tw 638 (by decide +kernel) rfl), (tw 640 (by decide +kernel) rfl), (tp 19 (by decide +kernel) rfl), by decide +kernel⟩
theorem k_X4_rowWith {p : Program} {l : Launch} {e : Env} {R : Room} {s : State} {m : MethodId} {args : Array Value} {below : List Frame} {meth : Method} {c : Code} {H : Heap} {locs : List Loc} {cells slots : Nat} {Q : State → Prop} {G : GX} {A : Nat → Prop} {ad : Nat → Nat} {cc : ByteArray} {nL pc : Nat} {y0 : MethodName} {ret0 : Option FieldType} {ls : Array Slot} {rest : List Value} {u : MS} {x1 : Int32} {z : Int32} (F : FX p m c cc nL s args y0 ret0 RX4 meth) (hw : WD G A s (mw G ad u) H locs) (h : f_X4_rowWith x1 u = some z) (hR : rmX4_rowWith.frames + 1 ≤ R.frames ∧ 8 + (4 + 11) + rmX4_rowWith.locals ≤ R.locals) (hcs : cells ≤ R.cells ∧ slots ≤ R.slots) (hsz : ls.size = nL) (hW : (rest.map fun v => v.category).sum ≤ 8) (hdg : decode cc pc = .ok (.invokevirtual 100, 3)) (kk : W p l e R s m args below meth c H locs cells slots Q (F0 m (pc + 3) ls (.int z :: rest))) : W p l e R s m args below meth c H locs cells slots Q (F0 m pc ls (.int x1 :: .ref (ad 0) :: rest)) := callO (runV F yv_X4_rowWith (c_X4_rowWith h) hw.1 hw.2.1 hw.2.2.1 rfl rfl rfl ⟨rfl, rfl⟩ hR hcs rfl hsz rfl hW hdg) kk
/-! ===== X4_placeOf ===== -/
theorem dX4_placeOf_0 : decode cX4_placeOf 0 = .ok (.iconst 0, 1) := by decide +kernel
theorem dX4_placeOf_1 : decode cX4_placeOf 1 = .ok (.istore_n 3, 1) := by decide +kernel
theorem dX4_placeOf_2 : decode cX4_placeOf 2 = .ok (.aload_n 0, 1) := by decide +kernel
theorem dX4_placeOf_3 : decode cX4_placeOf 3 = .ok (.getfield 25, 3) := by decide +kernel
theorem dX4_placeOf_6 : decode cX4_placeOf 6 = .ok (.sipush 600, 3) := by decide +kernel
theorem dX4_placeOf_9 : decode cX4_placeOf 9 = .ok (.iload_n 1, 1) := by decide +kernel
theorem dX4_placeOf_10 : decode cX4_placeOf 10 = .ok (.imul, 1) := by decide +kernel
theorem dX4_placeOf_11 : decode cX4_placeOf 11 = .ok (.iload_n 3, 1) := by decide +kernel
theorem dX4_placeOf_12 : decode cX4_placeOf 12 = .ok (.iadd, 1) := by decide +kernel
theorem dX4_placeOf_13 : decode cX4_placeOf 13 = .ok (.iaload, 1) := by decide +kernel
theorem dX4_placeOf_14 : decode cX4_placeOf 14 = .ok (.iload_n 2, 1) := by decide +kernel
theorem dX4_placeOf_15 : decode cX4_placeOf 15 = .ok (.if_icmp .eq 9, 3) := by decide +kernel
theorem dX4_placeOf_18 : decode cX4_placeOf 18 = .ok (.iinc 3 1, 3) := by decide +kernel
theorem dX4_placeOf_21 : decode cX4_placeOf 21 = .ok (.goto (-19), 3) := by decide +kernel
theorem dX4_placeOf_24 : decode cX4_placeOf 24 = .ok (.iload_n 3, 1) := by decide +kernel
theorem dX4_placeOf_25 : decode cX4_placeOf 25 = .ok (.ireturn, 1) := by decide +kernel
def rmX4_placeOf : Room := { frames := 0, cells := 0, slots := 0, locals := 0 }
noncomputable def f_X4_placeOf_2 : Nat → Int32 → Int32 → Int32 → MS → Option (Int32)
  | 0, _, _, _, _ => none
  | n + 1, x1, x2, x3, u => (if ix ((600 * x1) + x3) 4800 = true then (if (u.2.1 7 (Int32.toNatClampNeg ((600 * x1) + x3))) = x2 then some x3 else f_X4_placeOf_2 n x1 x2 (x3 + 1) u) else none)
noncomputable def f_X4_placeOf (x1 : Int32) (x2 : Int32) (u : MS) : Option (Int32) := f_X4_placeOf_2 NF x1 x2 0 u
section
variable {p : Program} {l : Launch} {e : Env} {s : State} {m : MethodId} {args : Array Value} {below : List Frame} {meth : Method} {c : Code}
variable {G : GX} {A : Nat → Prop} {ad : Nat → Nat}
set_option maxHeartbeats 4000000 in
set_option maxRecDepth 100000 in
theorem w_X4_placeOf_2 (F : FX p m c cX4_placeOf 4 s args yX4_placeOf (some .int) RX4 meth) {z : Int32} : ∀ (n : Nat) (x1 : Int32) (x2 : Int32) (x3 : Int32) (u : MS) (ls : Array Slot), WD G A s (mw G ad u) s.heap [] → lv_has ls 4 [(0, .ref (ad 0)), (1, .int x1), (2, .int x2), (3, .int x3)] → f_X4_placeOf_2 n x1 x2 x3 u = some z → W p l e rmX4_placeOf s m args below meth c s.heap [] 0 0 (MQ below (QO (some (.int z))) args s 0 0 (fun _ => False)) (F0 m 2 ls []) := by
  obtain ⟨⟨hx, hb, hml, hown, hts⟩, hr, hlocks⟩ := id F
  intro n
  induction n with
  | zero =>
    intro x1 x2 x3 u ls hw hl h
    rw [f_X4_placeOf_2] at h
    cases h
  | succ n ih =>
    intro x1 x2 x3 u ls hw hl h
    rw [f_X4_placeOf_2] at h
    refine lv_aload_n hx hb dX4_placeOf_2 rfl (lv_at hl 0 rfl) ?_
    refine m_g7 F hw dX4_placeOf_3 ?_
    refine lv_sipush (v := 600) hx hb dX4_placeOf_6 rfl ?_
    refine lv_iload_n hx hb dX4_placeOf_9 rfl (lv_at hl 1 rfl) ?_
    refine lv_imul hx hb dX4_placeOf_10 ?_
    refine lv_iload_n hx hb dX4_placeOf_11 rfl (lv_at hl 3 rfl) ?_
    refine lv_iadd hx hb dX4_placeOf_12 ?_
    obtain ⟨g1, h⟩ := gd h
    refine m_l7 F hw g1 dX4_placeOf_13 ?_
    refine lv_iload_n hx hb dX4_placeOf_14 rfl (lv_at hl 2 rfl) ?_
    refine lv_icmp_eq (tgt := 24) hx hb dX4_placeOf_15 rfl (fun c2 => ?_) (fun c2 => ?_)
    · replace h := itT h c2
      refine lv_iload_n hx hb dX4_placeOf_24 rfl (lv_at hl 3 rfl) ?_
      cases h
      exact retO_i F dX4_placeOf_25
    · replace h := itF h c2
      refine lv_iinc (v := (x3 + 1)) (lv' := [(3, .int (x3 + 1)), (0, .ref (ad 0)), (1, .int x1), (2, .int x2)]) hx hb dX4_placeOf_18 hl (k := 3) rfl rfl (by decide) rfl (fun ls hl => ?_)
      refine lv_goto (tgt := 2) hx hb dX4_placeOf_21 rfl ?_
      exact ih _ _ _ _ _ hw (lv_sub hl [1, 2, 3, 0] rfl) h
set_option maxHeartbeats 4000000 in
set_option maxRecDepth 100000 in
theorem w_X4_placeOf_0 (F : FX p m c cX4_placeOf 4 s args yX4_placeOf (some .int) RX4 meth) {z : Int32} : ∀ (x1 : Int32) (x2 : Int32) (u : MS) (ls : Array Slot), WD G A s (mw G ad u) s.heap [] → lv_has ls 4 [(0, .ref (ad 0)), (1, .int x1), (2, .int x2)] → f_X4_placeOf x1 x2 u = some z → W p l e rmX4_placeOf s m args below meth c s.heap [] 0 0 (MQ below (QO (some (.int z))) args s 0 0 (fun _ => False)) (F0 m 0 ls []) := by
  obtain ⟨⟨hx, hb, hml, hown, hts⟩, hr, hlocks⟩ := id F
  intro x1 x2 u ls hw hl h
  unfold f_X4_placeOf at h
  refine lv_iconst (v := 0) hx hb dX4_placeOf_0 rfl ?_
  refine lv_istore_n (lv' := [(3, .int 0), (0, .ref (ad 0)), (1, .int x1), (2, .int x2)]) hx hb dX4_placeOf_1 rfl hl (by decide) rfl (fun ls hl => ?_)
  exact w_X4_placeOf_2 F NF _ _ _ _ _ hw (lv_sub hl [1, 2, 3, 0] rfl) h
end
theorem c_X4_placeOf {l : Launch} {G : GX} {ad : Nat → Nat} {x1 : Int32} {x2 : Int32} {u : MS} {z : Int32} (h : f_X4_placeOf x1 x2 u = some z) : MO l yX4_placeOf cX4_placeOf 4 (some .int) rmX4_placeOf G (mw G ad u) [.ref (ad 0), .int x1, .int x2] (some (.int z)) := MO.of (by decide) (Nat.le_of_ble_eq_true rfl) (fun p e s m below meth c ls F hw hl => w_X4_placeOf_0 F _ _ _ _ hw hl h)
theorem yv_X4_placeOf : YV RX4 171 yX4_placeOf cX4_placeOf 4 (some .int) 2 := ⟨(tw 645 (by decide +kernel) rfl), (tw 6 (by decide +kernel) rfl), (tw 642 (by decide +kernel) rfl), (tw 644 (by decide +kernel) rfl), (tp 20 (by decide +kernel) rfl), by decide +kernel⟩
theorem k_X4_placeOf {p : Program} {l : Launch} {e : Env} {R : Room} {s : State} {m : MethodId} {args : Array Value} {below : List Frame} {meth : Method} {c : Code} {H : Heap} {locs : List Loc} {cells slots : Nat} {Q : State → Prop} {G : GX} {A : Nat → Prop} {ad : Nat → Nat} {cc : ByteArray} {nL pc : Nat} {y0 : MethodName} {ret0 : Option FieldType} {ls : Array Slot} {rest : List Value} {u : MS} {x1 : Int32} {x2 : Int32} {z : Int32} (F : FX p m c cc nL s args y0 ret0 RX4 meth) (hw : WD G A s (mw G ad u) H locs) (h : f_X4_placeOf x1 x2 u = some z) (hR : rmX4_placeOf.frames + 1 ≤ R.frames ∧ 8 + (4 + 11) + rmX4_placeOf.locals ≤ R.locals) (hcs : cells ≤ R.cells ∧ slots ≤ R.slots) (hsz : ls.size = nL) (hW : (rest.map fun v => v.category).sum ≤ 8) (hdg : decode cc pc = .ok (.invokevirtual 171, 3)) (kk : W p l e R s m args below meth c H locs cells slots Q (F0 m (pc + 3) ls (.int z :: rest))) : W p l e R s m args below meth c H locs cells slots Q (F0 m pc ls (.int x2 :: .int x1 :: .ref (ad 0) :: rest)) := callO (runV F yv_X4_placeOf (c_X4_placeOf h) hw.1 hw.2.1 hw.2.2.1 rfl rfl rfl ⟨rfl, rfl⟩ hR hcs rfl hsz rfl hW hdg) kk
/-! ===== X4_isThing ===== -/
theorem dX4_isThing_0 : decode cX4_isThing 0 = .ok (.iload_n 1, 1) := by decide +kernel
theorem dX4_isThing_1 : decode cX4_isThing 1 = .ok (.iconst 0, 1) := by decide +kernel
theorem dX4_isThing_2 : decode cX4_isThing 2 = .ok (.aload_n 0, 1) := by decide +kernel
theorem dX4_isThing_3 : decode cX4_isThing 3 = .ok (.getfield 97, 3) := by decide +kernel
theorem dX4_isThing_6 : decode cX4_isThing 6 = .ok (.iconst 1, 1) := by decide +kernel
theorem dX4_isThing_7 : decode cX4_isThing 7 = .ok (.isub, 1) := by decide +kernel
theorem dX4_isThing_8 : decode cX4_isThing 8 = .ok (.invokestatic 93, 3) := by decide +kernel
theorem dX4_isThing_11 : decode cX4_isThing 11 = .ok (.ifCond .eq 18, 3) := by decide +kernel
theorem dX4_isThing_14 : decode cX4_isThing 14 = .ok (.aload_n 0, 1) := by decide +kernel
theorem dX4_isThing_15 : decode cX4_isThing 15 = .ok (.iconst 2, 1) := by decide +kernel
theorem dX4_isThing_16 : decode cX4_isThing 16 = .ok (.iload_n 1, 1) := by decide +kernel
theorem dX4_isThing_17 : decode cX4_isThing 17 = .ok (.imul, 1) := by decide +kernel
theorem dX4_isThing_18 : decode cX4_isThing 18 = .ok (.invokevirtual 100, 3) := by decide +kernel
theorem dX4_isThing_21 : decode cX4_isThing 21 = .ok (.iconst (-1), 1) := by decide +kernel
theorem dX4_isThing_22 : decode cX4_isThing 22 = .ok (.if_icmp .eq 7, 3) := by decide +kernel
theorem dX4_isThing_25 : decode cX4_isThing 25 = .ok (.iconst 1, 1) := by decide +kernel
theorem dX4_isThing_26 : decode cX4_isThing 26 = .ok (.goto 4, 3) := by decide +kernel
theorem dX4_isThing_29 : decode cX4_isThing 29 = .ok (.iconst 0, 1) := by decide +kernel
theorem dX4_isThing_30 : decode cX4_isThing 30 = .ok (.ireturn, 1) := by decide +kernel
def rmX4_isThing : Room := { frames := 1, cells := 0, slots := 0, locals := 23 }
noncomputable def f_X4_isThing (x1 : Int32) (u : MS) : Option (Int32) := (f_X4_in x1 0 ((u.1 1) - 1)).bind (fun z1 => (if z1 = 0 then some 0 else (f_X4_rowWith (2 * x1) u).bind (fun z4 => (if z4 = ((-1) : Int32) then some 0 else some 1))))
section
variable {p : Program} {l : Launch} {e : Env} {s : State} {m : MethodId} {args : Array Value} {below : List Frame} {meth : Method} {c : Code}
variable {G : GX} {A : Nat → Prop} {ad : Nat → Nat}
set_option maxHeartbeats 4000000 in
set_option maxRecDepth 100000 in
theorem w_X4_isThing_0 (F : FX p m c cX4_isThing 2 s args yX4_isThing (some .boolean) RX4 meth) {z : Int32} : ∀ (x1 : Int32) (u : MS) (ls : Array Slot), WD G A s (mw G ad u) s.heap [] → lv_has ls 2 [(0, .ref (ad 0)), (1, .int x1)] → f_X4_isThing x1 u = some z → W p l e rmX4_isThing s m args below meth c s.heap [] 0 0 (MQ below (QO (some (.int z))) args s 0 0 (fun _ => False)) (F0 m 0 ls []) := by
  obtain ⟨⟨hx, hb, hml, hown, hts⟩, hr, hlocks⟩ := id F
  intro x1 u ls hw hl h
  unfold f_X4_isThing at h
  refine lv_iload_n hx hb dX4_isThing_0 rfl (lv_at hl 1 rfl) ?_
  refine lv_iconst (v := 0) hx hb dX4_isThing_1 rfl ?_
  refine lv_aload_n hx hb dX4_isThing_2 rfl (lv_at hl 0 rfl) ?_
  refine m_g1 F hw dX4_isThing_3 ?_
  refine lv_iconst (v := 1) hx hb dX4_isThing_6 rfl ?_
  refine lv_isub hx hb dX4_isThing_7 ?_
  obtain ⟨z1, e2, h⟩ := bnd h
  refine k_X4_in F hw e2 ⟨Nat.le_of_ble_eq_true rfl, Nat.le_of_ble_eq_true rfl⟩ ⟨Nat.zero_le _, Nat.zero_le _⟩ hl.1 (Nat.le_of_ble_eq_true rfl) dX4_isThing_8 ?_
  refine lv_if_eq (tgt := 29) hx hb dX4_isThing_11 rfl (fun c3 => ?_) (fun c3 => ?_)
  · replace h := itT h c3
    refine lv_iconst (v := 0) hx hb dX4_isThing_29 rfl ?_
    cases h
    exact retO_z F narrow_b0 dX4_isThing_30
  · replace h := itF h c3
    refine lv_aload_n hx hb dX4_isThing_14 rfl (lv_at hl 0 rfl) ?_
    refine lv_iconst (v := 2) hx hb dX4_isThing_15 rfl ?_
    refine lv_iload_n hx hb dX4_isThing_16 rfl (lv_at hl 1 rfl) ?_
    refine lv_imul hx hb dX4_isThing_17 ?_
    obtain ⟨z4, e5, h⟩ := bnd h
    refine k_X4_rowWith F hw e5 ⟨Nat.le_of_ble_eq_true rfl, Nat.le_of_ble_eq_true rfl⟩ ⟨Nat.zero_le _, Nat.zero_le _⟩ hl.1 (Nat.le_of_ble_eq_true rfl) dX4_isThing_18 ?_
    refine lv_iconst (v := (-1)) hx hb dX4_isThing_21 rfl ?_
    refine lv_icmp_eq (tgt := 29) hx hb dX4_isThing_22 rfl (fun c6 => ?_) (fun c6 => ?_)
    · replace h := itT h c6
      refine lv_iconst (v := 0) hx hb dX4_isThing_29 rfl ?_
      cases h
      exact retO_z F narrow_b0 dX4_isThing_30
    · replace h := itF h c6
      refine lv_iconst (v := 1) hx hb dX4_isThing_25 rfl ?_
      refine lv_goto (tgt := 30) hx hb dX4_isThing_26 rfl ?_
      cases h
      exact retO_z F narrow_b1 dX4_isThing_30
end
theorem c_X4_isThing {l : Launch} {G : GX} {ad : Nat → Nat} {x1 : Int32} {u : MS} {z : Int32} (h : f_X4_isThing x1 u = some z) : MO l yX4_isThing cX4_isThing 2 (some .boolean) rmX4_isThing G (mw G ad u) [.ref (ad 0), .int x1] (some (.int z)) := MO.of (by decide) (Nat.le_of_ble_eq_true rfl) (fun p e s m below meth c ls F hw hl => w_X4_isThing_0 F _ _ _ hw hl h)
theorem yv_X4_isThing : YV RX4 183 yX4_isThing cX4_isThing 2 (some .boolean) 1 := ⟨(tw 637 (by decide +kernel) rfl), (tw 6 (by decide +kernel) rfl), (tw 634 (by decide +kernel) rfl), (tw 636 (by decide +kernel) rfl), (tp 18 (by decide +kernel) rfl), by decide +kernel⟩
theorem k_X4_isThing {p : Program} {l : Launch} {e : Env} {R : Room} {s : State} {m : MethodId} {args : Array Value} {below : List Frame} {meth : Method} {c : Code} {H : Heap} {locs : List Loc} {cells slots : Nat} {Q : State → Prop} {G : GX} {A : Nat → Prop} {ad : Nat → Nat} {cc : ByteArray} {nL pc : Nat} {y0 : MethodName} {ret0 : Option FieldType} {ls : Array Slot} {rest : List Value} {u : MS} {x1 : Int32} {z : Int32} (F : FX p m c cc nL s args y0 ret0 RX4 meth) (hw : WD G A s (mw G ad u) H locs) (h : f_X4_isThing x1 u = some z) (hR : rmX4_isThing.frames + 1 ≤ R.frames ∧ 8 + (2 + 11) + rmX4_isThing.locals ≤ R.locals) (hcs : cells ≤ R.cells ∧ slots ≤ R.slots) (hsz : ls.size = nL) (hW : (rest.map fun v => v.category).sum ≤ 8) (hdg : decode cc pc = .ok (.invokevirtual 183, 3)) (kk : W p l e R s m args below meth c H locs cells slots Q (F0 m (pc + 3) ls (.int z :: rest))) : W p l e R s m args below meth c H locs cells slots Q (F0 m pc ls (.int x1 :: .ref (ad 0) :: rest)) := callO (runV F yv_X4_isThing (c_X4_isThing h) hw.1 hw.2.1 hw.2.2.1 rfl rfl rfl ⟨rfl, rfl⟩ hR hcs rfl hsz rfl hW hdg) kk
/-! ===== X4_hasBlocks ===== -/
theorem dX4_hasBlocks_0 : decode cX4_hasBlocks 0 = .ok (.aload_n 0, 1) := by decide +kernel
theorem dX4_hasBlocks_1 : decode cX4_hasBlocks 1 = .ok (.getfield 7, 3) := by decide +kernel
theorem dX4_hasBlocks_4 : decode cX4_hasBlocks 4 = .ok (.iload_n 1, 1) := by decide +kernel
theorem dX4_hasBlocks_5 : decode cX4_hasBlocks 5 = .ok (.iaload, 1) := by decide +kernel
theorem dX4_hasBlocks_6 : decode cX4_hasBlocks 6 = .ok (.iconst 2, 1) := by decide +kernel
theorem dX4_hasBlocks_7 : decode cX4_hasBlocks 7 = .ok (.if_icmp .lt 7, 3) := by decide +kernel
theorem dX4_hasBlocks_10 : decode cX4_hasBlocks 10 = .ok (.iconst 1, 1) := by decide +kernel
theorem dX4_hasBlocks_11 : decode cX4_hasBlocks 11 = .ok (.goto 4, 3) := by decide +kernel
theorem dX4_hasBlocks_14 : decode cX4_hasBlocks 14 = .ok (.iconst 0, 1) := by decide +kernel
theorem dX4_hasBlocks_15 : decode cX4_hasBlocks 15 = .ok (.ireturn, 1) := by decide +kernel
def rmX4_hasBlocks : Room := { frames := 0, cells := 0, slots := 0, locals := 0 }
noncomputable def f_X4_hasBlocks (x1 : Int32) (u : MS) : Option (Int32) := (if ix x1 8 = true then (if (u.2.1 2 (Int32.toNatClampNeg x1)) < (2 : Int32) then some 0 else some 1) else none)
section
variable {p : Program} {l : Launch} {e : Env} {s : State} {m : MethodId} {args : Array Value} {below : List Frame} {meth : Method} {c : Code}
variable {G : GX} {A : Nat → Prop} {ad : Nat → Nat}
set_option maxHeartbeats 4000000 in
set_option maxRecDepth 100000 in
theorem w_X4_hasBlocks_0 (F : FX p m c cX4_hasBlocks 2 s args yX4_hasBlocks (some .boolean) RX4 meth) {z : Int32} : ∀ (x1 : Int32) (u : MS) (ls : Array Slot), WD G A s (mw G ad u) s.heap [] → lv_has ls 2 [(0, .ref (ad 0)), (1, .int x1)] → f_X4_hasBlocks x1 u = some z → W p l e rmX4_hasBlocks s m args below meth c s.heap [] 0 0 (MQ below (QO (some (.int z))) args s 0 0 (fun _ => False)) (F0 m 0 ls []) := by
  obtain ⟨⟨hx, hb, hml, hown, hts⟩, hr, hlocks⟩ := id F
  intro x1 u ls hw hl h
  unfold f_X4_hasBlocks at h
  refine lv_aload_n hx hb dX4_hasBlocks_0 rfl (lv_at hl 0 rfl) ?_
  refine m_g2 F hw dX4_hasBlocks_1 ?_
  refine lv_iload_n hx hb dX4_hasBlocks_4 rfl (lv_at hl 1 rfl) ?_
  obtain ⟨g1, h⟩ := gd h
  refine m_l2 F hw g1 dX4_hasBlocks_5 ?_
  refine lv_iconst (v := 2) hx hb dX4_hasBlocks_6 rfl ?_
  refine lv_icmp_lt (tgt := 14) hx hb dX4_hasBlocks_7 rfl (fun c2 => ?_) (fun c2 => ?_)
  · replace h := itT h c2
    refine lv_iconst (v := 0) hx hb dX4_hasBlocks_14 rfl ?_
    cases h
    exact retO_z F narrow_b0 dX4_hasBlocks_15
  · replace h := itF h c2
    refine lv_iconst (v := 1) hx hb dX4_hasBlocks_10 rfl ?_
    refine lv_goto (tgt := 15) hx hb dX4_hasBlocks_11 rfl ?_
    cases h
    exact retO_z F narrow_b1 dX4_hasBlocks_15
end
theorem c_X4_hasBlocks {l : Launch} {G : GX} {ad : Nat → Nat} {x1 : Int32} {u : MS} {z : Int32} (h : f_X4_hasBlocks x1 u = some z) : MO l yX4_hasBlocks cX4_hasBlocks 2 (some .boolean) rmX4_hasBlocks G (mw G ad u) [.ref (ad 0), .int x1] (some (.int z)) := MO.of (by decide) (Nat.le_of_ble_eq_true rfl) (fun p e s m below meth c ls F hw hl => w_X4_hasBlocks_0 F _ _ _ hw hl h)
theorem yv_X4_hasBlocks : YV RX4 161 yX4_hasBlocks cX4_hasBlocks 2 (some .boolean) 1 := ⟨(tw 657 (by decide +kernel) rfl), (tw 6 (by decide +kernel) rfl), (tw 654 (by decide +kernel) rfl), (tw 656 (by decide +kernel) rfl), (tp 23 (by decide +kernel) rfl), by decide +kernel⟩
theorem k_X4_hasBlocks {p : Program} {l : Launch} {e : Env} {R : Room} {s : State} {m : MethodId} {args : Array Value} {below : List Frame} {meth : Method} {c : Code} {H : Heap} {locs : List Loc} {cells slots : Nat} {Q : State → Prop} {G : GX} {A : Nat → Prop} {ad : Nat → Nat} {cc : ByteArray} {nL pc : Nat} {y0 : MethodName} {ret0 : Option FieldType} {ls : Array Slot} {rest : List Value} {u : MS} {x1 : Int32} {z : Int32} (F : FX p m c cc nL s args y0 ret0 RX4 meth) (hw : WD G A s (mw G ad u) H locs) (h : f_X4_hasBlocks x1 u = some z) (hR : rmX4_hasBlocks.frames + 1 ≤ R.frames ∧ 8 + (2 + 11) + rmX4_hasBlocks.locals ≤ R.locals) (hcs : cells ≤ R.cells ∧ slots ≤ R.slots) (hsz : ls.size = nL) (hW : (rest.map fun v => v.category).sum ≤ 8) (hdg : decode cc pc = .ok (.invokevirtual 161, 3)) (kk : W p l e R s m args below meth c H locs cells slots Q (F0 m (pc + 3) ls (.int z :: rest))) : W p l e R s m args below meth c H locs cells slots Q (F0 m pc ls (.int x1 :: .ref (ad 0) :: rest)) := callO (runV F yv_X4_hasBlocks (c_X4_hasBlocks h) hw.1 hw.2.1 hw.2.2.1 rfl rfl rfl ⟨rfl, rfl⟩ hR hcs rfl hsz rfl hW hdg) kk
