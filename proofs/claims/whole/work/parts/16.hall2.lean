/-! ===== X3_spareSlot ===== -/
theorem dX3_spareSlot_0 : decode cX3_spareSlot 0 = .ok (.aload_n 0, 1) := by decide +kernel
theorem dX3_spareSlot_1 : decode cX3_spareSlot 1 = .ok (.getfield 24, 3) := by decide +kernel
theorem dX3_spareSlot_4 : decode cX3_spareSlot 4 = .ok (.bipush 8, 2) := by decide +kernel
theorem dX3_spareSlot_6 : decode cX3_spareSlot 6 = .ok (.if_icmp .ge 12, 3) := by decide +kernel
theorem dX3_spareSlot_9 : decode cX3_spareSlot 9 = .ok (.aload_n 0, 1) := by decide +kernel
theorem dX3_spareSlot_10 : decode cX3_spareSlot 10 = .ok (.getfield 24, 3) := by decide +kernel
theorem dX3_spareSlot_13 : decode cX3_spareSlot 13 = .ok (.iconst 1, 1) := by decide +kernel
theorem dX3_spareSlot_14 : decode cX3_spareSlot 14 = .ok (.iadd, 1) := by decide +kernel
theorem dX3_spareSlot_15 : decode cX3_spareSlot 15 = .ok (.goto 4, 3) := by decide +kernel
theorem dX3_spareSlot_18 : decode cX3_spareSlot 18 = .ok (.iconst 0, 1) := by decide +kernel
theorem dX3_spareSlot_19 : decode cX3_spareSlot 19 = .ok (.ireturn, 1) := by decide +kernel
theorem h_g0_3 {p : Program} {l : Launch} {e : Env} {R : Room} {s : State} {m : MethodId} {args : Array Value} {below : List Frame} {meth : Method} {c : Code} {H : Heap} {locs : List Loc} {cells slots : Nat} {Q : State → Prop} {G : GX} {A : Nat → Prop} {ad : Nat → Nat} {u : HS} {cc : ByteArray} {nL pc : Nat} {y : MethodName} {ret : Option FieldType} {ls : Array Slot} {rest : List Value} (F : FX p m c cc nL s args y ret RX3 meth) (hw : WD G A s (hw_ G ad u) H locs) (hdg : decode cc pc = .ok (.getfield 24, 3)) (kk : W p l e R s m args below meth c H locs cells slots Q (F0 m (pc + 3) ls (.int (u.2.2.1 3) :: rest))) : W p l e R s m args below meth c H locs cells slots Q (F0 m pc ls (.ref (ad 0) :: rest)) := va_get (D := G.1) (ci := 3) (C := RX3) (T := TX3) (N := 6) (Ts := lw_gt) F.1.1 F.1.2.1 (fun _ h => F.tb h) inX3 F.1.2.2.2.1 hw.1.1 hw.2.1 0 rfl rfl 3 (by decide) (F.tb (tw 104 (by decide +kernel) rfl)) (fun _ h9 => h9) rfl hdg kk
def rmX3_spareSlot : Room := { frames := 0, cells := 0, slots := 0, locals := 0 }
noncomputable def f_X3_spareSlot (u : HS) : Option (Int32) := (if (8 : Int32) ≤ (u.2.2.1 3) then some 0 else some ((u.2.2.1 3) + 1))
section
variable {p : Program} {l : Launch} {e : Env} {s : State} {m : MethodId} {args : Array Value} {below : List Frame} {meth : Method} {c : Code}
variable {G : GX} {A : Nat → Prop} {ad : Nat → Nat} 
set_option maxHeartbeats 4000000 in
set_option maxRecDepth 100000 in
theorem w_X3_spareSlot_0 (F : FX p m c cX3_spareSlot 1 s args yX3_spareSlot (some .int) RX3 meth) {z : Int32} : ∀ (u : HS) (ls : Array Slot), WD G A s (hw_ G ad u) s.heap [] → lv_has ls 1 [(0, .ref (ad 0))] → f_X3_spareSlot u = some z → W p l e rmX3_spareSlot s m args below meth c s.heap [] 0 0 (MQ below (QO (some (.int z))) args s 0 0 (fun _ => False)) (F0 m 0 ls []) := by
  obtain ⟨⟨hx, hb, hml, hown, hts⟩, hr, hlocks⟩ := id F
  intro u ls hw hl h
  unfold f_X3_spareSlot at h
  refine lv_aload_n hx hb dX3_spareSlot_0 rfl (lv_at hl 0 rfl) ?_
  refine h_g0_3 F hw dX3_spareSlot_1 ?_
  refine lv_bipush (v := 8) hx hb dX3_spareSlot_4 rfl ?_
  refine lv_icmp_ge (tgt := 18) hx hb dX3_spareSlot_6 rfl (fun c1 => ?_) (fun c1 => ?_)
  · replace h := itT h c1
    refine lv_iconst (v := 0) hx hb dX3_spareSlot_18 rfl ?_
    cases h
    exact retO_i F dX3_spareSlot_19
  · replace h := itF h c1
    refine lv_aload_n hx hb dX3_spareSlot_9 rfl (lv_at hl 0 rfl) ?_
    refine h_g0_3 F hw dX3_spareSlot_10 ?_
    refine lv_iconst (v := 1) hx hb dX3_spareSlot_13 rfl ?_
    refine lv_iadd hx hb dX3_spareSlot_14 ?_
    refine lv_goto (tgt := 19) hx hb dX3_spareSlot_15 rfl ?_
    cases h
    exact retO_i F dX3_spareSlot_19
end
theorem c_X3_spareSlot {l : Launch} {G : GX} {ad : Nat → Nat} {u : HS} {z : Int32} (h : f_X3_spareSlot u = some z) : MO l yX3_spareSlot cX3_spareSlot 1 (some .int) rmX3_spareSlot G (hw_ G ad u) [.ref (ad 0)] (some (.int z)) := MO.of (by decide) (Nat.le_of_ble_eq_true rfl) (fun p e s m below meth c ls F hw hl => w_X3_spareSlot_0 F  _ _ hw hl h)
theorem h_g0_0 {p : Program} {l : Launch} {e : Env} {R : Room} {s : State} {m : MethodId} {args : Array Value} {below : List Frame} {meth : Method} {c : Code} {H : Heap} {locs : List Loc} {cells slots : Nat} {Q : State → Prop} {G : GX} {A : Nat → Prop} {ad : Nat → Nat} {u : HS} {cc : ByteArray} {nL pc : Nat} {y : MethodName} {ret : Option FieldType} {ls : Array Slot} {rest : List Value} (F : FX p m c cc nL s args y ret RX3 meth) (hw : WD G A s (hw_ G ad u) H locs) (hdg : decode cc pc = .ok (.getfield 11, 3)) (kk : W p l e R s m args below meth c H locs cells slots Q (F0 m (pc + 3) ls (.ref (ad 1) :: rest))) : W p l e R s m args below meth c H locs cells slots Q (F0 m pc ls (.ref (ad 0) :: rest)) := va_get (D := G.1) (ci := 3) (C := RX3) (T := TX3) (N := 6) (Ts := lw_gt) F.1.1 F.1.2.1 (fun _ h => F.tb h) inX3 F.1.2.2.2.1 hw.1.1 hw.2.1 0 rfl rfl 0 (by decide) (F.tb (tw 101 (by decide +kernel) rfl)) (fun _ h9 => h9) rfl hdg kk
theorem h_g0_2 {p : Program} {l : Launch} {e : Env} {R : Room} {s : State} {m : MethodId} {args : Array Value} {below : List Frame} {meth : Method} {c : Code} {H : Heap} {locs : List Loc} {cells slots : Nat} {Q : State → Prop} {G : GX} {A : Nat → Prop} {ad : Nat → Nat} {u : HS} {cc : ByteArray} {nL pc : Nat} {y : MethodName} {ret : Option FieldType} {ls : Array Slot} {rest : List Value} (F : FX p m c cc nL s args y ret RX3 meth) (hw : WD G A s (hw_ G ad u) H locs) (hdg : decode cc pc = .ok (.getfield 20, 3)) (kk : W p l e R s m args below meth c H locs cells slots Q (F0 m (pc + 3) ls (.ref (u.1 0) :: rest))) : W p l e R s m args below meth c H locs cells slots Q (F0 m pc ls (.ref (ad 0) :: rest)) := va_get (D := G.1) (ci := 3) (C := RX3) (T := TX3) (N := 6) (Ts := lw_gt) F.1.1 F.1.2.1 (fun _ h => F.tb h) inX3 F.1.2.2.2.1 hw.1.1 hw.2.1 0 rfl rfl 2 (by decide) (F.tb (tw 103 (by decide +kernel) rfl)) (fun _ h9 => h9) rfl hdg kk
theorem yv_X3_spareSlot_X3 : YV RX3 220 yX3_spareSlot cX3_spareSlot 1 (some .int) 0 := ⟨(tw 138 (by decide +kernel) rfl), (tw 1 (by decide +kernel) rfl), (tw 135 (by decide +kernel) rfl), (tw 137 (by decide +kernel) rfl), (tp 1 (by decide +kernel) rfl), by decide +kernel⟩
theorem k_X3_spareSlot_h_ {p : Program} {l : Launch} {e : Env} {R : Room} {s : State} {m : MethodId} {args : Array Value} {below : List Frame} {meth : Method} {c : Code} {H : Heap} {locs : List Loc} {cells slots : Nat} {Q : State → Prop} {G : GX} {A : Nat → Prop} {ad : Nat → Nat} {u : HS} {cc : ByteArray} {nL pc : Nat} {y : MethodName} {ret : Option FieldType} {ls : Array Slot} {rest : List Value} {z : Int32} (F : FX p m c cc nL s args y ret RX3 meth) (hw : WD G A s (hw_ G ad u) H locs) (h : f_X3_spareSlot u = some z) (hR : rmX3_spareSlot.frames + 1 ≤ R.frames ∧ 8 + (1 + 11) + rmX3_spareSlot.locals ≤ R.locals) (hcs : cells ≤ R.cells ∧ slots ≤ R.slots) (hsz : ls.size = nL) (hW : (rest.map fun v => v.category).sum ≤ 8) (hdg : decode cc pc = .ok (.invokevirtual 220, 3)) (kk : W p l e R s m args below meth c H locs cells slots Q (F0 m (pc + 3) ls (.int z :: rest))) : W p l e R s m args below meth c H locs cells slots Q (F0 m pc ls (.ref (ad 0) :: rest)) := callO (runV F yv_X3_spareSlot_X3 (c_X3_spareSlot h) hw.1 hw.2.1 hw.2.2.1 rfl rfl rfl ⟨rfl, rfl⟩ hR hcs rfl hsz rfl hW hdg) kk
theorem dX3_exchangeWith_0 : decode cX3_exchangeWith 0 = .ok (.aload_n 0, 1) := by decide +kernel
theorem dX3_exchangeWith_1 : decode cX3_exchangeWith 1 = .ok (.getfield 11, 3) := by decide +kernel
theorem dX3_exchangeWith_4 : decode cX3_exchangeWith 4 = .ok (.iload_n 1, 1) := by decide +kernel
theorem dX3_exchangeWith_5 : decode cX3_exchangeWith 5 = .ok (.aaload, 1) := by decide +kernel
theorem dX3_exchangeWith_6 : decode cX3_exchangeWith 6 = .ok (.astore_n 2, 1) := by decide +kernel
theorem dX3_exchangeWith_7 : decode cX3_exchangeWith 7 = .ok (.aload_n 0, 1) := by decide +kernel
theorem dX3_exchangeWith_8 : decode cX3_exchangeWith 8 = .ok (.getfield 11, 3) := by decide +kernel
theorem dX3_exchangeWith_11 : decode cX3_exchangeWith 11 = .ok (.iload_n 1, 1) := by decide +kernel
theorem dX3_exchangeWith_12 : decode cX3_exchangeWith 12 = .ok (.aload_n 0, 1) := by decide +kernel
theorem dX3_exchangeWith_13 : decode cX3_exchangeWith 13 = .ok (.getfield 20, 3) := by decide +kernel
theorem dX3_exchangeWith_16 : decode cX3_exchangeWith 16 = .ok (.aastore, 1) := by decide +kernel
theorem dX3_exchangeWith_17 : decode cX3_exchangeWith 17 = .ok (.aload_n 0, 1) := by decide +kernel
theorem dX3_exchangeWith_18 : decode cX3_exchangeWith 18 = .ok (.aload_n 2, 1) := by decide +kernel
theorem dX3_exchangeWith_19 : decode cX3_exchangeWith 19 = .ok (.putfield 20, 3) := by decide +kernel
theorem dX3_exchangeWith_22 : decode cX3_exchangeWith 22 = .ok (.return_, 1) := by decide +kernel
theorem dX3_beginChange_0 : decode cX3_beginChange 0 = .ok (.aload_n 0, 1) := by decide +kernel
theorem dX3_beginChange_1 : decode cX3_beginChange 1 = .ok (.getfield 11, 3) := by decide +kernel
theorem dX3_beginChange_4 : decode cX3_beginChange 4 = .ok (.aload_n 0, 1) := by decide +kernel
theorem dX3_beginChange_5 : decode cX3_beginChange 5 = .ok (.invokevirtual 220, 3) := by decide +kernel
theorem dX3_beginChange_8 : decode cX3_beginChange 8 = .ok (.aaload, 1) := by decide +kernel
theorem dX3_beginChange_9 : decode cX3_beginChange 9 = .ok (.aload_n 0, 1) := by decide +kernel
theorem dX3_beginChange_10 : decode cX3_beginChange 10 = .ok (.getfield 20, 3) := by decide +kernel
theorem dX3_beginChange_13 : decode cX3_beginChange 13 = .ok (.invokevirtual 223, 3) := by decide +kernel
theorem dX3_beginChange_16 : decode cX3_beginChange 16 = .ok (.return_, 1) := by decide +kernel
theorem yv_X2_copyFrom_X3 : YV RX3 223 yX2_copyFrom cX2_copyFrom 2 none 1 := ⟨(tw 142 (by decide +kernel) rfl), (tw 2 (by decide +kernel) rfl), (tw 139 (by decide +kernel) rfl), (tw 140 (by decide +kernel) rfl), (tw 141 (by decide +kernel) rfl), by decide +kernel⟩
/-! ===== exchangeWith, beginChange: walked by hand ===== -/
def rmX3_exchangeWith : Room := { frames := 0, cells := 0, slots := 0, locals := 0 }
noncomputable def f_X3_exchangeWith (x1 : Int32) (u : HS) : Option HS := (if ix x1 9 = true then some (hX u (Int32.toNatClampNeg x1)) else none)
theorem ix_lt {i : Int32} {n : Nat} (h : ix i n = true) : i.toNatClampNeg < n := by
  unfold ix at h
  simp only [Bool.and_eq_true, decide_eq_true_eq] at h
  exact h.2
theorem swap_perm {G : GX} {an : Nat → Nat} {ak : Nat → Nat → Nat} {x : SS} {f : Nat → SS} {i : Nat} (h : i < 9) : (sw G (ak i) (f i) ++ kt G (va_up ak i an) (va_up f i x)).Perm (sw G an x ++ kt G ak f) := by
  have h1 := kt_perm (G := G) (ak := va_up ak i an) (f := va_up f i x) h
  rw [ko_up, va_up_self, va_up_self] at h1
  exact ((List.Perm.append_left _ h1).trans (List.perm_append_comm_assoc _ _ _)).trans (List.Perm.append_left _ (kt_perm h).symm)
set_option maxHeartbeats 4000000 in
set_option maxRecDepth 100000 in
theorem c_X3_exchangeWith {l : Launch} {G : GX} {ad : Nat → Nat} {x1 : Int32} {u z : HS} (h : f_X3_exchangeWith x1 u = some z) : MH l yX3_exchangeWith cX3_exchangeWith 3 none rmX3_exchangeWith G (hw_ G ad u) (hw_ G ad z) [.ref (ad 0), .int x1] none := by
  refine MH.of (by decide) (Nat.le_of_ble_eq_true rfl) (fun p e s m below meth c ls F hw hl => ?_)
  obtain ⟨⟨hx, hb, hml, hown, hts⟩, hr, hlocks⟩ := id F
  unfold f_X3_exchangeWith at h
  obtain ⟨hi, h⟩ := gd h
  cases h
  have hi9 := ix_lt hi
  generalize hAe : aw (hw_ G ad u) = A at hw ⊢
  have hl : lv_has ls 3 [(0, .ref (ad 0)), (1, .int x1)] := hl
  refine lv_aload_n hx hb dX3_exchangeWith_0 rfl (lv_at hl 0 rfl) ?_
  refine h_g0_0 F hw dX3_exchangeWith_1 ?_
  refine lv_iload_n hx hb dX3_exchangeWith_4 rfl (lv_at hl 1 rfl) ?_
  refine va_aldq hx hb hw.1.1 hw.2.1 1 2 rfl rfl (ix_in hi) dX3_exchangeWith_5 ?_
  refine lv_astore_n (lv' := [(2, .ref (u.2.1 x1.toNatClampNeg 0)), (0, .ref (ad 0)), (1, .int x1)]) hx hb dX3_exchangeWith_6 rfl hl (by decide) rfl (fun ls hl => ?_)
  refine lv_aload_n hx hb dX3_exchangeWith_7 rfl (lv_at hl 1 rfl) ?_
  refine h_g0_0 F hw dX3_exchangeWith_8 ?_
  refine lv_iload_n hx hb dX3_exchangeWith_11 rfl (lv_at hl 2 rfl) ?_
  refine lv_aload_n hx hb dX3_exchangeWith_12 rfl (lv_at hl 1 rfl) ?_
  refine h_g0_2 F hw dX3_exchangeWith_13 ?_
  refine va_astq hx hb hw.1.1 hw.2.1 hw.2.2.1 hw.2.2.2 1 2 3 2 (r := (RX2, TX2, 8)) rfl rfl rfl rfl (ix_in hi) dX3_exchangeWith_16 (fun H locs hP hD hS => ?_)
  refine lv_aload_n hx hb dX3_exchangeWith_17 rfl (lv_at hl 1 rfl) ?_
  refine lv_aload_n hx hb dX3_exchangeWith_18 rfl (lv_at hl 0 rfl) ?_
  refine va_put (D := G.1) (ci := 3) (ty := .object "LabelHall$State") (C := RX3) (T := TX3) (N := 6) (Ts := lw_gt) hx hb (fun _ h => F.tb h) inX3 tyX3 tyX3_ok nmX3 hown hw.1.1 hP hD hS 0 rfl rfl 2 (by decide) (F.tb (tw 103 (by decide +kernel) rfl)) (fun _ h9 => h9) rfl (by decide +kernel) rfl rfl (Nat.le_of_ble_eq_true rfl) dX3_exchangeWith_19 (fun H locs hP hD hS => ?_)
  have e0 : (fun j => some ((hX u x1.toNatClampNeg).2.1 j 0)) = va_up (fun j => some (u.2.1 j 0)) x1.toNatClampNeg (some (u.1 0)) := by
    funext j
    by_cases hj : j = x1.toNatClampNeg <;> simp [hX, va_up, hj]
  have hp : (hw_ G ad (hX u x1.toNatClampNeg)).Perm ((((ad 0, Sum.inr (3, [Value.ref (ad 1), .ref (ad 2), .ref (u.2.1 x1.toNatClampNeg 0), .int (u.2.2.1 3), .int (u.2.2.1 4), .int (u.2.2.1 5)])) :: (ad 1, .inl (G.2.2.2, 9, .inr (.inr (.inr (.inr (va_up (fun j => some (u.2.1 j 0)) x1.toNatClampNeg (some (u.1 0)))))))) :: (ad 2, .inl (G.2.1, 600, .inl u.2.2.2.1)) :: []) ++ sw G u.1 u.2.2.2.2.1) ++ kt G u.2.1 u.2.2.2.2.2) := by
    unfold hw_ hxw hx3
    rw [e0, List.append_assoc, List.append_assoc]
    exact List.Perm.append_left _ (swap_perm hi9)
  exact retH_v F ⟨hw.1, va_P.perm hP hp, va_D.perm hD hp, hS⟩ dX3_exchangeWith_22
def rmX3_beginChange : Room := { frames := 3, cells := 0, slots := 0, locals := 60 }
noncomputable def f_X3_beginChange (u : HS) : Option HS := (f_X3_spareSlot u).bind (fun z => if ix z 9 = true then some (hK u (va_up u.2.2.2.2.2 (Int32.toNatClampNeg z) u.2.2.2.2.1)) else none)
/-- the addresses of one that is kept, and of now behind them -/
def ad2 (a b : Nat → Nat) (k : Nat) : Nat := if k < 20 then a k else b (k - 20)
theorem ad2_sw {G : GX} {a b : Nat → Nat} {x y : SS} : sw2 G (ad2 a b) (x, y) = sw G a x ++ sw G b y := rfl
theorem begin_perm {G : GX} {ad : Nat → Nat} {u : HS} {i : Nat} (h : i < 9) : (hw_ G ad u).Perm (sw2 G (ad2 (u.2.1 i) u.1) (u.2.2.2.2.2 i, u.2.2.2.2.1) ++ (hx3 G ad u ++ ko G u.2.1 u.2.2.2.2.2 i)) := by
  rw [ad2_sw]
  unfold hw_ hxw
  refine (List.Perm.append_left _ (kt_perm h)).trans ?_
  -- (C ++ N) ++ (K ++ O)  ~  (K ++ N) ++ (C ++ O)
  rw [List.append_assoc, List.append_assoc]
  refine (List.perm_append_comm_assoc _ _ _).trans ?_
  refine List.Perm.trans ?_ (List.perm_append_comm_assoc _ _ _)
  exact List.Perm.append_left _ (List.perm_append_comm_assoc _ _ _)
set_option maxHeartbeats 4000000 in
set_option maxRecDepth 100000 in
theorem c_X3_beginChange {l : Launch} {G : GX} {ad : Nat → Nat} {u z : HS} (h : f_X3_beginChange u = some z) : MH l yX3_beginChange cX3_beginChange 1 none rmX3_beginChange G (hw_ G ad u) (hw_ G ad z) [.ref (ad 0)] none := by
  refine MH.of (by decide) (Nat.le_of_ble_eq_true rfl) (fun p e s m below meth c ls F hw hl => ?_)
  obtain ⟨⟨hx, hb, hml, hown, hts⟩, hr, hlocks⟩ := id F
  unfold f_X3_beginChange at h
  obtain ⟨z1, e1, h⟩ := bnd h
  obtain ⟨hi, h⟩ := gd h
  cases h
  have hi9 := ix_lt hi
  generalize hAe : aw (hw_ G ad u) = A at hw ⊢
  have hl : lv_has ls 1 [(0, .ref (ad 0))] := hl
  refine lv_aload_n hx hb dX3_beginChange_0 rfl (lv_at hl 0 rfl) ?_
  refine h_g0_0 F hw dX3_beginChange_1 ?_
  refine lv_aload_n hx hb dX3_beginChange_4 rfl (lv_at hl 0 rfl) ?_
  refine k_X3_spareSlot_h_ F hw e1 ⟨Nat.le_of_ble_eq_true rfl, Nat.le_of_ble_eq_true rfl⟩ ⟨Nat.zero_le _, Nat.zero_le _⟩ hl.1 (Nat.le_of_ble_eq_true rfl) dX3_beginChange_5 ?_
  refine va_aldq hx hb hw.1.1 hw.2.1 1 2 rfl rfl (ix_in hi) dX3_beginChange_8 ?_
  refine lv_aload_n hx hb dX3_beginChange_9 rfl (lv_at hl 0 rfl) ?_
  refine h_g0_2 F hw dX3_beginChange_10 ?_
  have hp := begin_perm (G := G) (ad := ad) (u := u) hi9
  have hPp := va_P.perm hw.2.1 hp.symm
  have hDp := va_D.perm hw.2.2.1 hp.symm
  refine callW (runV F yv_X2_copyFrom_X3 (copy_met (l := l) (G := G) (ad := ad2 (u.2.1 z1.toNatClampNeg) u.1) (u := u.2.2.2.2.2 z1.toNatClampNeg) (v := u.2.2.2.2.1)) hw.1 hPp.left hDp.left rfl rfl rfl ⟨rfl, rfl⟩ ⟨Nat.le_of_ble_eq_true rfl, Nat.le_of_ble_eq_true rfl⟩ ⟨Nat.zero_le _, Nat.zero_le _⟩ rfl hl.1 rfl (Nat.le_of_ble_eq_true rfl) dX3_beginChange_13) hw.2.2.2 hDp.left.own_in (fun H1 l1 hP hk hS => ?_)
  have hP2 := joinT (N := 28) rfl hPp hDp (List.range 28) [] rfl (by decide) (by decide) hk hP
  have hp2 := begin_perm (G := G) (ad := ad) (u := hK u (va_up u.2.2.2.2.2 z1.toNatClampNeg u.2.2.2.2.1)) hi9
  have e3 : ko G (hK u (va_up u.2.2.2.2.2 z1.toNatClampNeg u.2.2.2.2.1)).2.1 (hK u (va_up u.2.2.2.2.2 z1.toNatClampNeg u.2.2.2.2.1)).2.2.2.2.2 z1.toNatClampNeg = ko G u.2.1 u.2.2.2.2.2 z1.toNatClampNeg := ko_up1
  rw [e3] at hp2
  have e4 : (hK u (va_up u.2.2.2.2.2 z1.toNatClampNeg u.2.2.2.2.1)).2.2.2.2.2 z1.toNatClampNeg = u.2.2.2.2.1 := va_up_self _ _ _
  rw [e4] at hp2
  have hD3 := hDp.addr (ws' := sw2 G (ad2 (u.2.1 z1.toNatClampNeg) u.1) (u.2.2.2.2.1, u.2.2.2.2.1) ++ (hx3 G ad u ++ ko G u.2.1 u.2.2.2.2.2 z1.toNatClampNeg)) rfl
  exact retH_v F ⟨hw.1, va_P.perm hP2 hp2, va_D.perm hD3 hp2, hS⟩ dX3_beginChange_16

