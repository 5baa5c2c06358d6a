def k0 : OS := fun k _ => if k = 1 then -1 else 0
def o0 : OS := fun k _ => if k = 3 then -1 else 0
def s0 : SS := (o0, k0, fun k _ => if k = 2 then -1 else 0, fun _ => 0, 0)
def m0 : MS := (fun _ => 0, fun k _ => if k = 2 then -1 else if k = 12 then -1 else 0, fun _ _ => 0)
theorem yf_X0 : YS RX0 21 yJ7_fill_53178 cJ7_fill_53178 4 none 2 := ⟨(tw 32 (by decide +kernel) rfl), (tw 4 (by decide +kernel) rfl), (tw 51 (by decide +kernel) rfl), (tw 31 (by decide +kernel) rfl), by decide +kernel⟩
theorem dX0_init_0 : decode cX0_init 0 = .ok (.aload_n 0, 1) := by decide +kernel
theorem dX0_init_1 : decode cX0_init 1 = .ok (.invokespecial 3, 3) := by decide +kernel
theorem dX0_init_4 : decode cX0_init 4 = .ok (.aload_n 0, 1) := by decide +kernel
theorem dX0_init_5 : decode cX0_init 5 = .ok (.bipush 20, 2) := by decide +kernel
theorem dX0_init_7 : decode cX0_init 7 = .ok (.newarray .int, 2) := by decide +kernel
theorem dX0_init_9 : decode cX0_init 9 = .ok (.putfield 9, 3) := by decide +kernel
theorem dX0_init_12 : decode cX0_init 12 = .ok (.aload_n 0, 1) := by decide +kernel
theorem dX0_init_13 : decode cX0_init 13 = .ok (.bipush 20, 2) := by decide +kernel
theorem dX0_init_15 : decode cX0_init 15 = .ok (.newarray .int, 2) := by decide +kernel
theorem dX0_init_17 : decode cX0_init 17 = .ok (.putfield 15, 3) := by decide +kernel
theorem dX0_init_20 : decode cX0_init 20 = .ok (.aload_n 0, 1) := by decide +kernel
theorem dX0_init_21 : decode cX0_init 21 = .ok (.bipush 20, 2) := by decide +kernel
theorem dX0_init_23 : decode cX0_init 23 = .ok (.newarray .int, 2) := by decide +kernel
theorem dX0_init_25 : decode cX0_init 25 = .ok (.putfield 18, 3) := by decide +kernel
theorem dX0_init_28 : decode cX0_init 28 = .ok (.aload_n 0, 1) := by decide +kernel
theorem dX0_init_29 : decode cX0_init 29 = .ok (.getfield 9, 3) := by decide +kernel
theorem dX0_init_32 : decode cX0_init 32 = .ok (.iconst (-1), 1) := by decide +kernel
theorem dX0_init_33 : decode cX0_init 33 = .ok (.invokestatic 21, 3) := by decide +kernel
theorem dX0_init_36 : decode cX0_init 36 = .ok (.return_, 1) := by decide +kernel
def rmX0_init : Room := { frames := 1, cells := 3, slots := 60, locals := 23 }
set_option maxHeartbeats 8000000 in
set_option maxRecDepth 100000 in
theorem c_X0_init {l : Launch} {G : GX} {h0 sz : Nat} : MN l yX0_init cX0_init 1 rmX0_init G h0 (.inr (0, [.null, .null, .null])) (fun ad => kw G ad k0) (fun ad => ad 0) sz := by
  refine MN.of (by decide) (by decide) rfl (fun p e s m below meth c ls hsz F hin hAO hw hl => ?_)
  obtain ⟨⟨hx, hb, hml, hown, hts⟩, hr, hlocks⟩ := id F
  have hK := hw.1
  have hA0 : ∀ q : Nat, s.heap.size ≤ q → va_A [(h0, (.inr (0, [.null, .null, .null]) : va_E))] sz q := fun q h => Or.inr (by omega)
  have hP := hw.2.1
  have hD := hw.2.2.1
  have hS := hw.2.2.2
  generalize hAe : va_A [(h0, (.inr (0, [.null, .null, .null]) : va_E))] sz = A at hA0 hD hS ⊢
  clear hw
  refine lv_aload_n hx hb dX0_init_0 rfl (lv_at hl 0 rfl) ?_
  refine W.objInit hx hb hown (F.tb (tw 50 (by decide +kernel) rfl)) (F.tb (tw 15 (by decide +kernel) rfl)) (F.tb (tw 16 (by decide +kernel) rfl)) rfl (by rw [hml]; exact hl.1) rfl dX0_init_1 (Nat.le_of_ble_eq_true rfl) (Nat.le_of_ble_eq_true rfl) ?_
  refine W.eq (g2 := F0 m 4 ls []) rfl ?_
  refine lv_aload_n hx hb dX0_init_4 rfl (lv_at hl 0 rfl) ?_
  refine lv_bipush (v := 20) hx hb dX0_init_5 rfl ?_
  refine newI F hK hP hD hS hA0 (by decide) rfl (by decide) (Nat.le_of_ble_eq_true rfl) (Nat.le_of_ble_eq_true rfl) dX0_init_7 (fun q1 H hP hD hS => ?_)
  have hP : va_P G.1 vcl [(h0, .inr (0, [.null, .null, .null])), (q1, .inl (G.2.1, 20, .inl (fun _ => 0)))] H := hP
  have hD : va_D A [(h0, .inr (0, [.null, .null, .null])), (q1, .inl (G.2.1, 20, .inl (fun _ => 0)))] := hD
  refine va_putF (D := G.1) (ci := 0) (ty := .array .int) (C := RX0) (T := TX0) (N := 3) (Ts := lw_gt) hx hb (fun _ h => F.tb h) inX0 tyX0 tyX0_ok nmX0 hown hK.1 hP hD hS 0 rfl rfl 0 (by decide) (F.tb (tw 52 (by decide +kernel) rfl)) (fun _ h9 => h9) rfl hin rfl (by decide +kernel) rfl rfl (Nat.le_of_ble_eq_true rfl) dX0_init_9 (fun H locs hP hD hS => ?_)
  have hP : va_P G.1 vcl [(h0, .inr (0, [.ref q1, .null, .null])), (q1, .inl (G.2.1, 20, .inl (fun _ => 0)))] H := hP
  have hD : va_D A [(h0, .inr (0, [.ref q1, .null, .null])), (q1, .inl (G.2.1, 20, .inl (fun _ => 0)))] := hD
  refine lv_aload_n hx hb dX0_init_12 rfl (lv_at hl 0 rfl) ?_
  refine lv_bipush (v := 20) hx hb dX0_init_13 rfl ?_
  refine newI F hK hP hD hS hA0 (by decide) rfl (by decide) (Nat.le_of_ble_eq_true rfl) (Nat.le_of_ble_eq_true rfl) dX0_init_15 (fun q2 H hP hD hS => ?_)
  have hP : va_P G.1 vcl [(h0, .inr (0, [.ref q1, .null, .null])), (q1, .inl (G.2.1, 20, .inl (fun _ => 0))), (q2, .inl (G.2.1, 20, .inl (fun _ => 0)))] H := hP
  have hD : va_D A [(h0, .inr (0, [.ref q1, .null, .null])), (q1, .inl (G.2.1, 20, .inl (fun _ => 0))), (q2, .inl (G.2.1, 20, .inl (fun _ => 0)))] := hD
  refine va_putF (D := G.1) (ci := 0) (ty := .array .int) (C := RX0) (T := TX0) (N := 3) (Ts := lw_gt) hx hb (fun _ h => F.tb h) inX0 tyX0 tyX0_ok nmX0 hown hK.1 hP hD hS 0 rfl rfl 1 (by decide) (F.tb (tw 55 (by decide +kernel) rfl)) (fun _ h9 => h9) rfl hin rfl (by decide +kernel) rfl rfl (Nat.le_of_ble_eq_true rfl) dX0_init_17 (fun H locs hP hD hS => ?_)
  have hP : va_P G.1 vcl [(h0, .inr (0, [.ref q1, .ref q2, .null])), (q1, .inl (G.2.1, 20, .inl (fun _ => 0))), (q2, .inl (G.2.1, 20, .inl (fun _ => 0)))] H := hP
  have hD : va_D A [(h0, .inr (0, [.ref q1, .ref q2, .null])), (q1, .inl (G.2.1, 20, .inl (fun _ => 0))), (q2, .inl (G.2.1, 20, .inl (fun _ => 0)))] := hD
  refine lv_aload_n hx hb dX0_init_20 rfl (lv_at hl 0 rfl) ?_
  refine lv_bipush (v := 20) hx hb dX0_init_21 rfl ?_
  refine newI F hK hP hD hS hA0 (by decide) rfl (by decide) (Nat.le_of_ble_eq_true rfl) (Nat.le_of_ble_eq_true rfl) dX0_init_23 (fun q3 H hP hD hS => ?_)
  have hP : va_P G.1 vcl [(h0, .inr (0, [.ref q1, .ref q2, .null])), (q1, .inl (G.2.1, 20, .inl (fun _ => 0))), (q2, .inl (G.2.1, 20, .inl (fun _ => 0))), (q3, .inl (G.2.1, 20, .inl (fun _ => 0)))] H := hP
  have hD : va_D A [(h0, .inr (0, [.ref q1, .ref q2, .null])), (q1, .inl (G.2.1, 20, .inl (fun _ => 0))), (q2, .inl (G.2.1, 20, .inl (fun _ => 0))), (q3, .inl (G.2.1, 20, .inl (fun _ => 0)))] := hD
  refine va_putF (D := G.1) (ci := 0) (ty := .array .int) (C := RX0) (T := TX0) (N := 3) (Ts := lw_gt) hx hb (fun _ h => F.tb h) inX0 tyX0 tyX0_ok nmX0 hown hK.1 hP hD hS 0 rfl rfl 2 (by decide) (F.tb (tw 58 (by decide +kernel) rfl)) (fun _ h9 => h9) rfl hin rfl (by decide +kernel) rfl rfl (Nat.le_of_ble_eq_true rfl) dX0_init_25 (fun H locs hP hD hS => ?_)
  have hP : va_P G.1 vcl [(h0, .inr (0, [.ref q1, .ref q2, .ref q3])), (q1, .inl (G.2.1, 20, .inl (fun _ => 0))), (q2, .inl (G.2.1, 20, .inl (fun _ => 0))), (q3, .inl (G.2.1, 20, .inl (fun _ => 0)))] H := hP
  have hD : va_D A [(h0, .inr (0, [.ref q1, .ref q2, .ref q3])), (q1, .inl (G.2.1, 20, .inl (fun _ => 0))), (q2, .inl (G.2.1, 20, .inl (fun _ => 0))), (q3, .inl (G.2.1, 20, .inl (fun _ => 0)))] := hD
  refine lv_aload_n hx hb dX0_init_28 rfl (lv_at hl 0 rfl) ?_
  refine va_get (D := G.1) (ci := 0) (v := .ref q1) (C := RX0) (T := TX0) (N := 3) (Ts := lw_gt) hx hb (fun _ h => F.tb h) inX0 hown hK.1 hP 0 rfl rfl 0 (by decide) (F.tb (tw 52 (by decide +kernel) rfl)) (fun _ h9 => h9) rfl dX0_init_29 ?_
  refine lv_iconst (v := (-1)) hx hb dX0_init_32 rfl ?_
  refine callFill (wl := [(h0, .inr (0, [.ref q1, .ref q2, .ref q3]))]) (wr := [(q2, .inl (G.2.1, 20, .inl (fun _ => 0))), (q3, .inl (G.2.1, 20, .inl (fun _ => 0)))]) F yf_X0 (by decide) ⟨hK, hP, hD, hS⟩ ⟨Nat.le_of_ble_eq_true rfl, Nat.le_of_ble_eq_true rfl⟩ ⟨Nat.le_of_ble_eq_true rfl, Nat.le_of_ble_eq_true rfl⟩ hl.1 (Nat.le_of_ble_eq_true rfl) dX0_init_33 (fun H locs hw => ?_)
  subst hAe
  exact retN (ad := (fun k => if k = 0 then h0 else if k = 1 then q1 else if k = 2 then q2 else q3)) F (Nat.le_of_ble_eq_true rfl) (Nat.le_of_ble_eq_true rfl) hw.2.1 hw.2.2.1 hw.2.2.2 rfl dX0_init_36
theorem yf_X1 : YS RX1 21 yJ7_fill_53178 cJ7_fill_53178 4 none 2 := ⟨(tw 32 (by decide +kernel) rfl), (tw 4 (by decide +kernel) rfl), (tw 30 (by decide +kernel) rfl), (tw 31 (by decide +kernel) rfl), by decide +kernel⟩
theorem dX1_init_0 : decode cX1_init 0 = .ok (.aload_n 0, 1) := by decide +kernel
theorem dX1_init_1 : decode cX1_init 1 = .ok (.invokespecial 3, 3) := by decide +kernel
theorem dX1_init_4 : decode cX1_init 4 = .ok (.aload_n 0, 1) := by decide +kernel
theorem dX1_init_5 : decode cX1_init 5 = .ok (.sipush 600, 3) := by decide +kernel
theorem dX1_init_8 : decode cX1_init 8 = .ok (.newarray .int, 2) := by decide +kernel
theorem dX1_init_10 : decode cX1_init 10 = .ok (.putfield 9, 3) := by decide +kernel
theorem dX1_init_13 : decode cX1_init 13 = .ok (.aload_n 0, 1) := by decide +kernel
theorem dX1_init_14 : decode cX1_init 14 = .ok (.bipush 9, 2) := by decide +kernel
theorem dX1_init_16 : decode cX1_init 16 = .ok (.newarray .int, 2) := by decide +kernel
theorem dX1_init_18 : decode cX1_init 18 = .ok (.putfield 15, 3) := by decide +kernel
theorem dX1_init_21 : decode cX1_init 21 = .ok (.aload_n 0, 1) := by decide +kernel
theorem dX1_init_22 : decode cX1_init 22 = .ok (.sipush 300, 3) := by decide +kernel
theorem dX1_init_25 : decode cX1_init 25 = .ok (.newarray .int, 2) := by decide +kernel
theorem dX1_init_27 : decode cX1_init 27 = .ok (.putfield 18, 3) := by decide +kernel
theorem dX1_init_30 : decode cX1_init 30 = .ok (.aload_n 0, 1) := by decide +kernel
theorem dX1_init_31 : decode cX1_init 31 = .ok (.getfield 18, 3) := by decide +kernel
theorem dX1_init_34 : decode cX1_init 34 = .ok (.iconst (-1), 1) := by decide +kernel
theorem dX1_init_35 : decode cX1_init 35 = .ok (.invokestatic 21, 3) := by decide +kernel
theorem dX1_init_38 : decode cX1_init 38 = .ok (.return_, 1) := by decide +kernel
def rmX1_init : Room := { frames := 1, cells := 3, slots := 909, locals := 23 }
set_option maxHeartbeats 8000000 in
set_option maxRecDepth 100000 in
theorem c_X1_init {l : Launch} {G : GX} {h0 sz : Nat} : MN l yX1_init cX1_init 1 rmX1_init G h0 (.inr (1, [.null, .null, .null])) (fun ad => ow G ad o0) (fun ad => ad 0) sz := by
  refine MN.of (by decide) (by decide) rfl (fun p e s m below meth c ls hsz F hin hAO hw hl => ?_)
  obtain ⟨⟨hx, hb, hml, hown, hts⟩, hr, hlocks⟩ := id F
  have hK := hw.1
  have hA0 : ∀ q : Nat, s.heap.size ≤ q → va_A [(h0, (.inr (1, [.null, .null, .null]) : va_E))] sz q := fun q h => Or.inr (by omega)
  have hP := hw.2.1
  have hD := hw.2.2.1
  have hS := hw.2.2.2
  generalize hAe : va_A [(h0, (.inr (1, [.null, .null, .null]) : va_E))] sz = A at hA0 hD hS ⊢
  clear hw
  refine lv_aload_n hx hb dX1_init_0 rfl (lv_at hl 0 rfl) ?_
  refine W.objInit hx hb hown (F.tb (tw 29 (by decide +kernel) rfl)) (F.tb (tw 15 (by decide +kernel) rfl)) (F.tb (tw 16 (by decide +kernel) rfl)) rfl (by rw [hml]; exact hl.1) rfl dX1_init_1 (Nat.le_of_ble_eq_true rfl) (Nat.le_of_ble_eq_true rfl) ?_
  refine W.eq (g2 := F0 m 4 ls []) rfl ?_
  refine lv_aload_n hx hb dX1_init_4 rfl (lv_at hl 0 rfl) ?_
  refine lv_sipush (v := 600) hx hb dX1_init_5 rfl ?_
  refine newI F hK hP hD hS hA0 (by decide) rfl (by decide) (Nat.le_of_ble_eq_true rfl) (Nat.le_of_ble_eq_true rfl) dX1_init_8 (fun q1 H hP hD hS => ?_)
  have hP : va_P G.1 vcl [(h0, .inr (1, [.null, .null, .null])), (q1, .inl (G.2.1, 600, .inl (fun _ => 0)))] H := hP
  have hD : va_D A [(h0, .inr (1, [.null, .null, .null])), (q1, .inl (G.2.1, 600, .inl (fun _ => 0)))] := hD
  refine va_putF (D := G.1) (ci := 1) (ty := .array .int) (C := RX1) (T := TX1) (N := 3) (Ts := lw_gt) hx hb (fun _ h => F.tb h) inX1 tyX1 tyX1_ok nmX1 hown hK.1 hP hD hS 0 rfl rfl 0 (by decide) (F.tb (tw 33 (by decide +kernel) rfl)) (fun _ h9 => h9) rfl hin rfl (by decide +kernel) rfl rfl (Nat.le_of_ble_eq_true rfl) dX1_init_10 (fun H locs hP hD hS => ?_)
  have hP : va_P G.1 vcl [(h0, .inr (1, [.ref q1, .null, .null])), (q1, .inl (G.2.1, 600, .inl (fun _ => 0)))] H := hP
  have hD : va_D A [(h0, .inr (1, [.ref q1, .null, .null])), (q1, .inl (G.2.1, 600, .inl (fun _ => 0)))] := hD
  refine lv_aload_n hx hb dX1_init_13 rfl (lv_at hl 0 rfl) ?_
  refine lv_bipush (v := 9) hx hb dX1_init_14 rfl ?_
  refine newI F hK hP hD hS hA0 (by decide) rfl (by decide) (Nat.le_of_ble_eq_true rfl) (Nat.le_of_ble_eq_true rfl) dX1_init_16 (fun q2 H hP hD hS => ?_)
  have hP : va_P G.1 vcl [(h0, .inr (1, [.ref q1, .null, .null])), (q1, .inl (G.2.1, 600, .inl (fun _ => 0))), (q2, .inl (G.2.1, 9, .inl (fun _ => 0)))] H := hP
  have hD : va_D A [(h0, .inr (1, [.ref q1, .null, .null])), (q1, .inl (G.2.1, 600, .inl (fun _ => 0))), (q2, .inl (G.2.1, 9, .inl (fun _ => 0)))] := hD
  refine va_putF (D := G.1) (ci := 1) (ty := .array .int) (C := RX1) (T := TX1) (N := 3) (Ts := lw_gt) hx hb (fun _ h => F.tb h) inX1 tyX1 tyX1_ok nmX1 hown hK.1 hP hD hS 0 rfl rfl 1 (by decide) (F.tb (tw 35 (by decide +kernel) rfl)) (fun _ h9 => h9) rfl hin rfl (by decide +kernel) rfl rfl (Nat.le_of_ble_eq_true rfl) dX1_init_18 (fun H locs hP hD hS => ?_)
  have hP : va_P G.1 vcl [(h0, .inr (1, [.ref q1, .ref q2, .null])), (q1, .inl (G.2.1, 600, .inl (fun _ => 0))), (q2, .inl (G.2.1, 9, .inl (fun _ => 0)))] H := hP
  have hD : va_D A [(h0, .inr (1, [.ref q1, .ref q2, .null])), (q1, .inl (G.2.1, 600, .inl (fun _ => 0))), (q2, .inl (G.2.1, 9, .inl (fun _ => 0)))] := hD
  refine lv_aload_n hx hb dX1_init_21 rfl (lv_at hl 0 rfl) ?_
  refine lv_sipush (v := 300) hx hb dX1_init_22 rfl ?_
  refine newI F hK hP hD hS hA0 (by decide) rfl (by decide) (Nat.le_of_ble_eq_true rfl) (Nat.le_of_ble_eq_true rfl) dX1_init_25 (fun q3 H hP hD hS => ?_)
  have hP : va_P G.1 vcl [(h0, .inr (1, [.ref q1, .ref q2, .null])), (q1, .inl (G.2.1, 600, .inl (fun _ => 0))), (q2, .inl (G.2.1, 9, .inl (fun _ => 0))), (q3, .inl (G.2.1, 300, .inl (fun _ => 0)))] H := hP
  have hD : va_D A [(h0, .inr (1, [.ref q1, .ref q2, .null])), (q1, .inl (G.2.1, 600, .inl (fun _ => 0))), (q2, .inl (G.2.1, 9, .inl (fun _ => 0))), (q3, .inl (G.2.1, 300, .inl (fun _ => 0)))] := hD
  refine va_putF (D := G.1) (ci := 1) (ty := .array .int) (C := RX1) (T := TX1) (N := 3) (Ts := lw_gt) hx hb (fun _ h => F.tb h) inX1 tyX1 tyX1_ok nmX1 hown hK.1 hP hD hS 0 rfl rfl 2 (by decide) (F.tb (tw 36 (by decide +kernel) rfl)) (fun _ h9 => h9) rfl hin rfl (by decide +kernel) rfl rfl (Nat.le_of_ble_eq_true rfl) dX1_init_27 (fun H locs hP hD hS => ?_)
  have hP : va_P G.1 vcl [(h0, .inr (1, [.ref q1, .ref q2, .ref q3])), (q1, .inl (G.2.1, 600, .inl (fun _ => 0))), (q2, .inl (G.2.1, 9, .inl (fun _ => 0))), (q3, .inl (G.2.1, 300, .inl (fun _ => 0)))] H := hP
  have hD : va_D A [(h0, .inr (1, [.ref q1, .ref q2, .ref q3])), (q1, .inl (G.2.1, 600, .inl (fun _ => 0))), (q2, .inl (G.2.1, 9, .inl (fun _ => 0))), (q3, .inl (G.2.1, 300, .inl (fun _ => 0)))] := hD
  refine lv_aload_n hx hb dX1_init_30 rfl (lv_at hl 0 rfl) ?_
  refine va_get (D := G.1) (ci := 1) (v := .ref q3) (C := RX1) (T := TX1) (N := 3) (Ts := lw_gt) hx hb (fun _ h => F.tb h) inX1 hown hK.1 hP 0 rfl rfl 2 (by decide) (F.tb (tw 36 (by decide +kernel) rfl)) (fun _ h9 => h9) rfl dX1_init_31 ?_
  refine lv_iconst (v := (-1)) hx hb dX1_init_34 rfl ?_
  refine callFill (wl := [(h0, .inr (1, [.ref q1, .ref q2, .ref q3])), (q1, .inl (G.2.1, 600, .inl (fun _ => 0))), (q2, .inl (G.2.1, 9, .inl (fun _ => 0)))]) (wr := []) F yf_X1 (by decide) ⟨hK, hP, hD, hS⟩ ⟨Nat.le_of_ble_eq_true rfl, Nat.le_of_ble_eq_true rfl⟩ ⟨Nat.le_of_ble_eq_true rfl, Nat.le_of_ble_eq_true rfl⟩ hl.1 (Nat.le_of_ble_eq_true rfl) dX1_init_35 (fun H locs hw => ?_)
  subst hAe
  exact retN (ad := (fun k => if k = 0 then h0 else if k = 1 then q1 else if k = 2 then q2 else q3)) F (Nat.le_of_ble_eq_true rfl) (Nat.le_of_ble_eq_true rfl) hw.2.1 hw.2.2.1 hw.2.2.2 rfl dX1_init_38
