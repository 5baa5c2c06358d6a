theorem yf_X2 : YS RX2 46 yJ7_fill_53178 cJ7_fill_53178 4 none 2 := ⟨(tw 32 (by decide +kernel) rfl), (tw 4 (by decide +kernel) rfl), (tw 66 (by decide +kernel) rfl), (tw 31 (by decide +kernel) rfl), by decide +kernel⟩
theorem yi_X1_init_X2 : YI RX2 11 yX1_init cX1_init 1 := ⟨(tw 28 (by decide +kernel) rfl), (tw 3 (by decide +kernel) rfl), (tw 26 (by decide +kernel) rfl), (tw 27 (by decide +kernel) rfl), rfl, by decide +kernel⟩
theorem yi_X0_init_X2 : YI RX2 20 yX0_init cX0_init 1 := ⟨(tw 49 (by decide +kernel) rfl), (tw 5 (by decide +kernel) rfl), (tw 47 (by decide +kernel) rfl), (tw 48 (by decide +kernel) rfl), rfl, by decide +kernel⟩
theorem dX2_init_0 : decode cX2_init 0 = .ok (.aload_n 0, 1) := by decide +kernel
theorem dX2_init_1 : decode cX2_init 1 = .ok (.invokespecial 3, 3) := by decide +kernel
theorem dX2_init_4 : decode cX2_init 4 = .ok (.aload_n 0, 1) := by decide +kernel
theorem dX2_init_5 : decode cX2_init 5 = .ok (.new 9, 3) := by decide +kernel
theorem dX2_init_8 : decode cX2_init 8 = .ok (.dup, 1) := by decide +kernel
theorem dX2_init_9 : decode cX2_init 9 = .ok (.invokespecial 11, 3) := by decide +kernel
theorem dX2_init_12 : decode cX2_init 12 = .ok (.putfield 12, 3) := by decide +kernel
theorem dX2_init_15 : decode cX2_init 15 = .ok (.aload_n 0, 1) := by decide +kernel
theorem dX2_init_16 : decode cX2_init 16 = .ok (.new 18, 3) := by decide +kernel
theorem dX2_init_19 : decode cX2_init 19 = .ok (.dup, 1) := by decide +kernel
theorem dX2_init_20 : decode cX2_init 20 = .ok (.invokespecial 20, 3) := by decide +kernel
theorem dX2_init_23 : decode cX2_init 23 = .ok (.putfield 21, 3) := by decide +kernel
theorem dX2_init_26 : decode cX2_init 26 = .ok (.aload_n 0, 1) := by decide +kernel
theorem dX2_init_27 : decode cX2_init 27 = .ok (.bipush 8, 2) := by decide +kernel
theorem dX2_init_29 : decode cX2_init 29 = .ok (.newarray .int, 2) := by decide +kernel
theorem dX2_init_31 : decode cX2_init 31 = .ok (.putfield 25, 3) := by decide +kernel
theorem dX2_init_34 : decode cX2_init 34 = .ok (.aload_n 0, 1) := by decide +kernel
theorem dX2_init_35 : decode cX2_init 35 = .ok (.bipush 8, 2) := by decide +kernel
theorem dX2_init_37 : decode cX2_init 37 = .ok (.newarray .int, 2) := by decide +kernel
theorem dX2_init_39 : decode cX2_init 39 = .ok (.putfield 29, 3) := by decide +kernel
theorem dX2_init_42 : decode cX2_init 42 = .ok (.aload_n 0, 1) := by decide +kernel
theorem dX2_init_43 : decode cX2_init 43 = .ok (.bipush 8, 2) := by decide +kernel
theorem dX2_init_45 : decode cX2_init 45 = .ok (.newarray .int, 2) := by decide +kernel
theorem dX2_init_47 : decode cX2_init 47 = .ok (.putfield 32, 3) := by decide +kernel
theorem dX2_init_50 : decode cX2_init 50 = .ok (.aload_n 0, 1) := by decide +kernel
theorem dX2_init_51 : decode cX2_init 51 = .ok (.sipush 600, 3) := by decide +kernel
theorem dX2_init_54 : decode cX2_init 54 = .ok (.newarray .long, 2) := by decide +kernel
theorem dX2_init_56 : decode cX2_init 56 = .ok (.putfield 35, 3) := by decide +kernel
theorem dX2_init_59 : decode cX2_init 59 = .ok (.aload_n 0, 1) := by decide +kernel
theorem dX2_init_60 : decode cX2_init 60 = .ok (.sipush 600, 3) := by decide +kernel
theorem dX2_init_63 : decode cX2_init 63 = .ok (.newarray .int, 2) := by decide +kernel
theorem dX2_init_65 : decode cX2_init 65 = .ok (.putfield 39, 3) := by decide +kernel
theorem dX2_init_68 : decode cX2_init 68 = .ok (.aload_n 0, 1) := by decide +kernel
theorem dX2_init_69 : decode cX2_init 69 = .ok (.iconst 0, 1) := by decide +kernel
theorem dX2_init_70 : decode cX2_init 70 = .ok (.putfield 42, 3) := by decide +kernel
theorem dX2_init_73 : decode cX2_init 73 = .ok (.aload_n 0, 1) := by decide +kernel
theorem dX2_init_74 : decode cX2_init 74 = .ok (.getfield 25, 3) := by decide +kernel
theorem dX2_init_77 : decode cX2_init 77 = .ok (.iconst (-1), 1) := by decide +kernel
theorem dX2_init_78 : decode cX2_init 78 = .ok (.invokestatic 46, 3) := by decide +kernel
theorem dX2_init_81 : decode cX2_init 81 = .ok (.return_, 1) := by decide +kernel
def rmX2_init : Room := { frames := 2, cells := 13, slots := 2199, locals := 43 }
set_option maxHeartbeats 8000000 in
set_option maxRecDepth 100000 in
theorem c_X2_init {l : Launch} {G : GX} {h0 sz : Nat} : MN l yX2_init cX2_init 1 rmX2_init G h0 (.inr (2, [.null, .null, .null, .null, .null, .null, .null, .int 0])) (fun ad => sw G ad s0) (fun ad => ad 0) sz := by
  refine MN.of (by decide) (by decide) rfl (fun p e s m below meth c ls hsz F hin hAO hw hl => ?_)
  obtain ⟨⟨hx, hb, hml, hown, hts⟩, hr, hlocks⟩ := id F
  have hK := hw.1
  have hA0 : ∀ q : Nat, s.heap.size ≤ q → va_A [(h0, (.inr (2, [.null, .null, .null, .null, .null, .null, .null, .int 0]) : va_E))] sz q := fun q h => Or.inr (by omega)
  have hP := hw.2.1
  have hD := hw.2.2.1
  have hS := hw.2.2.2
  generalize hAe : va_A [(h0, (.inr (2, [.null, .null, .null, .null, .null, .null, .null, .int 0]) : va_E))] sz = A at hA0 hD hS ⊢
  clear hw
  refine lv_aload_n hx hb dX2_init_0 rfl (lv_at hl 0 rfl) ?_
  refine W.objInit hx hb hown (F.tb (tw 23 (by decide +kernel) rfl)) (F.tb (tw 15 (by decide +kernel) rfl)) (F.tb (tw 16 (by decide +kernel) rfl)) rfl (by rw [hml]; exact hl.1) rfl dX2_init_1 (Nat.le_of_ble_eq_true rfl) (Nat.le_of_ble_eq_true rfl) ?_
  refine W.eq (g2 := F0 m 4 ls []) rfl ?_
  refine lv_aload_n hx hb dX2_init_4 rfl (lv_at hl 0 rfl) ?_
  refine va_new (ci := 1) (fs := [.null, .null, .null]) (C := RX1) (T := TX1) (N := 3) (Ts := lw_gt) hx hb (fun _ h => F.tb h) inX1 tyX1 tyX1_ok hown (F.tb (tw 24 (by decide +kernel) rfl)) (F.tb (tw 25 (by decide +kernel) rfl)) (F.tb (tw 3 (by decide +kernel) rfl)) hK.1 hP hD hS hA0 rfl (fun j hj => by rcases (show j = 0 ∨ j = 1 ∨ j = 2 by omega) with rfl | rfl | rfl <;> rfl) (Nat.le_of_ble_eq_true rfl) (Nat.le_of_ble_eq_true rfl) dX2_init_5 (fun qX1 H hP hD hS => ?_)
  have hP : va_P G.1 vcl [(h0, .inr (2, [.null, .null, .null, .null, .null, .null, .null, .int 0])), (qX1, .inr (1, [.null, .null, .null]))] H := hP
  have hD : va_D A [(h0, .inr (2, [.null, .null, .null, .null, .null, .null, .null, .int 0])), (qX1, .inr (1, [.null, .null, .null]))] := hD
  refine lv_dup hx hb dX2_init_8 rfl ?_
  refine callN (ws := [(h0, .inr (2, [.null, .null, .null, .null, .null, .null, .null, .int 0]))]) (wf := fun ad => ow G ad o0) ⟨hx, hb, hml, hown, hts⟩ (fun _ h => List.mem_cons_of_mem _ h) yi_X1_init_X2 (fun sz => c_X1_init) hK hAO hP hD hS hA0 ⟨Nat.le_of_ble_eq_true rfl, Nat.le_of_ble_eq_true rfl⟩ ⟨Nat.le_of_ble_eq_true rfl, Nat.le_of_ble_eq_true rfl⟩ hl.1 (Nat.le_of_ble_eq_true rfl) dX2_init_9 (fun aX1 H locs eX1 hP hD hS => ?_)
  refine va_putF (D := G.1) (ci := 2) (ty := .object "LabelHall$Order") (C := RX2) (T := TX2) (N := 8) (Ts := lw_gt) hx hb (fun _ h => F.tb h) inX2 tyX2 tyX2_ok nmX2 hown hK.1 hP hD hS 0 rfl rfl 0 (by decide) (F.tb (tw 67 (by decide +kernel) rfl)) (fun _ h9 => h9) rfl hin rfl (by decide +kernel) rfl rfl (Nat.le_of_ble_eq_true rfl) dX2_init_12 (fun H locs hP hD hS => ?_)
  have hP : va_P G.1 vcl (([(h0, .inr (2, [.ref qX1, .null, .null, .null, .null, .null, .null, .int 0]))] ++ ow G aX1 o0)) H := hP
  have hD : va_D A (([(h0, .inr (2, [.ref qX1, .null, .null, .null, .null, .null, .null, .int 0]))] ++ ow G aX1 o0)) := hD
  refine lv_aload_n hx hb dX2_init_15 rfl (lv_at hl 0 rfl) ?_
  refine va_new (ci := 0) (fs := [.null, .null, .null]) (C := RX0) (T := TX0) (N := 3) (Ts := lw_gt) hx hb (fun _ h => F.tb h) inX0 tyX0 tyX0_ok hown (F.tb (tw 45 (by decide +kernel) rfl)) (F.tb (tw 46 (by decide +kernel) rfl)) (F.tb (tw 5 (by decide +kernel) rfl)) hK.1 hP hD hS hA0 rfl (fun j hj => by rcases (show j = 0 ∨ j = 1 ∨ j = 2 by omega) with rfl | rfl | rfl <;> rfl) (Nat.le_of_ble_eq_true rfl) (Nat.le_of_ble_eq_true rfl) dX2_init_16 (fun qX0 H hP hD hS => ?_)
  refine lv_dup hx hb dX2_init_19 rfl ?_
  refine callN (ws := ([(h0, .inr (2, [.ref qX1, .null, .null, .null, .null, .null, .null, .int 0]))] ++ ow G aX1 o0)) (wf := fun ad => kw G ad k0) ⟨hx, hb, hml, hown, hts⟩ (fun _ h => List.mem_cons_of_mem _ h) yi_X0_init_X2 (fun sz => c_X0_init) hK hAO hP hD hS hA0 ⟨Nat.le_of_ble_eq_true rfl, Nat.le_of_ble_eq_true rfl⟩ ⟨Nat.le_of_ble_eq_true rfl, Nat.le_of_ble_eq_true rfl⟩ hl.1 (Nat.le_of_ble_eq_true rfl) dX2_init_20 (fun aX0 H locs eX0 hP hD hS => ?_)
  refine va_putF (D := G.1) (ci := 2) (ty := .object "LabelHall$Marks") (C := RX2) (T := TX2) (N := 8) (Ts := lw_gt) hx hb (fun _ h => F.tb h) inX2 tyX2 tyX2_ok nmX2 hown hK.1 hP hD hS 0 rfl rfl 1 (by decide) (F.tb (tw 69 (by decide +kernel) rfl)) (fun _ h9 => h9) rfl hin rfl (by decide +kernel) rfl rfl (Nat.le_of_ble_eq_true rfl) dX2_init_23 (fun H locs hP hD hS => ?_)
  have hP : va_P G.1 vcl (([(h0, .inr (2, [.ref qX1, .ref qX0, .null, .null, .null, .null, .null, .int 0]))] ++ ow G aX1 o0) ++ kw G aX0 k0) H := hP
  have hD : va_D A (([(h0, .inr (2, [.ref qX1, .ref qX0, .null, .null, .null, .null, .null, .int 0]))] ++ ow G aX1 o0) ++ kw G aX0 k0) := hD
  refine lv_aload_n hx hb dX2_init_26 rfl (lv_at hl 0 rfl) ?_
  refine lv_bipush (v := 8) hx hb dX2_init_27 rfl ?_
  refine newI F hK hP hD hS hA0 (by decide) rfl (by decide) (Nat.le_of_ble_eq_true rfl) (Nat.le_of_ble_eq_true rfl) dX2_init_29 (fun q2 H hP hD hS => ?_)
  refine va_putF (D := G.1) (ci := 2) (ty := .array .int) (C := RX2) (T := TX2) (N := 8) (Ts := lw_gt) hx hb (fun _ h => F.tb h) inX2 tyX2 tyX2_ok nmX2 hown hK.1 hP hD hS 0 rfl rfl 2 (by decide) (F.tb (tw 71 (by decide +kernel) rfl)) (fun _ h9 => h9) rfl hin rfl (by decide +kernel) rfl rfl (Nat.le_of_ble_eq_true rfl) dX2_init_31 (fun H locs hP hD hS => ?_)
  have hP : va_P G.1 vcl ((([(h0, .inr (2, [.ref qX1, .ref qX0, .ref q2, .null, .null, .null, .null, .int 0]))] ++ ow G aX1 o0) ++ kw G aX0 k0) ++ [(q2, .inl (G.2.1, 8, .inl (fun _ => 0)))]) H := hP
  have hD : va_D A ((([(h0, .inr (2, [.ref qX1, .ref qX0, .ref q2, .null, .null, .null, .null, .int 0]))] ++ ow G aX1 o0) ++ kw G aX0 k0) ++ [(q2, .inl (G.2.1, 8, .inl (fun _ => 0)))]) := hD
  refine lv_aload_n hx hb dX2_init_34 rfl (lv_at hl 0 rfl) ?_
  refine lv_bipush (v := 8) hx hb dX2_init_35 rfl ?_
  refine newI F hK hP hD hS hA0 (by decide) rfl (by decide) (Nat.le_of_ble_eq_true rfl) (Nat.le_of_ble_eq_true rfl) dX2_init_37 (fun q3 H hP hD hS => ?_)
  refine va_putF (D := G.1) (ci := 2) (ty := .array .int) (C := RX2) (T := TX2) (N := 8) (Ts := lw_gt) hx hb (fun _ h => F.tb h) inX2 tyX2 tyX2_ok nmX2 hown hK.1 hP hD hS 0 rfl rfl 3 (by decide) (F.tb (tw 73 (by decide +kernel) rfl)) (fun _ h9 => h9) rfl hin rfl (by decide +kernel) rfl rfl (Nat.le_of_ble_eq_true rfl) dX2_init_39 (fun H locs hP hD hS => ?_)
  have hP : va_P G.1 vcl ((([(h0, .inr (2, [.ref qX1, .ref qX0, .ref q2, .ref q3, .null, .null, .null, .int 0]))] ++ ow G aX1 o0) ++ kw G aX0 k0) ++ [(q2, .inl (G.2.1, 8, .inl (fun _ => 0)))] ++ [(q3, .inl (G.2.1, 8, .inl (fun _ => 0)))]) H := hP
  have hD : va_D A ((([(h0, .inr (2, [.ref qX1, .ref qX0, .ref q2, .ref q3, .null, .null, .null, .int 0]))] ++ ow G aX1 o0) ++ kw G aX0 k0) ++ [(q2, .inl (G.2.1, 8, .inl (fun _ => 0)))] ++ [(q3, .inl (G.2.1, 8, .inl (fun _ => 0)))]) := hD
  refine lv_aload_n hx hb dX2_init_42 rfl (lv_at hl 0 rfl) ?_
  refine lv_bipush (v := 8) hx hb dX2_init_43 rfl ?_
  refine newI F hK hP hD hS hA0 (by decide) rfl (by decide) (Nat.le_of_ble_eq_true rfl) (Nat.le_of_ble_eq_true rfl) dX2_init_45 (fun q4 H hP hD hS => ?_)
  refine va_putF (D := G.1) (ci := 2) (ty := .array .int) (C := RX2) (T := TX2) (N := 8) (Ts := lw_gt) hx hb (fun _ h => F.tb h) inX2 tyX2 tyX2_ok nmX2 hown hK.1 hP hD hS 0 rfl rfl 4 (by decide) (F.tb (tw 75 (by decide +kernel) rfl)) (fun _ h9 => h9) rfl hin rfl (by decide +kernel) rfl rfl (Nat.le_of_ble_eq_true rfl) dX2_init_47 (fun H locs hP hD hS => ?_)
  have hP : va_P G.1 vcl ((([(h0, .inr (2, [.ref qX1, .ref qX0, .ref q2, .ref q3, .ref q4, .null, .null, .int 0]))] ++ ow G aX1 o0) ++ kw G aX0 k0) ++ [(q2, .inl (G.2.1, 8, .inl (fun _ => 0)))] ++ [(q3, .inl (G.2.1, 8, .inl (fun _ => 0)))] ++ [(q4, .inl (G.2.1, 8, .inl (fun _ => 0)))]) H := hP
  have hD : va_D A ((([(h0, .inr (2, [.ref qX1, .ref qX0, .ref q2, .ref q3, .ref q4, .null, .null, .int 0]))] ++ ow G aX1 o0) ++ kw G aX0 k0) ++ [(q2, .inl (G.2.1, 8, .inl (fun _ => 0)))] ++ [(q3, .inl (G.2.1, 8, .inl (fun _ => 0)))] ++ [(q4, .inl (G.2.1, 8, .inl (fun _ => 0)))]) := hD
  refine lv_aload_n hx hb dX2_init_50 rfl (lv_at hl 0 rfl) ?_
  refine lv_sipush (v := 600) hx hb dX2_init_51 rfl ?_
  refine newJ F hK hP hD hS hA0 (by decide) rfl (by decide) (Nat.le_of_ble_eq_true rfl) (Nat.le_of_ble_eq_true rfl) dX2_init_54 (fun q5 H hP hD hS => ?_)
  refine va_putF (D := G.1) (ci := 2) (ty := .array .long) (C := RX2) (T := TX2) (N := 8) (Ts := lw_gt) hx hb (fun _ h => F.tb h) inX2 tyX2 tyX2_ok nmX2 hown hK.1 hP hD hS 0 rfl rfl 5 (by decide) (F.tb (tw 77 (by decide +kernel) rfl)) (fun _ h9 => h9) rfl hin rfl (by decide +kernel) rfl rfl (Nat.le_of_ble_eq_true rfl) dX2_init_56 (fun H locs hP hD hS => ?_)
  have hP : va_P G.1 vcl ((([(h0, .inr (2, [.ref qX1, .ref qX0, .ref q2, .ref q3, .ref q4, .ref q5, .null, .int 0]))] ++ ow G aX1 o0) ++ kw G aX0 k0) ++ [(q2, .inl (G.2.1, 8, .inl (fun _ => 0)))] ++ [(q3, .inl (G.2.1, 8, .inl (fun _ => 0)))] ++ [(q4, .inl (G.2.1, 8, .inl (fun _ => 0)))] ++ [(q5, .inl (G.2.2.1, 600, .inr (.inl (fun _ => 0))))]) H := hP
  have hD : va_D A ((([(h0, .inr (2, [.ref qX1, .ref qX0, .ref q2, .ref q3, .ref q4, .ref q5, .null, .int 0]))] ++ ow G aX1 o0) ++ kw G aX0 k0) ++ [(q2, .inl (G.2.1, 8, .inl (fun _ => 0)))] ++ [(q3, .inl (G.2.1, 8, .inl (fun _ => 0)))] ++ [(q4, .inl (G.2.1, 8, .inl (fun _ => 0)))] ++ [(q5, .inl (G.2.2.1, 600, .inr (.inl (fun _ => 0))))]) := hD
  refine lv_aload_n hx hb dX2_init_59 rfl (lv_at hl 0 rfl) ?_
  refine lv_sipush (v := 600) hx hb dX2_init_60 rfl ?_
  refine newI F hK hP hD hS hA0 (by decide) rfl (by decide) (Nat.le_of_ble_eq_true rfl) (Nat.le_of_ble_eq_true rfl) dX2_init_63 (fun q6 H hP hD hS => ?_)
  refine va_putF (D := G.1) (ci := 2) (ty := .array .int) (C := RX2) (T := TX2) (N := 8) (Ts := lw_gt) hx hb (fun _ h => F.tb h) inX2 tyX2 tyX2_ok nmX2 hown hK.1 hP hD hS 0 rfl rfl 6 (by decide) (F.tb (tw 79 (by decide +kernel) rfl)) (fun _ h9 => h9) rfl hin rfl (by decide +kernel) rfl rfl (Nat.le_of_ble_eq_true rfl) dX2_init_65 (fun H locs hP hD hS => ?_)
  have hP : va_P G.1 vcl ((([(h0, .inr (2, [.ref qX1, .ref qX0, .ref q2, .ref q3, .ref q4, .ref q5, .ref q6, .int 0]))] ++ ow G aX1 o0) ++ kw G aX0 k0) ++ [(q2, .inl (G.2.1, 8, .inl (fun _ => 0)))] ++ [(q3, .inl (G.2.1, 8, .inl (fun _ => 0)))] ++ [(q4, .inl (G.2.1, 8, .inl (fun _ => 0)))] ++ [(q5, .inl (G.2.2.1, 600, .inr (.inl (fun _ => 0))))] ++ [(q6, .inl (G.2.1, 600, .inl (fun _ => 0)))]) H := hP
  have hD : va_D A ((([(h0, .inr (2, [.ref qX1, .ref qX0, .ref q2, .ref q3, .ref q4, .ref q5, .ref q6, .int 0]))] ++ ow G aX1 o0) ++ kw G aX0 k0) ++ [(q2, .inl (G.2.1, 8, .inl (fun _ => 0)))] ++ [(q3, .inl (G.2.1, 8, .inl (fun _ => 0)))] ++ [(q4, .inl (G.2.1, 8, .inl (fun _ => 0)))] ++ [(q5, .inl (G.2.2.1, 600, .inr (.inl (fun _ => 0))))] ++ [(q6, .inl (G.2.1, 600, .inl (fun _ => 0)))]) := hD
  refine lv_aload_n hx hb dX2_init_68 rfl (lv_at hl 0 rfl) ?_
  refine lv_iconst (v := 0) hx hb dX2_init_69 rfl ?_
  refine va_put (D := G.1) (ci := 2) (ty := .int) (C := RX2) (T := TX2) (N := 8) (Ts := lw_gt) hx hb (fun _ h => F.tb h) inX2 tyX2 tyX2_ok nmX2 hown hK.1 hP hD hS 0 rfl rfl 7 (by decide) (F.tb (tw 81 (by decide +kernel) rfl)) (fun _ h9 => h9) rfl (by decide +kernel) rfl rfl (Nat.le_of_ble_eq_true rfl) dX2_init_70 (fun H locs hP hD hS => ?_)
  have hP : va_P G.1 vcl ((([(h0, .inr (2, [.ref qX1, .ref qX0, .ref q2, .ref q3, .ref q4, .ref q5, .ref q6, .int 0]))] ++ ow G aX1 o0) ++ kw G aX0 k0) ++ [(q2, .inl (G.2.1, 8, .inl (fun _ => 0)))] ++ [(q3, .inl (G.2.1, 8, .inl (fun _ => 0)))] ++ [(q4, .inl (G.2.1, 8, .inl (fun _ => 0)))] ++ [(q5, .inl (G.2.2.1, 600, .inr (.inl (fun _ => 0))))] ++ [(q6, .inl (G.2.1, 600, .inl (fun _ => 0)))]) H := hP
  have hD : va_D A ((([(h0, .inr (2, [.ref qX1, .ref qX0, .ref q2, .ref q3, .ref q4, .ref q5, .ref q6, .int 0]))] ++ ow G aX1 o0) ++ kw G aX0 k0) ++ [(q2, .inl (G.2.1, 8, .inl (fun _ => 0)))] ++ [(q3, .inl (G.2.1, 8, .inl (fun _ => 0)))] ++ [(q4, .inl (G.2.1, 8, .inl (fun _ => 0)))] ++ [(q5, .inl (G.2.2.1, 600, .inr (.inl (fun _ => 0))))] ++ [(q6, .inl (G.2.1, 600, .inl (fun _ => 0)))]) := hD
  refine lv_aload_n hx hb dX2_init_73 rfl (lv_at hl 0 rfl) ?_
  refine va_get (D := G.1) (ci := 2) (v := .ref q2) (C := RX2) (T := TX2) (N := 8) (Ts := lw_gt) hx hb (fun _ h => F.tb h) inX2 hown hK.1 hP 0 rfl rfl 2 (by decide) (F.tb (tw 71 (by decide +kernel) rfl)) (fun _ h9 => h9) rfl dX2_init_74 ?_
  refine lv_iconst (v := (-1)) hx hb dX2_init_77 rfl ?_
  refine callFill (wl := (([(h0, .inr (2, [.ref qX1, .ref qX0, .ref q2, .ref q3, .ref q4, .ref q5, .ref q6, .int 0]))] ++ ow G aX1 o0) ++ kw G aX0 k0)) (wr := [(q3, .inl (G.2.1, 8, .inl (fun _ => 0))), (q4, .inl (G.2.1, 8, .inl (fun _ => 0))), (q5, .inl (G.2.2.1, 600, .inr (.inl (fun _ => 0)))), (q6, .inl (G.2.1, 600, .inl (fun _ => 0)))]) F yf_X2 (by decide) ⟨hK, hP, hD, hS⟩ ⟨Nat.le_of_ble_eq_true rfl, Nat.le_of_ble_eq_true rfl⟩ ⟨Nat.le_of_ble_eq_true rfl, Nat.le_of_ble_eq_true rfl⟩ hl.1 (Nat.le_of_ble_eq_true rfl) dX2_init_78 (fun H locs hw => ?_)
  subst hAe
  subst eX1
  subst eX0
  exact retN (ad := (fun k => if k = 0 then h0 else if k = 1 then aX1 0 else if k = 2 then aX1 1 else if k = 3 then aX1 2 else if k = 4 then aX1 3 else if k = 5 then aX0 0 else if k = 6 then aX0 1 else if k = 7 then aX0 2 else if k = 8 then aX0 3 else if k = 9 then q2 else if k = 10 then q3 else if k = 11 then q4 else if k = 12 then q5 else q6)) F (Nat.le_of_ble_eq_true rfl) (Nat.le_of_ble_eq_true rfl) hw.2.1 hw.2.2.1 hw.2.2.2 rfl dX2_init_81
