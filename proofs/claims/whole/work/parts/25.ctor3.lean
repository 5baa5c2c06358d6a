def h0s (an : Nat → Nat) (ak : Nat → Nat → Nat) : HS := (an, ak, fun _ => 0, fun _ => 0, s0, fun _ => s0)
def hcf (G : GX) (ad an : Nat → Nat) (f : Nat → Option Nat) : va_W := [(ad 0, .inr (3, [.ref (ad 1), .ref (ad 2), .ref (an 0), .int 0, .int 0, .int 0])), (ad 1, .inl (G.2.2.2, 9, .inr (.inr (.inr (.inr f))))), (ad 2, .inl (G.2.1, 600, .inl (fun _ => 0)))] ++ sw G an s0
def hT (G : GX) (ak : Nat → Nat → Nat) (i : Nat) : va_W := ((List.range i).map (fun j => sw G (ak j) s0)).flatten
theorem hT_succ {G : GX} {ak : Nat → Nat → Nat} {a : Nat → Nat} {i : Nat} : hT G (va_up ak i a) (i + 1) = hT G ak i ++ sw G a s0 := by
  unfold hT
  rw [List.range_succ, List.map_append, List.flatten_append, List.map_cons, List.map_nil, List.flatten_cons, List.flatten_nil, List.append_nil, va_up_self]
  congr 2
  apply List.map_congr_left
  intro j hj
  have : j ≠ i := by have := List.mem_range.mp hj; omega
  rw [va_up_ne _ _ this]
theorem hall_f {ak : Nat → Nat → Nat} {a : Nat → Nat} (i : Nat) : va_up (fun j => if j < i then some (ak j 0) else none) i (some (a 0)) = (fun j => if j < i + 1 then some (va_up ak i a j 0) else none) := by
  funext j
  by_cases h : j = i
  · simp [va_up, h]
  · by_cases h2 : j < i
    · simp [va_up, h, h2, show j < i + 1 by omega]
    · simp [va_up, h, h2, show ¬ j < i + 1 by omega]
theorem at_R {D : va_G} {cl : List vw_C} {H : Heap} {q n : Nat} {cA : ClassId} {f g : Nat → Option Nat} (h : ∀ i, i < n → f i = g i) (ha : va_at D cl (q, .inl (cA, n, .inr (.inr (.inr (.inr f))))) H) : va_at D cl (q, .inl (cA, n, .inr (.inr (.inr (.inr g))))) H := by
  show H[q]? = some (vp_cell cA (n, .inr (.inr (.inr (.inr g)))))
  rw [← show vp_cell cA (n, .inr (.inr (.inr (.inr f)))) = vp_cell cA (n, .inr (.inr (.inr (.inr g)))) from arrV_cong (fun i hi => congrArg va_rf (h i hi))]
  exact ha
theorem hall_P {D : va_G} {cl : List vw_C} {G : GX} {ad an : Nat → Nat} {ak : Nat → Nat → Nat} {H : Heap} (h : va_P D cl (hcf G ad an (fun j => if j < 9 then some (ak j 0) else none) ++ hT G ak 9) H) : va_P D cl (hw_ G ad (h0s an ak)) H := by
  refine va_P.app (fun k q hk => ?_) (va_P.right (w1 := hcf G ad an (fun j => if j < 9 then some (ak j 0) else none)) h)
  have hl := h.left
  match k, hk with
  | 0, hk => exact hl 0 q hk
  | 1, hk => cases hk; exact at_R (fun i hi => if_pos hi) (hl 1 _ rfl)
  | k + 2, hk => exact hl (k + 2) q hk
theorem hall_D {A : Nat → Prop} {G : GX} {ad an : Nat → Nat} {ak : Nat → Nat → Nat} (h : va_D A (hcf G ad an (fun j => if j < 9 then some (ak j 0) else none) ++ hT G ak 9)) : va_D A (hw_ G ad (h0s an ak)) := by
  refine h.addr ?_
  unfold hw_
  rw [List.map_append, List.map_append]
  rfl

theorem yi_X2_init_X3 : YI RX3 19 yX2_init cX2_init 1 := ⟨(tw 22 (by decide +kernel) rfl), (tw 2 (by decide +kernel) rfl), (tw 20 (by decide +kernel) rfl), (tw 21 (by decide +kernel) rfl), rfl, by decide +kernel⟩
theorem dX3_init_0 : decode cX3_init 0 = .ok (.aload_n 0, 1) := by decide +kernel
theorem dX3_init_1 : decode cX3_init 1 = .ok (.invokespecial 3, 3) := by decide +kernel
theorem dX3_init_4 : decode cX3_init 4 = .ok (.aload_n 0, 1) := by decide +kernel
theorem dX3_init_5 : decode cX3_init 5 = .ok (.bipush 9, 2) := by decide +kernel
theorem dX3_init_7 : decode cX3_init 7 = .ok (.anewarray 9, 3) := by decide +kernel
theorem dX3_init_10 : decode cX3_init 10 = .ok (.putfield 11, 3) := by decide +kernel
theorem dX3_init_13 : decode cX3_init 13 = .ok (.aload_n 0, 1) := by decide +kernel
theorem dX3_init_14 : decode cX3_init 14 = .ok (.sipush 600, 3) := by decide +kernel
theorem dX3_init_17 : decode cX3_init 17 = .ok (.newarray .int, 2) := by decide +kernel
theorem dX3_init_19 : decode cX3_init 19 = .ok (.putfield 15, 3) := by decide +kernel
theorem dX3_init_22 : decode cX3_init 22 = .ok (.aload_n 0, 1) := by decide +kernel
theorem dX3_init_23 : decode cX3_init 23 = .ok (.new 9, 3) := by decide +kernel
theorem dX3_init_26 : decode cX3_init 26 = .ok (.dup, 1) := by decide +kernel
theorem dX3_init_27 : decode cX3_init 27 = .ok (.invokespecial 19, 3) := by decide +kernel
theorem dX3_init_30 : decode cX3_init 30 = .ok (.putfield 20, 3) := by decide +kernel
theorem dX3_init_33 : decode cX3_init 33 = .ok (.aload_n 0, 1) := by decide +kernel
theorem dX3_init_34 : decode cX3_init 34 = .ok (.iconst 0, 1) := by decide +kernel
theorem dX3_init_35 : decode cX3_init 35 = .ok (.putfield 24, 3) := by decide +kernel
theorem dX3_init_38 : decode cX3_init 38 = .ok (.aload_n 0, 1) := by decide +kernel
theorem dX3_init_39 : decode cX3_init 39 = .ok (.iconst 0, 1) := by decide +kernel
theorem dX3_init_40 : decode cX3_init 40 = .ok (.putfield 28, 3) := by decide +kernel
theorem dX3_init_43 : decode cX3_init 43 = .ok (.aload_n 0, 1) := by decide +kernel
theorem dX3_init_44 : decode cX3_init 44 = .ok (.iconst 0, 1) := by decide +kernel
theorem dX3_init_45 : decode cX3_init 45 = .ok (.putfield 31, 3) := by decide +kernel
theorem dX3_init_48 : decode cX3_init 48 = .ok (.iconst 0, 1) := by decide +kernel
theorem dX3_init_49 : decode cX3_init 49 = .ok (.istore_n 1, 1) := by decide +kernel
theorem dX3_init_50 : decode cX3_init 50 = .ok (.iload_n 1, 1) := by decide +kernel
theorem dX3_init_51 : decode cX3_init 51 = .ok (.aload_n 0, 1) := by decide +kernel
theorem dX3_init_52 : decode cX3_init 52 = .ok (.getfield 11, 3) := by decide +kernel
theorem dX3_init_55 : decode cX3_init 55 = .ok (.arraylength, 1) := by decide +kernel
theorem dX3_init_56 : decode cX3_init 56 = .ok (.if_icmp .ge 22, 3) := by decide +kernel
theorem dX3_init_59 : decode cX3_init 59 = .ok (.aload_n 0, 1) := by decide +kernel
theorem dX3_init_60 : decode cX3_init 60 = .ok (.getfield 11, 3) := by decide +kernel
theorem dX3_init_63 : decode cX3_init 63 = .ok (.iload_n 1, 1) := by decide +kernel
theorem dX3_init_64 : decode cX3_init 64 = .ok (.new 9, 3) := by decide +kernel
theorem dX3_init_67 : decode cX3_init 67 = .ok (.dup, 1) := by decide +kernel
theorem dX3_init_68 : decode cX3_init 68 = .ok (.invokespecial 19, 3) := by decide +kernel
theorem dX3_init_71 : decode cX3_init 71 = .ok (.aastore, 1) := by decide +kernel
theorem dX3_init_72 : decode cX3_init 72 = .ok (.iinc 1 1, 3) := by decide +kernel
theorem dX3_init_75 : decode cX3_init 75 = .ok (.goto (-25), 3) := by decide +kernel
theorem dX3_init_78 : decode cX3_init 78 = .ok (.return_, 1) := by decide +kernel
def rmX3_init : Room := { frames := 3, cells := 142, slots := 22679, locals := 63 }
set_option maxHeartbeats 8000000 in
set_option maxRecDepth 100000 in
theorem c_X3_init {l : Launch} {G : GX} {h0 sz : Nat} : MN l yX3_init cX3_init 2 rmX3_init G h0 (.inr (3, [.null, .null, .null, .int 0, .int 0, .int 0])) (fun ad : (Nat → Nat) × (Nat → Nat) × (Nat → Nat → Nat) => hw_ G ad.1 (h0s ad.2.1 ad.2.2)) (fun ad => ad.1 0) sz := by
  refine MN.of (by decide) (by decide) rfl (fun p e s m below meth c ls hsz F hin hAO hw hl => ?_)
  obtain ⟨⟨hx, hb, hml, hown, hts⟩, hr, hlocks⟩ := id F
  have hK := hw.1
  have hA0 : ∀ q : Nat, s.heap.size ≤ q → va_A [(h0, (.inr (3, [.null, .null, .null, .int 0, .int 0, .int 0]) : va_E))] sz q := fun q h => Or.inr (by omega)
  have hP := hw.2.1
  have hD := hw.2.2.1
  have hS := hw.2.2.2
  generalize hAe : va_A [(h0, (.inr (3, [.null, .null, .null, .int 0, .int 0, .int 0]) : va_E))] sz = A at hA0 hD hS ⊢
  clear hw
  refine lv_aload_n hx hb dX3_init_0 rfl (lv_at hl 0 rfl) ?_
  refine W.objInit hx hb hown (F.tb (tw 14 (by decide +kernel) rfl)) (F.tb (tw 15 (by decide +kernel) rfl)) (F.tb (tw 16 (by decide +kernel) rfl)) rfl (by rw [hml]; exact hl.1) rfl dX3_init_1 (Nat.le_of_ble_eq_true rfl) (Nat.le_of_ble_eq_true rfl) ?_
  refine W.eq (g2 := F0 m 4 ls []) rfl ?_
  refine lv_aload_n hx hb dX3_init_4 rfl (lv_at hl 0 rfl) ?_
  refine lv_bipush (v := 9) hx hb dX3_init_5 rfl ?_
  refine newQ F (tw 17 (by decide +kernel) rfl) hAO hK hP hD hS hA0 (by decide) rfl (by decide) (Nat.le_of_ble_eq_true rfl) (Nat.le_of_ble_eq_true rfl) dX3_init_7 (fun q1 H hP hD hS => ?_)
  have hP : va_P G.1 vcl [(h0, .inr (3, [.null, .null, .null, .int 0, .int 0, .int 0])), (q1, .inl (G.2.2.2, 9, .inr (.inr (.inr (.inr (fun _ => none))))))] H := hP
  have hD : va_D A [(h0, .inr (3, [.null, .null, .null, .int 0, .int 0, .int 0])), (q1, .inl (G.2.2.2, 9, .inr (.inr (.inr (.inr (fun _ => none))))))] := hD
  refine va_putF (D := G.1) (ci := 3) (ty := .array (.object "LabelHall$State")) (C := RX3) (T := TX3) (N := 6) (Ts := lw_gt) hx hb (fun _ h => F.tb h) inX3 tyX3 tyX3_ok nmX3 hown hK.1 hP hD hS 0 rfl rfl 0 (by decide) (F.tb (tw 101 (by decide +kernel) rfl)) (fun _ h9 => h9) rfl hin rfl (by decide +kernel) rfl rfl (Nat.le_of_ble_eq_true rfl) dX3_init_10 (fun H locs hP hD hS => ?_)
  have hP : va_P G.1 vcl [(h0, .inr (3, [.ref q1, .null, .null, .int 0, .int 0, .int 0])), (q1, .inl (G.2.2.2, 9, .inr (.inr (.inr (.inr (fun _ => none))))))] H := hP
  have hD : va_D A [(h0, .inr (3, [.ref q1, .null, .null, .int 0, .int 0, .int 0])), (q1, .inl (G.2.2.2, 9, .inr (.inr (.inr (.inr (fun _ => none))))))] := hD
  refine lv_aload_n hx hb dX3_init_13 rfl (lv_at hl 0 rfl) ?_
  refine lv_sipush (v := 600) hx hb dX3_init_14 rfl ?_
  refine newI F hK hP hD hS hA0 (by decide) rfl (by decide) (Nat.le_of_ble_eq_true rfl) (Nat.le_of_ble_eq_true rfl) dX3_init_17 (fun q2 H hP hD hS => ?_)
  have hP : va_P G.1 vcl [(h0, .inr (3, [.ref q1, .null, .null, .int 0, .int 0, .int 0])), (q1, .inl (G.2.2.2, 9, .inr (.inr (.inr (.inr (fun _ => none)))))), (q2, .inl (G.2.1, 600, .inl (fun _ => 0)))] H := hP
  have hD : va_D A [(h0, .inr (3, [.ref q1, .null, .null, .int 0, .int 0, .int 0])), (q1, .inl (G.2.2.2, 9, .inr (.inr (.inr (.inr (fun _ => none)))))), (q2, .inl (G.2.1, 600, .inl (fun _ => 0)))] := hD
  refine va_putF (D := G.1) (ci := 3) (ty := .array .int) (C := RX3) (T := TX3) (N := 6) (Ts := lw_gt) hx hb (fun _ h => F.tb h) inX3 tyX3 tyX3_ok nmX3 hown hK.1 hP hD hS 0 rfl rfl 1 (by decide) (F.tb (tw 102 (by decide +kernel) rfl)) (fun _ h9 => h9) rfl hin rfl (by decide +kernel) rfl rfl (Nat.le_of_ble_eq_true rfl) dX3_init_19 (fun H locs hP hD hS => ?_)
  have hP : va_P G.1 vcl [(h0, .inr (3, [.ref q1, .ref q2, .null, .int 0, .int 0, .int 0])), (q1, .inl (G.2.2.2, 9, .inr (.inr (.inr (.inr (fun _ => none)))))), (q2, .inl (G.2.1, 600, .inl (fun _ => 0)))] H := hP
  have hD : va_D A [(h0, .inr (3, [.ref q1, .ref q2, .null, .int 0, .int 0, .int 0])), (q1, .inl (G.2.2.2, 9, .inr (.inr (.inr (.inr (fun _ => none)))))), (q2, .inl (G.2.1, 600, .inl (fun _ => 0)))] := hD
  refine lv_aload_n hx hb dX3_init_22 rfl (lv_at hl 0 rfl) ?_
  refine va_new (ci := 2) (fs := [.null, .null, .null, .null, .null, .null, .null, .int 0]) (C := RX2) (T := TX2) (N := 8) (Ts := lw_gt) hx hb (fun _ h => F.tb h) inX2 tyX2 tyX2_ok hown (F.tb (tw 17 (by decide +kernel) rfl)) (F.tb (tw 19 (by decide +kernel) rfl)) (F.tb (tw 2 (by decide +kernel) rfl)) hK.1 hP hD hS hA0 rfl (fun j hj => by rcases (show j = 0 ∨ j = 1 ∨ j = 2 ∨ j = 3 ∨ j = 4 ∨ j = 5 ∨ j = 6 ∨ j = 7 by omega) with rfl | rfl | rfl | rfl | rfl | rfl | rfl | rfl <;> rfl) (Nat.le_of_ble_eq_true rfl) (Nat.le_of_ble_eq_true rfl) dX3_init_23 (fun q3 H hP hD hS => ?_)
  refine lv_dup hx hb dX3_init_26 rfl ?_
  refine callN (ws := [(h0, .inr (3, [.ref q1, .ref q2, .null, .int 0, .int 0, .int 0])), (q1, .inl (G.2.2.2, 9, .inr (.inr (.inr (.inr (fun _ => none)))))), (q2, .inl (G.2.1, 600, .inl (fun _ => 0)))]) (wf := fun ad => sw G ad s0) ⟨hx, hb, hml, hown, hts⟩ (fun _ h => List.mem_cons_of_mem _ h) yi_X2_init_X3 (fun sz => c_X2_init) hK hAO hP hD hS hA0 ⟨Nat.le_of_ble_eq_true rfl, Nat.le_of_ble_eq_true rfl⟩ ⟨Nat.le_of_ble_eq_true rfl, Nat.le_of_ble_eq_true rfl⟩ hl.1 (Nat.le_of_ble_eq_true rfl) dX3_init_27 (fun an H locs ean hP9 hD9 hS9 => ?_)
  subst ean
  have hP := hP9
  have hD := hD9
  have hS := hS9
  refine va_put (D := G.1) (ci := 3) (ty := .object "LabelHall$State") (v := .ref (an 0)) (C := RX3) (T := TX3) (N := 6) (Ts := lw_gt) hx hb (fun _ h => F.tb h) inX3 tyX3 tyX3_ok nmX3 hown hK.1 hP hD hS 0 rfl rfl 2 (by decide) (F.tb (tw 103 (by decide +kernel) rfl)) (fun _ h9 => h9) rfl (by decide +kernel) rfl rfl (Nat.le_of_ble_eq_true rfl) dX3_init_30 (fun H locs hP hD hS => ?_)
  refine lv_aload_n hx hb dX3_init_33 rfl (lv_at hl 0 rfl) ?_
  refine lv_iconst (v := 0) hx hb dX3_init_34 rfl ?_
  refine va_put (D := G.1) (ci := 3) (ty := .int) (C := RX3) (T := TX3) (N := 6) (Ts := lw_gt) hx hb (fun _ h => F.tb h) inX3 tyX3 tyX3_ok nmX3 hown hK.1 hP hD hS 0 rfl rfl 3 (by decide) (F.tb (tw 104 (by decide +kernel) rfl)) (fun _ h9 => h9) rfl (by decide +kernel) rfl rfl (Nat.le_of_ble_eq_true rfl) dX3_init_35 (fun H locs hP hD hS => ?_)
  refine lv_aload_n hx hb dX3_init_38 rfl (lv_at hl 0 rfl) ?_
  refine lv_iconst (v := 0) hx hb dX3_init_39 rfl ?_
  refine va_put (D := G.1) (ci := 3) (ty := .int) (C := RX3) (T := TX3) (N := 6) (Ts := lw_gt) hx hb (fun _ h => F.tb h) inX3 tyX3 tyX3_ok nmX3 hown hK.1 hP hD hS 0 rfl rfl 4 (by decide) (F.tb (tw 105 (by decide +kernel) rfl)) (fun _ h9 => h9) rfl (by decide +kernel) rfl rfl (Nat.le_of_ble_eq_true rfl) dX3_init_40 (fun H locs hP hD hS => ?_)
  refine lv_aload_n hx hb dX3_init_43 rfl (lv_at hl 0 rfl) ?_
  refine lv_iconst (v := 0) hx hb dX3_init_44 rfl ?_
  refine va_put (D := G.1) (ci := 3) (ty := .int) (C := RX3) (T := TX3) (N := 6) (Ts := lw_gt) hx hb (fun _ h => F.tb h) inX3 tyX3 tyX3_ok nmX3 hown hK.1 hP hD hS 0 rfl rfl 5 (by decide) (F.tb (tw 106 (by decide +kernel) rfl)) (fun _ h9 => h9) rfl (by decide +kernel) rfl rfl (Nat.le_of_ble_eq_true rfl) dX3_init_45 (fun H locs hP hD hS => ?_)
  have hP7 : va_P G.1 vcl (hcf G (fun k => if k = 0 then h0 else if k = 1 then q1 else q2) an (fun j => if j < 0 then some ((fun _ _ => 0 : Nat → Nat → Nat) j 0) else none) ++ hT G (fun _ _ => 0) 0) H := by
    rw [show (fun j => if j < 0 then some ((fun _ _ => 0 : Nat → Nat → Nat) j 0) else none) = (fun _ => none : Nat → Option Nat) from funext fun j => if_neg (Nat.not_lt_zero j), show hT G (fun _ _ => 0) 0 = [] from rfl, List.append_nil]; exact hP
  have hD7 : va_D A (hcf G (fun k => if k = 0 then h0 else if k = 1 then q1 else q2) an (fun j => if j < 0 then some ((fun _ _ => 0 : Nat → Nat → Nat) j 0) else none) ++ hT G (fun _ _ => 0) 0) := by
    rw [show (fun j => if j < 0 then some ((fun _ _ => 0 : Nat → Nat → Nat) j 0) else none) = (fun _ => none : Nat → Option Nat) from funext fun j => if_neg (Nat.not_lt_zero j), show hT G (fun _ _ => 0) 0 = [] from rfl, List.append_nil]; exact hD
  refine lv_iconst (v := 0) hx hb dX3_init_48 rfl ?_
  refine lv_istore_n (lv' := [(1, .int 0), (0, .ref h0)]) hx hb dX3_init_49 rfl hl (by decide) rfl (fun ls hl => ?_)
  generalize hade : (fun k => if k = 0 then h0 else if k = 1 then q1 else q2) = ad at hP7 hD7
  have ad0 : ad 0 = h0 := by rw [← hade]; rfl
  clear hade
  subst ad0
  have loop : ∀ (n i : Nat) (ak : Nat → Nat → Nat) (H : Heap) (locs : List Loc) (ls : Array Slot), i ≤ 9 → 10 ≤ i + n → va_P G.1 vcl (hcf G ad an (fun j => if j < i then some (ak j 0) else none) ++ hT G ak i) H → va_D A (hcf G ad an (fun j => if j < i then some (ak j 0) else none) ++ hT G ak i) → va_S A s.heap H locs → lv_has ls 2 [(1, .int (nI i)), (0, .ref (ad 0))] → W p l e rmX3_init s m [Value.ref (ad 0)].toArray below meth c H locs (16 + 14 * i) (2816 + 2207 * i) (MQ below (QN G (fun ad : (Nat → Nat) × (Nat → Nat) × (Nat → Nat → Nat) => hw_ G ad.1 (h0s ad.2.1 ad.2.2)) (fun ad => ad.1 0) (ad 0) A) [Value.ref (ad 0)].toArray s rmX3_init.cells rmX3_init.slots A) (F0 m 50 ls []) := by
    intro n
    induction n with
    | zero => intro i ak H locs ls h1 h2; exact absurd h2 (by omega)
    | succ n ih =>
      intro i ak H locs ls h1 h2 hP hD hS hl
      refine lv_iload_n hx hb dX3_init_50 rfl (lv_at hl 0 rfl) ?_
      refine lv_aload_n hx hb dX3_init_51 rfl (lv_at hl 1 rfl) ?_
      refine va_get (D := G.1) (ci := 3) (v := .ref (ad 1)) (C := RX3) (T := TX3) (N := 6) (Ts := lw_gt) hx hb (fun _ h => F.tb h) inX3 hown hK.1 hP 0 rfl rfl 0 (by decide) (F.tb (tw 101 (by decide +kernel) rfl)) (fun _ h9 => h9) rfl dX3_init_52 ?_
      refine va_alen hx hb hK.1 hP 1 2 rfl rfl (v := 9) rfl dX3_init_55 ?_
      refine lv_icmp_ge (tgt := 78) hx hb dX3_init_56 rfl (fun c1 => ?_) (fun c1 => ?_)
      · have e9 : i = 9 := by have := (nI_leI (a := 9) (b := i) (by omega) (by omega)).mp c1; omega
        subst e9
        subst hAe
        refine retN (ad := (ad, an, ak)) F (by decide) (by decide) (hall_P hP) (hall_D hD) hS rfl dX3_init_78
      · have hi : i < 9 := Nat.lt_of_not_le fun z => c1 (nI_le (a := 9) z (by omega))
        refine lv_aload_n hx hb dX3_init_59 rfl (lv_at hl 1 rfl) ?_
        refine va_get (D := G.1) (ci := 3) (v := .ref (ad 1)) (C := RX3) (T := TX3) (N := 6) (Ts := lw_gt) hx hb (fun _ h => F.tb h) inX3 hown hK.1 hP 0 rfl rfl 0 (by decide) (F.tb (tw 101 (by decide +kernel) rfl)) (fun _ h9 => h9) rfl dX3_init_60 ?_
        refine lv_iload_n hx hb dX3_init_63 rfl (lv_at hl 0 rfl) ?_
        refine va_new (ci := 2) (fs := [.null, .null, .null, .null, .null, .null, .null, .int 0]) (C := RX2) (T := TX2) (N := 8) (Ts := lw_gt) hx hb (fun _ h => F.tb h) inX2 tyX2 tyX2_ok hown (F.tb (tw 17 (by decide +kernel) rfl)) (F.tb (tw 19 (by decide +kernel) rfl)) (F.tb (tw 2 (by decide +kernel) rfl)) hK.1 hP hD hS hA0 rfl (fun j hj => by rcases (show j = 0 ∨ j = 1 ∨ j = 2 ∨ j = 3 ∨ j = 4 ∨ j = 5 ∨ j = 6 ∨ j = 7 by omega) with rfl | rfl | rfl | rfl | rfl | rfl | rfl | rfl <;> rfl) (by show 16 + 14 * i + 1 ≤ 142; omega) (by show 2816 + 2207 * i + 8 ≤ 22679; omega) dX3_init_64 (fun q3 H hP hD hS => ?_)
        refine lv_dup hx hb dX3_init_67 rfl ?_
        refine callN (ws := hcf G ad an (fun j => if j < i then some (ak j 0) else none) ++ hT G ak i) (wf := fun ad => sw G ad s0) ⟨hx, hb, hml, hown, hts⟩ (fun _ h => List.mem_cons_of_mem _ h) yi_X2_init_X3 (fun sz => c_X2_init) hK hAO hP hD hS hA0 ⟨Nat.le_of_ble_eq_true rfl, Nat.le_of_ble_eq_true rfl⟩ ⟨by show 16 + 14 * i + 1 + 13 ≤ 142; omega, by show 2816 + 2207 * i + 8 + 2199 ≤ 22679; omega⟩ hl.1 (Nat.le_of_ble_eq_true rfl) dX3_init_68 (fun an2 H locs ean hP9 hD9 hS9 => ?_)
        subst ean
        have hP := hP9
        have hD := hD9
        have hS := hS9
        refine va_astq hx hb hK.1 hP hD hS 1 2 (hcf G ad an (fun j => if j < i then some (ak j 0) else none) ++ hT G ak i).length 2 (r := (RX2, TX2, 8)) rfl rfl (by rw [List.getElem?_append_right (Nat.le_refl _), Nat.sub_self]; rfl) rfl (vp_in_nI hi (by decide)) dX3_init_71 (fun H locs hP hD hS => ?_)
        have ef := hall_f (ak := ak) (a := an2) i
        rw [nI_clamp (by omega)] at hP hD
        have hP : va_P G.1 vcl ((hcf G ad an (va_up (fun j => if j < i then some (ak j 0) else none) i (some (an2 0))) ++ hT G ak i) ++ sw G an2 s0) H := hP
        have hD : va_D A ((hcf G ad an (va_up (fun j => if j < i then some (ak j 0) else none) i (some (an2 0))) ++ hT G ak i) ++ sw G an2 s0) := hD
        rw [ef, List.append_assoc, ← hT_succ] at hP hD
        refine lv_iinc (v := (nI (i + 1))) (lv' := [(1, .int (nI (i + 1))), (0, .ref (ad 0))]) hx hb dX3_init_72 hl (k := 0) rfl (nI_1 i) (by decide) rfl (fun ls hl => ?_)
        refine lv_goto (tgt := 50) hx hb dX3_init_75 rfl ?_
        refine W.widen (k := 16 + 14 * (i + 1)) (n := 2816 + 2207 * (i + 1)) (by show 16 + 14 * i + 1 + 13 ≤ _; omega) (by show 2816 + 2207 * i + 8 + 2199 ≤ _; omega) ?_
        exact ih (i + 1) (va_up ak i an2) H locs ls (by omega) (by omega) hP hD hS hl
  exact loop 10 0 (fun _ _ => 0) _ _ ls (by omega) (by omega) hP7 hD7 hS hl
