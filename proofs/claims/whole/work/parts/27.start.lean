theorem yi_X3_init_L : YI RL 9 yX3_init cX3_init 2 := ⟨(tw 13 (by decide +kernel) rfl), (tw 1 (by decide +kernel) rfl), (tw 11 (by decide +kernel) rfl), (tw 12 (by decide +kernel) rfl), rfl, by decide +kernel⟩
theorem yi_X4_init_L : YI RL 12 yX4_init cX4_init 2 := ⟨(tw 509 (by decide +kernel) rfl), (tw 6 (by decide +kernel) rfl), (tw 507 (by decide +kernel) rfl), (tw 508 (by decide +kernel) rfl), rfl, by decide +kernel⟩
theorem KK_start {s : State} {args : Array Value} (hts : ∀ w ∈ lw_tbl, w.before args s = true) : ∃ G : GX, KK G s := by
  have tb : ∀ {w : Cond}, w ∈ lw_gt → w.before args s = true := fun h => hts _ (lw_sub _ h)
  have ts : ∀ w ∈ lw_gt, w.before args s = true := fun w h => tb h
  obtain ⟨c0, iS0, hKn0⟩ := u_known (C := RX0) (T := TX0) (N := 3) (n := 3) ts inX0 (tb (tw 46 (by decide +kernel) rfl))
  obtain ⟨c1, iS1, hKn1⟩ := u_known (C := RX1) (T := TX1) (N := 3) (n := 3) ts inX1 (tb (tw 25 (by decide +kernel) rfl))
  obtain ⟨c2, iS2, hKn2⟩ := u_known (C := RX2) (T := TX2) (N := 8) (n := 8) ts inX2 (tb (tw 19 (by decide +kernel) rfl))
  obtain ⟨c3, iS3, hKn3⟩ := u_known (C := RX3) (T := TX3) (N := 6) (n := 6) ts inX3 (tb (tw 10 (by decide +kernel) rfl))
  obtain ⟨c4, iS4, hKn4⟩ := u_known (C := RX4) (T := TX4) (N := 25) (n := 25) ts inX4 (tb (tw 506 (by decide +kernel) rfl))
  obtain ⟨dC, dI, hKc⟩ : ∃ (dC : Nat → ClassId) (dI : Nat → Nat → Nat), ∀ (k : Nat) (q : vw_C), vcl[k]? = some q → u_Kn s q.1 q.2.1 q.2.2 (dC k) (dI k) := by
    refine ⟨fun k => if k = 0 then c0 else if k = 1 then c1 else if k = 2 then c2 else if k = 3 then c3 else c4, fun k => if k = 0 then iS0 else if k = 1 then iS1 else if k = 2 then iS2 else if k = 3 then iS3 else iS4, ?_⟩
    intro k q hq
    match k, hq with
    | 0, hq => cases hq; exact hKn0
    | 1, hq => cases hq; exact hKn1
    | 2, hq => cases hq; exact hKn2
    | 3, hq => cases hq; exact hKn3
    | 4, hq => cases hq; exact hKn4
    | k + 5, hq => simp [vcl] at hq
  obtain ⟨cI, kI, compI, a1, a2, a3⟩ := Cond.arrayClass_spec (type := .int) (tb (tw 44 (by decide +kernel) rfl))
  obtain ⟨cJ, kJ, compJ, b1, b2, b3⟩ := Cond.arrayClass_spec (type := .long) (tb (tw 100 (by decide +kernel) rfl))
  obtain ⟨comp, cS, kS, d1, d2, d3, d4, d5⟩ := Cond.arrayOver_spec (hts _ (List.mem_append_right _ (List.mem_of_getElem? (i := 18) (by decide +kernel))) : (Cond.arrayOver (.object RX2)).before args s = true)
  refine ⟨((dC, dI), cI, cJ, cS), ⟨hKc, fun k q hq => ?_⟩, va_Nw.of rfl (hts _ (List.mem_append_right _ (List.mem_of_getElem? (i := 211) (by decide +kernel)))), va_Nw.of rfl (hts _ (List.mem_append_right _ (List.mem_of_getElem? (i := 269) (by decide +kernel)))), va_Nw.of rfl (hts _ (List.mem_append_right _ (List.mem_of_getElem? (i := 309) (by decide +kernel)))), va_Nw.of rfl (hts _ (List.mem_append_right _ (List.mem_of_getElem? (i := 366) (by decide +kernel)))), va_Nw.of rfl (hts _ (List.mem_append_right _ (List.mem_of_getElem? (i := 400) (by decide +kernel))))⟩
  match k, hq with
  | 0, hq => cases hq; exact ⟨fun n z => ⟨fun k h => (by cases h), kI, a2, compI, a3⟩, a1⟩
  | 1, hq => cases hq; exact ⟨fun n z => ⟨fun k h => (by cases h), kJ, b2, compJ, b3⟩, b1⟩
  | 2, hq => cases hq; exact ⟨fun n z => ⟨fun k h => (by cases h), kS, d3, comp, d4⟩, kS, comp, d3, d4, d1, d5⟩
  | k + 3, hq => simp [tyL] at hq
set_option maxHeartbeats 8000000 in
set_option maxRecDepth 100000 in
/-- THE LAW, from its entry, over any relation that its steps keep -/
theorem start_of {Rl : HS → MS → Prop} (s_row : Sp_row Rl) (s_put : Sp_put Rl) (s_drop : Sp_drop Rl) (s_move : Sp_move Rl) (s_join : Sp_join Rl) (s_split : Sp_split Rl) (s_less : Sp_less Rl) (s_label : Sp_label Rl) (s_inner : Sp_inner Rl) (s_near : Sp_near Rl) (s_index : Sp_index Rl) (s_at : Sp_at Rl) (s_between : Sp_between Rl) (s_holds : Sp_holds Rl) (s_meet : Sp_meet Rl) (s_depth : Sp_depth Rl) (s_rowOf : Sp_rowOf Rl) (s_mark : Sp_mark Rl) (s_marked : Sp_marked Rl) (s_putAt : Sp_putAt Rl) (s_undo : Sp_undo Rl) (s_about : Sp_about Rl) (s_isOf : Sp_isOf Rl) (s_count : Sp_count Rl) (hRl : ∀ an ak, Rl (h0s an ak) m0) {p : Program} {e : Env} {s : State} {m : MethodId} {below : List Frame} {meth : Method} {c : Code} (l : Launch) {b L : Nat} {xs : Nat → Int32} (hL : L ≤ 2560) (C0 : lw_At p s m meth c b L xs) : W p l e room_1 s m #[Value.ref b] below meth c s.heap [] 0 0 (lw_Z below #[Value.ref b] s) (entryFrame m ([Value.ref b] : List Value).toArray 4) := by
  obtain ⟨hx, hb, hrt, hml, hown, hts, hX, hbl, hlocks, hgv⟩ := id C0
  have tb : ∀ {w : Cond}, w ∈ lw_gt → w.before #[Value.ref b] s = true := fun h => hts _ (lw_sub _ h)
  have hA : ∀ q : Nat, s.heap.size ≤ q → (fun q : Nat => s.heap.size ≤ q) q := fun _ h => h
  have hown : s.vm.findClass RL = some m.cls := hown
  have S : CallFix p m c code 4 s #[Value.ref b] lw_tbl RL := ⟨hx, hb, hml, hown, hts⟩
  obtain ⟨G, hK⟩ := KK_start hts
  have hAO : va_AO RX2 s := va_AO.of (A := #[Value.ref b]) (hts _ (List.mem_append_right _ (List.mem_of_getElem? (i := 18) (by decide +kernel))))
  have hS : va_S (fun q : Nat => s.heap.size ≤ q) s.heap s.heap [] := va_S.rf
  have hP : va_P G.1 vcl [] s.heap := nil_P
  have hD : va_D (fun q : Nat => s.heap.size ≤ q) [] := nil_D
  have hl := lv_entry ([.ref b]) (n := 4) (Nat.le_of_ble_eq_true rfl)
  rw [lg_entry_eq]
  generalize (lg_sl ([.ref b]) ++ List.replicate (4 - (lg_sl ([.ref b])).length) Slot.unset).toArray = ls at hl ⊢
  have hl : lv_has ls 4 [(0, .ref b)] := hl
  refine va_new (ci := 3) (fs := [.null, .null, .null, .int 0, .int 0, .int 0]) (C := RX3) (T := TX3) (N := 6) (Ts := lw_gt) hx hb (fun w h => hts w (lw_sub w h)) inX3 tyX3 tyX3_ok hown (tb (tw 9 (by decide +kernel) rfl)) (tb (tw 10 (by decide +kernel) rfl)) (tb (tw 1 (by decide +kernel) rfl)) hK.1 hP hD hS hA rfl (fun j hj => by rcases (show j = 0 ∨ j = 1 ∨ j = 2 ∨ j = 3 ∨ j = 4 ∨ j = 5 by omega) with rfl | rfl | rfl | rfl | rfl | rfl <;> rfl) (Nat.le_of_ble_eq_true rfl) (Nat.le_of_ble_eq_true rfl) dL_law_0 (fun q3 H hP hD hS => ?_)
  refine lv_dup hx hb dL_law_3 rfl ?_
  refine callN (ws := []) (wf := fun ad : (Nat → Nat) × (Nat → Nat) × (Nat → Nat → Nat) => hw_ G ad.1 (h0s ad.2.1 ad.2.2)) S lw_sub yi_X3_init_L (fun sz => c_X3_init) hK hAO hP hD hS hA ⟨Nat.le_of_ble_eq_true rfl, Nat.le_of_ble_eq_true rfl⟩ ⟨Nat.le_of_ble_eq_true rfl, Nat.le_of_ble_eq_true rfl⟩ hl.1 (Nat.le_of_ble_eq_true rfl) dL_law_4 (fun ad H locs ead hP9 hD9 hS9 => ?_)
  subst ead
  obtain ⟨ad, an, ak⟩ := ad
  have hP : va_P G.1 vcl (hw_ G ad (h0s an ak)) H := hP9
  have hD : va_D (fun q : Nat => s.heap.size ≤ q) (hw_ G ad (h0s an ak)) := hD9
  have hS := hS9
  refine lv_astore_n (lv' := [(1, .ref (ad 0)), (0, .ref b)]) hx hb dL_law_7 rfl hl (by decide) rfl (fun ls hl => ?_)
  refine va_new (ci := 4) (fs := [.int 0, .int 0, .null, .null, .null, .null, .null, .null, .null, .null, .null, .null, .null, .null, .null, .int 0, .null, .null, .int 0, .int 0, .int 0, .null, .int 0, .null, .int 0]) (C := RX4) (T := TX4) (N := 25) (Ts := lw_gt) hx hb (fun w h => hts w (lw_sub w h)) inX4 tyX4 tyX4_ok hown (tb (tw 505 (by decide +kernel) rfl)) (tb (tw 506 (by decide +kernel) rfl)) (tb (tw 6 (by decide +kernel) rfl)) hK.1 hP hD hS hA rfl (fun j hj => by rcases (show j = 0 ∨ j = 1 ∨ j = 2 ∨ j = 3 ∨ j = 4 ∨ j = 5 ∨ j = 6 ∨ j = 7 ∨ j = 8 ∨ j = 9 ∨ j = 10 ∨ j = 11 ∨ j = 12 ∨ j = 13 ∨ j = 14 ∨ j = 15 ∨ j = 16 ∨ j = 17 ∨ j = 18 ∨ j = 19 ∨ j = 20 ∨ j = 21 ∨ j = 22 ∨ j = 23 ∨ j = 24 by omega) with rfl | rfl | rfl | rfl | rfl | rfl | rfl | rfl | rfl | rfl | rfl | rfl | rfl | rfl | rfl | rfl | rfl | rfl | rfl | rfl | rfl | rfl | rfl | rfl | rfl <;> rfl) (Nat.le_of_ble_eq_true rfl) (Nat.le_of_ble_eq_true rfl) dL_law_8 (fun q4 H hP hD hS => ?_)
  refine lv_dup hx hb dL_law_11 rfl ?_
  refine callN (ws := hw_ G ad (h0s an ak)) (wf := fun am => mw G am m0) S lw_sub yi_X4_init_L (fun sz => c_X4_init) hK hAO hP hD hS hA ⟨Nat.le_of_ble_eq_true rfl, Nat.le_of_ble_eq_true rfl⟩ ⟨Nat.le_of_ble_eq_true rfl, Nat.le_of_ble_eq_true rfl⟩ hl.1 (Nat.le_of_ble_eq_true rfl) dL_law_12 (fun am H locs eam hP9 hD9 hS9 => ?_)
  subst eam
  refine lv_astore_n (lv' := [(2, .ref (am 0)), (1, .ref (ad 0)), (0, .ref b)]) hx hb dL_law_15 rfl hl (by decide) rfl (fun ls hl => ?_)
  refine lv_iconst (v := 0) hx hb dL_law_16 rfl ?_
  refine lv_istore_n (lv' := [(3, .int 0), (2, .ref (am 0)), (1, .ref (ad 0)), (0, .ref b)]) hx hb dL_law_17 rfl hl (by decide) rfl (fun ls hl => ?_)
  refine W.widen (k := 600000) (n := 7302250) (Nat.le_of_ble_eq_true rfl) (Nat.le_of_ble_eq_true rfl) ?_
  exact law_loop s_row s_put s_drop s_move s_join s_split s_less s_label s_inner s_near s_index s_at s_between s_holds s_meet s_depth s_rowOf s_mark s_marked s_putAt s_undo s_about s_isOf s_count hL C0 (L + 1) 0 0 (h0s an ak) m0 H locs ls (Nat.zero_le L) (by omega) nI_0.symm (hRl an ak) ⟨hK, hP9, hD9, hS9⟩ (lv_sub hl [3, 2, 1, 0] rfl)
