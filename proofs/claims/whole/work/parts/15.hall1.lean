/-! ===== a state is copied; the hall's exchange of states ===== -/
def OQ (n1 n2 n3 : Nat) (a b : OS) : Prop := (∀ i, i < n1 → a 1 i = b 1 i) ∧ (∀ i, i < n2 → a 2 i = b 2 i) ∧ (∀ i, i < n3 → a 3 i = b 3 i)
def SQ (a b : SS) : Prop := OQ 600 9 300 a.1 b.1 ∧ OQ 20 20 20 a.2.1 b.2.1 ∧ (∀ i, i < 8 → a.2.2.1 2 i = b.2.2.1 2 i) ∧ (∀ i, i < 8 → a.2.2.1 3 i = b.2.2.1 3 i) ∧ (∀ i, i < 8 → a.2.2.1 4 i = b.2.2.1 4 i) ∧ (∀ i, i < 600 → a.2.2.2.1 i = b.2.2.2.1 i) ∧ (∀ i, i < 600 → a.2.2.1 6 i = b.2.2.1 6 i) ∧ a.2.2.2.2 = b.2.2.2.2
theorem at_I {D : va_G} {cl : List vw_C} {H : Heap} {q n : Nat} {cA : ClassId} {f g : Nat → Int32} (h : ∀ i, i < n → f i = g i) (ha : va_at D cl (q, .inl (cA, n, .inl f)) H) : va_at D cl (q, .inl (cA, n, .inl g)) H := by
  show H[q]? = some (vp_cell cA (n, .inl g))
  rw [← cellI_cong h]
  exact ha
theorem at_L {D : va_G} {cl : List vw_C} {H : Heap} {q n : Nat} {cA : ClassId} {f g : Nat → Int64} (h : ∀ i, i < n → f i = g i) (ha : va_at D cl (q, .inl (cA, n, .inr (.inl f))) H) : va_at D cl (q, .inl (cA, n, .inr (.inl g))) H := by
  show H[q]? = some (vp_cell cA (n, .inr (.inl g)))
  rw [← cellL_cong h]
  exact ha
theorem sw_SQ {D : va_G} {cl : List vw_C} {G : GX} {ad : Nat → Nat} {H : Heap} {a b : SS} (h : SQ a b) (hP : va_P D cl (sw G ad a) H) : va_P D cl (sw G ad b) H := by
  obtain ⟨⟨h1, h2, h3⟩, ⟨h4, h5, h6⟩, h7, h8, h9, h10, h11, h12⟩ := h
  intro k q hk
  match k, hk with
  | 0, hk => cases hk; rw [← h12]; exact hP 0 _ rfl
  | 1, hk => cases hk; exact hP 1 _ rfl
  | 2, hk => cases hk; exact at_I h1 (hP 2 _ rfl)
  | 3, hk => cases hk; exact at_I h2 (hP 3 _ rfl)
  | 4, hk => cases hk; exact at_I h3 (hP 4 _ rfl)
  | 5, hk => cases hk; exact hP 5 _ rfl
  | 6, hk => cases hk; exact at_I h4 (hP 6 _ rfl)
  | 7, hk => cases hk; exact at_I h5 (hP 7 _ rfl)
  | 8, hk => cases hk; exact at_I h6 (hP 8 _ rfl)
  | 9, hk => cases hk; exact at_I h7 (hP 9 _ rfl)
  | 10, hk => cases hk; exact at_I h8 (hP 10 _ rfl)
  | 11, hk => cases hk; exact at_I h9 (hP 11 _ rfl)
  | 12, hk => cases hk; exact at_L h10 (hP 12 _ rfl)
  | 13, hk => cases hk; exact at_I h11 (hP 13 _ rfl)
  | k + 14, hk => simp [sw] at hk
theorem va_P.right {D : va_G} {cl : List vw_C} {w1 w2 : va_W} {H : Heap} (h : va_P D cl (w1 ++ w2) H) : va_P D cl w2 H := fun k q hk => h (w1.length + k) q (by rw [List.getElem?_append_right (Nat.le_add_right _ _), Nat.add_sub_cancel_left]; exact hk)
theorem cpy_all {α : Type} {f g : Nat → α} {z n : Int32} {N i : Nat} (h : i < N) (hz : z.toNatClampNeg = 0) (hn : n.toNatClampNeg = N) : va_cpy f g z.toNatClampNeg z.toNatClampNeg n.toNatClampNeg i = f i := by
  rw [hz, hn, pk_cpy_in (Nat.zero_le i) (by omega)]
  simp
theorem copyX1 (u : OS × OS) : ∃ z, f_X1_copyFrom u = some z ∧ z.2 = u.2 ∧ OQ 600 9 300 z.1 u.2 := by
  unfold f_X1_copyFrom
  rw [if_pos (by decide), if_pos (by decide), if_pos (by decide)]
  exact ⟨_, rfl, rfl, fun i hi => cpy_all hi rfl rfl, fun i hi => cpy_all hi rfl rfl, fun i hi => cpy_all hi rfl rfl⟩
theorem copyX0 (u : OS × OS) : ∃ z, f_X0_copyFrom u = some z ∧ z.2 = u.2 ∧ OQ 20 20 20 z.1 u.2 := by
  unfold f_X0_copyFrom
  rw [if_pos (by decide), if_pos (by decide), if_pos (by decide)]
  exact ⟨_, rfl, rfl, fun i hi => cpy_all hi rfl rfl, fun i hi => cpy_all hi rfl rfl, fun i hi => cpy_all hi rfl rfl⟩
set_option maxHeartbeats 4000000 in
theorem copyX2 (u : SS × SS) : ∃ z, f_X2_copyFrom u = some z ∧ z.2 = u.2 ∧ SQ z.1 u.2 := by
  obtain ⟨z1, e1, e2, q1⟩ := copyX1 (u.1.1, u.2.1)
  obtain ⟨z1a, z1b⟩ := z1
  cases e2
  obtain ⟨z3, e3, e4, q3⟩ := copyX0 (u.1.2.1, u.2.2.1)
  obtain ⟨z3a, z3b⟩ := z3
  cases e4
  unfold f_X2_copyFrom
  rw [e1, Option.bind_some]
  have e3' : f_X0_copyFrom (((sO u.1 z1a), (sO u.2 u.2.1)).1.2.1, ((sO u.1 z1a), (sO u.2 u.2.1)).2.2.1) = some (z3a, u.2.2.1) := e3
  dsimp only at e3' ⊢
  rw [e3', Option.bind_some]
  rw [if_pos (by decide), if_pos (by decide), if_pos (by decide), if_pos (by decide), if_pos (by decide)]
  exact ⟨_, rfl, rfl, q1, q3, fun i hi => cpy_all hi rfl rfl, fun i hi => cpy_all hi rfl rfl, fun i hi => cpy_all hi rfl rfl, fun i hi => cpy_all hi rfl rfl, fun i hi => cpy_all hi rfl rfl, rfl⟩
theorem Met.post {l : Launch} {y : MethodName} {ws : List Cond} {rm : Room} {Pc : Array Value → State → Prop} {Qc Qc' : Array Value → State → Outcome → State → Prop} {mc ms : Nat} {free : Addr → Prop} (h : Met l y ws rm Pc Qc mc ms free) (hq : ∀ a st o t, Qc a st o t → Qc' a st o t) : Met l y ws rm Pc Qc' mc ms free := by
  intro p e ha hc hk s m args below hf h1 h2 h3
  obtain ⟨k, o, a1, a2, a3, a4, a5⟩ := h p e ha hc hk s m args below hf h1 h2 h3
  exact ⟨k, o, a1, a2, a3, hq _ _ _ _ a4, a5⟩
theorem copy_met {l : Launch} {G : GX} {ad : Nat → Nat} {u v : SS} : MW l yX2_copyFrom cX2_copyFrom 2 none rmX2_copyFrom G (sw2 G ad (u, v)) (sw2 G ad (v, v)) [.ref (ad 0), .ref (ad 20)] none := by
  obtain ⟨z, e1, e2, q⟩ := copyX2 (u, v)
  obtain ⟨za, zb⟩ := z
  cases e2
  refine Met.post (c_X2_copyFrom (l := l) (G := G) (ad := ad) e1) ?_
  rintro a st o t ⟨h1, h2, h3⟩
  exact ⟨h1, (sw_SQ q h2.left).app (va_P.right (w1 := sw G ad za) h2), h3⟩
