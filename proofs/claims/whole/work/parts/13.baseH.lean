/-! ===== two states side by side; the hall ===== -/
def sB (u : SS) (k : Nat) (f : Nat → Int32) : SS := (u.1, u.2.1, va_up u.2.2.1 k f, u.2.2.2)
def sM (u : SS) (f : Nat → Int64) : SS := (u.1, u.2.1, u.2.2.1, f, u.2.2.2.2)
def ow2 (G : GX) (ad : Nat → Nat) (u : OS × OS) : va_W := ow G ad u.1 ++ ow G (fun k => ad (k + 20)) u.2
def kw2 (G : GX) (ad : Nat → Nat) (u : OS × OS) : va_W := kw G ad u.1 ++ kw G (fun k => ad (k + 20)) u.2
def sw2 (G : GX) (ad : Nat → Nat) (u : SS × SS) : va_W := sw G ad u.1 ++ sw G (fun k => ad (k + 20)) u.2
theorem va_P_mem {D : va_G} {cl : List vw_C} {ws : va_W} {H : Heap} : va_P D cl ws H ↔ ∀ q ∈ ws, va_at D cl q H := by
  constructor
  · intro h q hq
    obtain ⟨k, hk⟩ := List.getElem?_of_mem hq
    exact h k q hk
  · intro h k q hk
    exact h q (List.mem_of_getElem? hk)
theorem va_D_iff {A : Nat → Prop} {ws : va_W} : va_D A ws ↔ (ws.map (fun q => q.1)).Nodup ∧ ∀ q ∈ ws, A q.1 := by
  constructor
  · intro h
    refine ⟨?_, fun q hq => ?_⟩
    · refine List.pairwise_iff_getElem.mpr ?_
      intro i j hi hj hij he
      have hj2 : j < ws.length := by simpa using hj
      have hi2 : i < ws.length := Nat.lt_trans hij hj2
      rw [List.getElem_map, List.getElem_map] at he
      have := h.1 i j _ _ (List.getElem?_eq_getElem hi2) (List.getElem?_eq_getElem hj2) he
      omega
    · obtain ⟨k, hk⟩ := List.getElem?_of_mem hq
      exact h.2 k q hk
  · rintro ⟨hn, ha⟩
    refine ⟨fun i j p q hi hj hpq => ?_, fun k q hk => ha q (List.mem_of_getElem? hk)⟩
    have hn := List.pairwise_iff_getElem.mp hn
    obtain ⟨hi2, ei⟩ := List.getElem?_eq_some_iff.mp hi
    obtain ⟨hj2, ej⟩ := List.getElem?_eq_some_iff.mp hj
    rcases Nat.lt_trichotomy i j with h | h | h
    · exact absurd (by rw [List.getElem_map, List.getElem_map, ei, ej]; exact hpq) (hn i j (by simpa using hi2) (by simpa using hj2) h)
    · exact h
    · exact absurd (by rw [List.getElem_map, List.getElem_map, ei, ej]; exact hpq.symm) (hn j i (by simpa using hj2) (by simpa using hi2) h)
theorem va_P.perm {D : va_G} {cl : List vw_C} {ws ws' : va_W} {H : Heap} (h : va_P D cl ws H) (hp : ws'.Perm ws) : va_P D cl ws' H := va_P_mem.mpr fun q hq => va_P_mem.mp h q (hp.mem_iff.mp hq)
theorem va_D.perm {A : Nat → Prop} {ws ws' : va_W} (h : va_D A ws) (hp : ws'.Perm ws) : va_D A ws' := by
  obtain ⟨h1, h2⟩ := va_D_iff.mp h
  exact va_D_iff.mpr ⟨(hp.map _).nodup_iff.mpr h1, fun q hq => h2 q (hp.mem_iff.mp hq)⟩
theorem va_D.left {A : Nat → Prop} {w1 w2 : va_W} (h : va_D A (w1 ++ w2)) : va_D A w1 := ⟨fun i j p q hi hj e => h.1 i j p q (idx_app hi) (idx_app hj) e, fun k q hk => h.2 k q (idx_app hk)⟩
theorem va_P.left {D : va_G} {cl : List vw_C} {w1 w2 : va_W} {H : Heap} (h : va_P D cl (w1 ++ w2) H) : va_P D cl w1 H := fun k q hk => h k q (idx_app hk)
/-- an array cell is told by its places -/
theorem arrV_cong {cA : ClassId} {n : Nat} {f g : Nat → Value} (h : ∀ i, i < n → f i = g i) : arrV cA n f = arrV cA n g := by
  unfold arrV
  congr 1
  apply Array.ext
  · simp
  · intro i h1 h2
    have h3 : i < n := by simpa using h1
    simp [h i h3]
theorem cellI_cong {cA : ClassId} {n : Nat} {f g : Nat → Int32} (h : ∀ i, i < n → f i = g i) : vp_cell cA (n, .inl f) = vp_cell cA (n, .inl g) := arrV_cong (fun i hi => congrArg Value.int (h i hi))
theorem cellL_cong {cA : ClassId} {n : Nat} {f g : Nat → Int64} (h : ∀ i, i < n → f i = g i) : vp_cell cA (n, .inr (.inl f)) = vp_cell cA (n, .inr (.inl g)) := arrV_cong (fun i hi => congrArg Value.long (h i hi))
/-- Hall: the addresses of now, those of what is kept; 3 newestSlot, 4 keptCount, 5 thingCount; passage; now; kept -/
abbrev HS : Type := (Nat → Nat) × (Nat → Nat → Nat) × (Nat → Int32) × (Nat → Int32) × SS × (Nat → SS)
def hI (u : HS) (k : Nat) (x : Int32) : HS := (u.1, u.2.1, va_up u.2.2.1 k x, u.2.2.2)
def hP (u : HS) (f : Nat → Int32) : HS := (u.1, u.2.1, u.2.2.1, f, u.2.2.2.2)
def hN (u : HS) (s : SS) : HS := (u.1, u.2.1, u.2.2.1, u.2.2.2.1, s, u.2.2.2.2.2)
def hK (u : HS) (f : Nat → SS) : HS := (u.1, u.2.1, u.2.2.1, u.2.2.2.1, u.2.2.2.2.1, f)
def hX (u : HS) (i : Nat) : HS := (u.2.1 i, va_up u.2.1 i u.1, u.2.2.1, u.2.2.2.1, u.2.2.2.2.2 i, va_up u.2.2.2.2.2 i u.2.2.2.2.1)
def kt (G : GX) (ak : Nat → Nat → Nat) (f : Nat → SS) : va_W := ((List.range 9).map (fun j => sw G (ak j) (f j))).flatten
def hx3 (G : GX) (ad : Nat → Nat) (u : HS) : va_W := [(ad 0, .inr (3, [.ref (ad 1), .ref (ad 2), .ref (u.1 0), .int (u.2.2.1 3), .int (u.2.2.1 4), .int (u.2.2.1 5)])), (ad 1, .inl (G.2.2.2, 9, .inr (.inr (.inr (.inr (fun i => some (u.2.1 i 0))))))), (ad 2, .inl (G.2.1, 600, .inl u.2.2.2.1))]
def hxw (G : GX) (ad : Nat → Nat) (u : HS) : va_W := hx3 G ad u ++ sw G u.1 u.2.2.2.2.1
def hw_ (G : GX) (ad : Nat → Nat) (u : HS) : va_W := hxw G ad u ++ kt G u.2.1 u.2.2.2.2.2
def QH (G : GX) (ws' : va_W) (A : Nat → Prop) (v : Option Value) : Array Value → State → Outcome → State → Prop := fun _ st o t => o = .returned v ∧ (va_P G.1 vcl ws' t.heap ∧ va_D A ws') ∧ va_F A st t
def MH (l : Launch) (y : MethodName) (cc : ByteArray) (n : Nat) (ret : Option FieldType) (rm : Room) (G : GX) (ws ws' : va_W) (av : List Value) (v : Option Value) : Prop := Met l y (wM y cc n ret) rm (va_Pc av (PW G ws)) (QH G ws' (aw ws) v) 0 0 (aw ws)
section BASEH
variable {p : Program} {l : Launch} {e : Env} {R : Room} {s : State} {m : MethodId} {args : Array Value} {below : List Frame} {meth : Method} {c : Code} {H : Heap} {locs : List Loc} {cells slots : Nat} {Q : State → Prop}
variable {G : GX} {A : Nat → Prop} {ws ws' : va_W} {cc : ByteArray} {nL pc : Nat} {y : MethodName} {ret : Option FieldType} {own : String} {ls : Array Slot} {rest : List Value}
theorem retH_i {r : Int32} (F : FX p m c cc nL s args y (some .int) own meth) (hw : WD G A s ws H locs) (hdg : decode cc pc = .ok (.ireturn, 1)) : W p l e R s m args below meth c H locs 0 0 (MQ below (QH G ws A (some (.int r))) args s 0 0 A) (F0 m pc ls [.int r]) :=
  W.iret F.1.1 F.1.2.1 F.2.1 (fun t ht _ => ⟨rfl, ⟨by rw [ht]; exact hw.2.1, hw.2.2.1⟩, hw.2.2.2.F ht⟩) hw.2.2.2.2.2 hdg F.2.2
theorem retH_v (F : FX p m c cc nL s args y none own meth) (hw : WD G A s ws H locs) (hdg : decode cc pc = .ok (.return_, 1)) : W p l e R s m args below meth c H locs 0 0 (MQ below (QH G ws A none) args s 0 0 A) (F0 m pc ls []) :=
  W.vret F.1.1 F.1.2.1 F.2.1 (fun t ht _ => ⟨rfl, ⟨by rw [ht]; exact hw.2.1, hw.2.2.1⟩, hw.2.2.2.F ht⟩) hw.2.2.2.2.2 hdg F.2.2
theorem callH {v : Option Value} {a : Array Value} {g : JFrame} {A1 : Nat → Prop} {H0 : Heap} (hr : va_Run p l e R s m args below meth c H locs cells slots 0 0 g rest (QH G ws' A1 v a) A1) (hS : va_S A H0 H locs) (hA : ∀ q, A1 q → A q)
    (kk : ∀ (H1 : Heap) (locs1 : List Loc), va_P G.1 vcl ws' H1 → va_D A ws' → (∀ q : Nat, q < H.size → ¬ A1 q → H1[q]? = H[q]?) → va_S A H0 H1 locs1 → W p l e R s m args below meth c H1 locs1 cells slots Q { g with pc := g.pc + 3, stack := v.toList ++ rest }) : W p l e R s m args below meth c H locs cells slots Q g := by
  intro T hT X
  obtain ⟨v', st₀, t, T', L, h0, X', hL, e1, -, ⟨hv, ⟨hP, hD⟩, hz, hk⟩, st⟩ := hr T hT X
  cases hv
  rw [h0] at hz hk
  obtain ⟨t2, a1, b1⟩ := kk T'.heap (locs ++ L) (by rw [e1]; exact hP) (hD.weaken (fun k q _ h => hA q.1 h)) (fun q h1 h2 => by rw [e1]; exact hk q h1 h2)
    ⟨Nat.le_trans hS.1 (by rw [e1]; exact hz), fun q h1 h2 => by rw [e1, hk q (Nat.lt_of_lt_of_le h1 hS.1) (fun z => h2 (hA q z))]; exact hS.2.1 q h1 h2, fun q hq => by
      rcases List.mem_append.mp hq with h | h
      · exact hS.2.2 q h
      · exact hA _ (hL q h)⟩ T' rfl X'
  exact ⟨t2, st t2 a1, b1⟩
theorem MH.of {n : Nat} {rm : Room} {av : List Value} {v : Option Value} (hy : plainName y.cls = true) (hn : (lg_sl av).length ≤ n)
    (body : ∀ (p : Program) (e : Env) (s : State) (m : MethodId) (below : List Frame) (meth : Method) (c : Code) (ls : Array Slot), FX p m c cc n s av.toArray y ret y.cls meth → WD G (aw ws) s ws s.heap [] → lv_has ls n (lv_args 0 av) →
      W p l e rm s m av.toArray below meth c s.heap [] 0 0 (MQ below (QH G ws' (aw ws) v) av.toArray s 0 0 (aw ws)) (F0 m 0 ls [])) : MH l y cc n ret rm G ws ws' av v := by
  refine Met.ofW (cc := cc) (maxL := n) (ret := ret) hy rfl ?_
  intro p e s m args below meth c s₁ B hml hv
  obtain ⟨rfl, hP, hK, hD⟩ := hv
  rw [lg_entry_eq]
  exact body p e s m below meth c _ ⟨⟨B.exec, B.bytes, hml, findClass_of_methodNamed B.named, atoms_spec (ws := wM y cc n ret) B.pre⟩, B.returns, B.notSynchronized⟩ ⟨hK, hP, hD.own, va_S.rf⟩ (lv_entry av hn)
end BASEH
-- blocks of the hall, exchanged
theorem range_split {i : Nat} (h : i < 9) : List.range 9 = List.range i ++ i :: (List.range' (i + 1) (8 - i)) := by
  match i, h with
  | 0, _ => rfl
  | 1, _ => rfl
  | 2, _ => rfl
  | 3, _ => rfl
  | 4, _ => rfl
  | 5, _ => rfl
  | 6, _ => rfl
  | 7, _ => rfl
  | 8, _ => rfl
/-- what is kept, but for one -/
def ko (G : GX) (ak : Nat → Nat → Nat) (f : Nat → SS) (i : Nat) : va_W := ((List.range i).map (fun j => sw G (ak j) (f j))).flatten ++ ((List.range' (i + 1) (8 - i)).map (fun j => sw G (ak j) (f j))).flatten
theorem kt_perm {G : GX} {ak : Nat → Nat → Nat} {f : Nat → SS} {i : Nat} (h : i < 9) : (kt G ak f).Perm (sw G (ak i) (f i) ++ ko G ak f i) := by
  unfold kt ko
  rw [range_split h, List.map_append, List.map_cons, List.flatten_append, List.flatten_cons]
  exact List.perm_append_comm_assoc _ _ _
theorem ko_up {G : GX} {ak : Nat → Nat → Nat} {f : Nat → SS} {i : Nat} {a : Nat → Nat} {x : SS} : ko G (va_up ak i a) (va_up f i x) i = ko G ak f i := by
  unfold ko
  congr 2
  · apply List.map_congr_left
    intro j hj
    have : j ≠ i := by have := List.mem_range.mp hj; omega
    rw [va_up_ne _ _ this, va_up_ne _ _ this]
  · apply List.map_congr_left
    intro j hj
    have : j ≠ i := by have := List.mem_range'.mp hj; omega
    rw [va_up_ne _ _ this, va_up_ne _ _ this]
theorem ko_up1 {G : GX} {ak : Nat → Nat → Nat} {f : Nat → SS} {i : Nat} {x : SS} : ko G ak (va_up f i x) i = ko G ak f i := by
  have h := ko_up (G := G) (ak := ak) (f := f) (i := i) (a := ak i) (x := x)
  rwa [show va_up ak i (ak i) = ak from funext fun j => by by_cases hj : j = i <;> simp [va_up, hj]] at h
