/-! ===== the model: comeByLabel ===== -/
theorem core_1 {v : MS} : (core v).1 = v.2.1 := rfl
theorem core_2 {v : MS} : (core v).2.1 = v.2.2 := rfl
theorem core_3 {v : MS} : (core v).2.2 = v.1 15 := rfl
def labs (B : BL) : List Nat := B.map Prod.fst
def idss (B : BL) : List (List Nat) := B.map Prod.snd
/-- a new block ids at place p, with the labels L -/
def nbl (B : BL) (p : Nat) (ids : List Nat) (L : List Nat) : BL := L.zip (ins (idss B) p ids)
def xNew (x : XS) (r p : Nat) (ids : List Nat) (R : List Nat × Nat) : XS := (xk x, xw x, gup (xg x) r R.2, va_up (xb x) r (nbl (xb x r) p ids R.1), xi x, xm x, xr x + nI (R.2 - 1))
theorem labs_len {B : BL} : (labs B).length = B.length := List.length_map _
theorem idss_len {B : BL} : (idss B).length = B.length := List.length_map _
theorem labs_gD {B : BL} {i : Nat} (h : i < B.length) : (labs B).getD i 0 = (B.getD i (0, [])).1 := by
  rw [gD (by rw [labs_len]; exact h), gD h]
  unfold labs
  rw [List.getElem_map]
theorem idss_gD {B : BL} {i : Nat} (h : i < B.length) : (idss B).getD i [] = (B.getD i (0, [])).2 := by
  rw [gD (by rw [idss_len]; exact h), gD h]
  unfold idss
  rw [List.getElem_map]
section NBL
variable {B : BL} {p : Nat} {ids L : List Nat}
theorem nbl_len (hp : p ≤ B.length) (hL : L.length = B.length + 1) : (nbl B p ids L).length = B.length + 1 := by
  unfold nbl
  rw [List.length_zip, ins_len (by rw [idss_len]; exact hp), idss_len, hL, Nat.min_self]
theorem nbl_labs (hp : p ≤ B.length) (hL : L.length = B.length + 1) : labs (nbl B p ids L) = L := by
  unfold labs nbl
  rw [List.map_fst_zip]
  rw [ins_len (by rw [idss_len]; exact hp), idss_len, hL]
  exact Nat.le_refl _
theorem nbl_idss (hp : p ≤ B.length) (hL : L.length = B.length + 1) : idss (nbl B p ids L) = ins (idss B) p ids := by
  show List.map Prod.snd (nbl B p ids L) = _
  unfold nbl
  rw [List.map_snd_zip]
  rw [ins_len (by rw [idss_len]; exact hp), idss_len, hL]
  exact Nat.le_refl _
theorem nbl_gD (hp : p ≤ B.length) (hL : L.length = B.length + 1) {i : Nat} (hi : i < B.length + 1) : (nbl B p ids L).getD i (0, []) = (L.getD i 0, (ins (idss B) p ids).getD i []) := by
  have hl := nbl_len (ids := ids) hp hL
  have e1 := labs_gD (B := nbl B p ids L) (i := i) (by omega)
  have e2 := idss_gD (B := nbl B p ids L) (i := i) (by omega)
  rw [nbl_labs hp hL] at e1
  rw [nbl_idss hp hL] at e2
  rw [e1, e2]
theorem idl_idss : idl B = (idss B).flatten := rfl
theorem nbl_idl (hp : p ≤ B.length) (hL : L.length = B.length + 1) : idl (nbl B p ids L) = ((idss B).take p).flatten ++ (ids ++ ((idss B).drop p).flatten) := by
  rw [idl_idss, nbl_idss hp hL]
  unfold ins
  rw [List.flatten_append, List.flatten_cons]
end NBL
/-! rows without blocks: each stands alone -/
theorem one_len {B : BL} (h : ∀ b ∈ B, b.2.length = 1) : (idl B).length = B.length := by
  induction B with
  | nil => rfl
  | cons b B ih =>
    rw [idl_cons, List.length_append, List.length_cons, ih (fun c hc => h c (List.mem_cons_of_mem _ hc)), h b List.mem_cons_self]
    omega
theorem one_take {B : BL} (h : ∀ b ∈ B, b.2.length = 1) : ∀ p, ((idss B).take p).flatten = (idl B).take p ∧ ((idss B).drop p).flatten = (idl B).drop p := by
  induction B with
  | nil => intro p; simp [idss, idl]
  | cons b B ih =>
    intro p
    have h2 := ih (fun c hc => h c (List.mem_cons_of_mem _ hc))
    obtain ⟨d, hd⟩ := List.length_eq_one_iff.mp (h b List.mem_cons_self)
    rw [idl_cons, hd]
    match p with
    | 0 =>
      refine ⟨rfl, ?_⟩
      have := (h2 0).2
      simp only [List.drop_zero] at this ⊢
      show (b.2 :: idss B).flatten = _
      rw [List.flatten_cons, hd, this]
    | p + 1 =>
      have e1 := (h2 p).1
      have e2 := (h2 p).2
      constructor
      · show ((b.2 :: idss B).take (p + 1)).flatten = _
        rw [List.take_succ_cons, List.flatten_cons, hd, e1]
        rfl
      · show ((b.2 :: idss B).drop (p + 1)).flatten = _
        rw [List.drop_succ_cons, e2]
        rfl
theorem one_gD {B : BL} (h : ∀ b ∈ B, b.2.length = 1) {i : Nat} (hi : i < B.length) : (B.getD i (0, [])).2 = [(idl B).getD i 0] := by
  induction B generalizing i with
  | nil => exact absurd hi (Nat.not_lt_zero _)
  | cons b B ih =>
    obtain ⟨d, hd⟩ := List.length_eq_one_iff.mp (h b List.mem_cons_self)
    rw [idl_cons, hd]
    match i with
    | 0 => exact hd
    | i + 1 => exact ih (fun c hc => h c (List.mem_cons_of_mem _ hc)) (by simpa using hi)
theorem one_nbl {B : BL} {p d : Nat} {L : List Nat} (h : ∀ b ∈ B, b.2.length = 1) (hp : p ≤ B.length) (hL : L.length = B.length + 1) : idl (nbl B p [d] L) = ins (idl B) p d ∧ ∀ b ∈ nbl B p [d] L, b.2.length = 1 := by
  constructor
  · rw [nbl_idl hp hL, (one_take h p).1, (one_take h p).2]
    rfl
  · intro b hb
    have : b.2 ∈ idss (nbl B p [d] L) := List.mem_map.mpr ⟨b, hb, rfl⟩
    rw [nbl_idss hp hL, ins_mem] at this
    rcases this with e | e
    · rw [e]; rfl
    · obtain ⟨c, hc, e⟩ := List.mem_map.mp e
      rw [← e]; exact h c hc
/-! values given to those who stand -/
def asg {α : Type} (f : Nat → α) (ids : List Nat) (g : Nat → α) (i : Nat) : Nat → α := fun d => if d ∈ ids.take i then g (pos ids d) else f d
theorem asg_0 {α : Type} {f : Nat → α} {ids : List Nat} {g : Nat → α} : asg f ids g 0 = f := by
  funext d
  unfold asg
  rw [List.take_zero, if_neg List.not_mem_nil]
theorem asg_at {α : Type} {f : Nat → α} {ids : List Nat} {g : Nat → α} {d : Nat} (h : d ∈ ids) : asg f ids g ids.length d = g (pos ids d) := by
  unfold asg
  rw [List.take_length, if_pos h]
theorem asg_no {α : Type} {f : Nat → α} {ids : List Nat} {g : Nat → α} {i d : Nat} (h : d ∉ ids) : asg f ids g i d = f d := if_neg (fun q => h (List.mem_of_mem_take q))
theorem asg_mem {ids : List Nat} {i d : Nat} (hi : i < ids.length) : d ∈ ids.take (i + 1) ↔ d ∈ ids.take i ∨ d = ids.getD i 0 := by
  rw [take_s hi, List.mem_append, List.mem_singleton]
theorem asg_sL {f : Nat → Int64} {ids : List Nat} {g : Nat → Int64} {i : Nat} (hn : ids.Nodup) (hi : i < ids.length) : vp_updL (asg f ids g i) (ids.getD i 0) (g i) = asg f ids g (i + 1) := by
  funext d
  by_cases e : d = ids.getD i 0
  · subst e
    unfold asg
    rw [pk_uLs, if_pos ((asg_mem hi).mpr (Or.inr rfl)), pos_of hn hi]
  · rw [pk_uLn e]
    unfold asg
    by_cases q : d ∈ ids.take i
    · rw [if_pos q, if_pos ((asg_mem hi).mpr (Or.inl q))]
    · rw [if_neg q, if_neg (fun z => ((asg_mem hi).mp z).elim q e)]
theorem asg_s {f : Nat → Int32} {ids : List Nat} {g : Nat → Int32} {i : Nat} (hn : ids.Nodup) (hi : i < ids.length) : upd (asg f ids g i) (ids.getD i 0) (g i) = asg f ids g (i + 1) := by
  funext d
  by_cases e : d = ids.getD i 0
  · subst e
    unfold asg
    rw [pk_us, if_pos ((asg_mem hi).mpr (Or.inr rfl)), pos_of hn hi]
  · rw [pk_un e]
    unfold asg
    by_cases q : d ∈ ids.take i
    · rw [if_pos q, if_pos ((asg_mem hi).mpr (Or.inl q))]
    · rw [if_neg q, if_neg (fun z => ((asg_mem hi).mp z).elim q e)]
/-- rows no longer than can be -/
def RwL (x : XS) : Prop := ∀ s, s < 8 → (idl (xb x s)).length ≤ 600 ∧ (xb x s).length ≤ 600
theorem RwL_of {T : Nat} {x : XS} (hI : Inv T x) : RwL x := by
  intro s hs
  have hl : (idl (xb x s)).length ≤ 600 := len600 hI hs
  have hl2 := bl_len2 (bl_ne hI hs)
  exact ⟨hl, by omega⟩
/-- the rest of the hall stays -/
theorem MA_set {v v' : MS} {x x' : XS} {r : Nat} (hM : MA (core v) x) (hI : RwL x) (hr : r < 8)
    (hrow : MR (core v') (xk x' r) (xw x' r) (xg x' r) (xb x' r) (xi x') r)
    (hx : ∀ s, s ≠ r → xk x' s = xk x s ∧ xw x' s = xw x s ∧ xg x' s = xg x s ∧ xb x' s = xb x s)
    (h1 : ∀ s j, s ≠ r → (j = 2 ∨ j = 3 ∨ j = 4 ∨ j = 5 ∨ j = 6) → v'.2.1 j s = v.2.1 j s)
    (h2 : ∀ j, (j < 600 * r ∨ 600 * r + 600 ≤ j) → v'.2.1 7 j = v.2.1 7 j ∧ v'.2.1 8 j = v.2.1 8 j ∧ v'.2.2 9 j = v.2.2 9 j)
    (h3 : ∀ s, s < 8 → s ≠ r → ∀ d ∈ sq x s, v'.2.2 10 d = v.2.2 10 d ∧ v'.2.1 11 d = v.2.1 11 d ∧ xi x' d = xi x d)
    (hm : xm x' = xm x) (h12 : v'.2.1 12 = v.2.1 12) (h13 : v'.2.1 13 = v.2.1 13) (h14 : v'.2.1 14 = v.2.1 14) (hren : v'.1 15 = xr x') : MA (core v') x' := by
  rw [MA_iff] at hM ⊢
  obtain ⟨a, b, c⟩ := hM
  refine ⟨fun s hs => ?_, ?_, hren⟩
  · by_cases e : s = r
    · subst e; exact hrow
    · obtain ⟨e1, e2, e3, e4⟩ := hx s e
      rw [e1, e2, e3, e4]
      exact MR_fr (a s hs) (hI s hs).1 (hI s hs).2 (fun j hj => h1 s j e hj) (fun i hi => h2 (600 * s + i) (by omega)) (fun d hd => h3 s hs e d hd)
  · intro m hm2
    obtain ⟨b1, b2, b3⟩ := b m hm2
    rw [hm]
    exact ⟨by rw [← b1]; exact congrFun h12 m, by rw [← b2]; exact congrFun h13 m, by rw [← b3]; exact congrFun h14 m⟩
/-- a row that is there -/
theorem row_ok {T : Nat} {x : XS} (hI : Inv T x) {r : Nat} (hr : r < 8) (hk : xk x r ≠ -1) : ∃ k w, k < 4 ∧ xk x r = nI k ∧ 4 ≤ w ∧ w ≤ 40 ∧ xw x r = nI w ∧ (labs (xb x r)).Pairwise (· < ·) ∧ (∀ d ∈ labs (xb x r), d < 2 ^ w) ∧ (∀ b ∈ xb x r, b.2 ≠ []) ∧ (k < 2 → ∀ b ∈ xb x r, b.2.length = 1) ∧ (2 ≤ k → ∀ b ∈ xb x r, b.2.length ≤ 8 ∧ b.2.Pairwise (fun p q => xi x p < xi x q) ∧ ∀ d ∈ b.2, xi x d < 256) := by
  rcases hI.2.1 r hr with ⟨h, -⟩ | ⟨⟨k, hk4, ek⟩, w, w1, w2, ew, h1, h2, h3, h4⟩
  · exact absurd h hk
  · refine ⟨k, w, hk4, ek, w1, w2, ew, List.pairwise_map.mpr h1, fun d hd => ?_, fun b hb => (h2 b hb).2, fun h => h3 (fun q => ?_), fun h => h4 ?_⟩
    · obtain ⟨b, hb, rfl⟩ := List.mem_map.mp hd
      exact (h2 b hb).1
    · rw [ek] at q
      have : (2 : Nat) ≤ k := (nI_leI (a := 2) (by omega) (by omega)).mp q
      omega
    · rw [ek]; exact nI_le (a := 2) h (by omega)
section CBL
variable {v : MS} {x : XS} {T r : Nat}
theorem p_hand13 (hM : MA (core v) x) (hI : Inv T x) (hr : r < 8) (h1 : ∀ b ∈ xb x r, b.2.length = 1) (h2 : ¬ 2 ≤ xk x r) (x2 x3 : Int32) (hv : v.1 22 = nI (sq x r).length) : ∃ v' m, f_X4_comeByLabel_13 NF (nI r) x2 x3 0 v = f_X4_comeByLabel_13 (m + 1) (nI r) x2 x3 (nI (sq x r).length) v' ∧ Fm [] [] [21] v v' ∧ HD v' (labs (xb x r)) := by
  have hl : (sq x r).length = (xb x r).length := one_len h1
  have h6 := len600 hI hr
  obtain ⟨m, hm⟩ : ∃ m, NF = m + 1 + (sq x r).length := ⟨19999 - (sq x r).length, by rw [NF_eq]; omega⟩
  refine ⟨wB v 21 (pt (v.2.2 21) (fun i => lN ((labs (xb x r)).getD i 0)) 0 (sq x r).length), m, ?_, Fm.rf.wB (by decide), by rw [wB_1, hv, labs_len, hl], fun i hi => ?_⟩
  · rw [hm]
    have key : ∀ i, i ≤ (sq x r).length → f_X4_comeByLabel_13 (m + 1 + (sq x r).length) (nI r) x2 x3 0 v = f_X4_comeByLabel_13 (m + 1 + ((sq x r).length - i)) (nI r) x2 x3 (nI i) (wB v 21 (pt (v.2.2 21) (fun i => lN ((labs (xb x r)).getD i 0)) 0 i)) := by
      intro i
      induction i with
      | zero => intro _; rw [pt_0, wB_id]; rfl
      | succ i ih =>
        intro hi
        have h := pt_sL (v.2.2 21) (fun i => lN ((labs (xb x r)).getD i 0)) 0 i
        rw [Nat.zero_add] at h
        have e7 : v.2.1 7 (600 * r + i) = nI ((sq x r).getD i 0) := hM.2.2.1 r hr i (by omega)
        have hd := sq_lt hI hr (getD_mem (l := sq x r) (i := i) (by omega))
        have e10 : v.2.2 10 ((sq x r).getD i 0) = lN ((labs (xb x r)).getD i 0) := by
          rw [labs_gD (by omega)]
          refine hM.2.2.2.1 r hr h2 ((xb x r).getD i (0, [])) (by rw [gD (show i < (xb x r).length by omega)]; exact List.getElem_mem _) _ ?_
          rw [one_gD h1 (by omega)]
          exact List.mem_singleton.mpr rfl
        rw [ih (by omega), show m + 1 + ((sq x r).length - i) = (m + 1 + ((sq x r).length - (i + 1))) + 1 from by omega, f_X4_comeByLabel_13, wB_1, hv]
        simp (disch := omega) only [ix_nI, nI_clamp, le_L, le_R, lt_L, lt_R, eq_L, eq_R, ad_L, sb_L, ml_L, nI_leI, nI_ltI, nI_eq, nI_add, pk_mul, nI_m1, if_true, if_false, if_pos, if_neg, Option.bind_some, mA_at, mA_i, mA_k, mA_1, mA_22, mF_at, mF_ne, mF_2, mB_at, mB_i, mB_k, mB_1, mB_21, wB_k, wB_21, mB_wB, e7, e10]
        rw [h]
    have := key (sq x r).length (Nat.le_refl _)
    rw [this, Nat.sub_self, Nat.add_zero]
  · rw [labs_len, ← hl] at hi
    rw [wB_at, pt_in (by omega) (by omega), Nat.sub_zero]
theorem p_give94 {ids L : List Nat} (hr : r < 8) (hv : HD v L) (hl : L.length = ids.length) (h6 : ids.length ≤ 600) (hn : ids.Nodup) (h7 : ∀ i, i < ids.length → v.2.1 7 (600 * r + i) = nI (ids.getD i 0)) (hd : ∀ d ∈ ids, d < 600) : f_X4_comeByLabel_94 NF (nI r) 1 0 v = some (1, wB v 10 (asg (v.2.2 10) ids (fun i => lN (L.getD i 0)) ids.length)) := by
  have e0 : v = wB v 10 (asg (v.2.2 10) ids (fun i => lN (L.getD i 0)) 0) := by rw [asg_0, wB_id]
  refine Eq.trans (congrArg (f_X4_comeByLabel_94 NF (nI r) 1 0) e0) ?_
  refine loopE (fun m i => f_X4_comeByLabel_94 m (nI r) 1 (nI i) (wB v 10 (asg (v.2.2 10) ids (fun i => lN (L.getD i 0)) i))) (a := 0) (b := ids.length) (Nat.zero_le _) (NF_lt (by omega)) (fun m i h1 h2 => ?_) (fun m => ?_)
  · have h := asg_sL (f := v.2.2 10) (g := fun i => lN (L.getD i 0)) hn h2
    have hm := hd _ (getD_mem h2)
    rw [f_X4_comeByLabel_94, wB_1, hv.1, hl, wB_21]
    simp (disch := omega) only [ix_nI, nI_clamp, le_L, le_R, lt_L, lt_R, eq_L, eq_R, ad_L, sb_L, ml_L, nI_leI, nI_ltI, nI_eq, nI_add, pk_mul, nI_m1, if_true, if_false, if_pos, if_neg, Option.bind_some, mA_at, mA_i, mA_k, mA_1, mA_22, mF_at, mF_ne, mF_2, mB_at, mB_i, mB_k, mB_1, mB_21, wB_k, mB_wB, hv.2, h7 i h2]
    rw [h]
  · rw [f_X4_comeByLabel_94, wB_1, hv.1, hl, if_pos (nI_le (Nat.le_refl _) (by omega)), if_pos (by decide)]
theorem ins_nd {l : List Nat} {p d : Nat} (h : l.Nodup) (hd : d ∉ l) : (ins l p d).Nodup := by
  have h1 : (l.take p ++ l.drop p).Nodup := by rw [List.take_append_drop]; exact h
  unfold ins
  rw [List.nodup_append] at h1 ⊢
  obtain ⟨a, b, c⟩ := h1
  refine ⟨a, List.nodup_cons.mpr ⟨fun q => hd (List.mem_of_mem_drop q), b⟩, fun y hy z hz => ?_⟩
  rcases List.mem_cons.mp hz with e | e
  · subst e; exact fun q => hd (q ▸ List.mem_of_mem_take hy)
  · exact c y hy z e
/-- one that may come: it stands nowhere -/
def Out (x : XS) (d : Nat) : Prop := d < 600 ∧ ∀ s, s < 8 → d ∉ sq x s
theorem p_comeByLabel (hM : MA (core v) x) (hI : Inv T x) (hr : r < 8) {k w p d : Nat} (hk : xk x r = nI k) (hk2 : k < 2) (hd : Out x d) (hp : p ≤ (sq x r).length) (h6 : (sq x r).length < 600) (hw : xw x r = nI w) (hw4 : 4 ≤ w) (hw40 : w ≤ 40) (hs : (labs (xb x r)).Pairwise (· < ·)) (hL : ∀ d ∈ labs (xb x r), d < 2 ^ w) (h1 : ∀ b ∈ xb x r, b.2.length = 1) :
    (plc (k == 0) w (labs (xb x r)) p = none → ∃ v', f_X4_comeByLabel (nI r) (nI p) (nI d) v = some (0, v') ∧ Fm [15, 22] [4, 5, 6, 7, 8, 11] [9, 10, 21] v v') ∧ ∀ R, plc (k == 0) w (labs (xb x r)) p = some R → ∃ v', f_X4_comeByLabel (nI r) (nI p) (nI d) v = some (1, v') ∧ Fm [15, 22] [4, 5, 6, 7, 8, 11] [9, 10, 21] v v' ∧ MA (core v') (xNew x r p [d] R) := by
  have hl : (sq x r).length = (xb x r).length := one_len h1
  have h2 : ¬ 2 ≤ xk x r := by rw [hk, le_L (by omega) (by decide)]; omega
  have e4 : v.2.1 4 r = nI (sq x r).length := hM.2.1 r hr
  have e2 : v.2.1 2 r = nI k := by rw [← hk]; exact (hM.1 r hr).1
  have e3 : v.2.1 3 r = nI w := by rw [← hw]; exact (hM.1 r hr).2.1
  have hMF : MA (core (mF v 22 (nI (sq x r).length))) x := by
    have : core (mF v 22 (nI (sq x r).length)) = core v := by unfold core mF; dsimp only; rw [va_up_ne _ _ (by decide)]
    rw [this]; exact hM
  obtain ⟨v1, m, g1, f1, hd1⟩ := p_hand13 (v := mF v 22 (nI (sq x r).length)) hMF hI hr h1 h2 (nI p) (nI d) mF_at
  have f1' : Fm [22] [] [21] v v1 := (Fm.rf.pF (by decide) : Fm [22] [] [21] v (mF v 22 (nI (sq x r).length))).tr (f1.up (by decide) (by decide) (by decide))
  have hdl : (labs (xb x r)).length = (sq x r).length := by rw [labs_len, hl]
  have t1 := p_tight (v := v1) (r := r) (p := p) (w := w) hd1 hr (by rw [f1'.2.1 3 (by decide)]; exact e3) hw40 (by omega) (by omega) hs hL
  have t2 := p_spread (v := v1) (r := r) (p := p) (w := w) hd1 hr (by rw [f1'.2.1 3 (by decide)]; exact e3) (by omega) hw40 (by omega) (by omega) hs hL
  have hv2 : v1.2.1 2 r = nI k := by rw [f1'.2.1 2 (by decide)]; exact e2
  have hg : ∃ F : Option (Int32 × MS), f_X4_comeByLabel (nI r) (nI p) (nI d) v = F.bind (fun z => (if z.1 = 0 then (if zb z.1 = true then some (z.1, z.2) else none) else (f_X4_shift (nI r) (nI p) (nI d) z.2).bind (fun z15 => f_X4_comeByLabel_94 NF (nI r) z.1 0 z15))) ∧ (plc (k == 0) w (labs (xb x r)) p = none → F = some (0, v1)) ∧ ∀ R, plc (k == 0) w (labs (xb x r)) p = some R → ∃ v', F = some (1, v') ∧ PO r v1 v' R := by
    have g0 : f_X4_comeByLabel (nI r) (nI p) (nI d) v = f_X4_comeByLabel_13 (m + 1) (nI r) (nI p) (nI d) (nI (sq x r).length) v1 := by
      unfold f_X4_comeByLabel
      rw [if_pos (ix_nI hr (by omega)), nI_clamp (by omega), e4, g1]
    rw [g0, f_X4_comeByLabel_13, hd1.1, hdl, if_pos (nI_le (Nat.le_refl _) (by omega)), if_pos (ix_nI hr (by omega)), nI_clamp (by omega), hv2]
    by_cases k0 : k = 0
    · subst k0
      refine ⟨f_X4_tight (nI r) (nI p) v1, ?_, t1⟩
      rw [if_pos nI_0]
    · have : (k == 0) = false := by simpa using k0
      rw [this]
      refine ⟨f_X4_spread (nI r) (nI p) v1, ?_, t2⟩
      rw [if_neg (nI_ne0 (by omega) (by omega))]
  obtain ⟨F, hF, hF0, hF1⟩ := hg
  refine ⟨fun h => ⟨v1, ?_, f1'.up (by decide) (by decide) (by decide)⟩, fun R h => ?_⟩
  · rw [hF, hF0 h, Option.bind_some, if_pos rfl, if_pos (show zb 0 = true by decide)]
  · obtain ⟨v2, g2, f2, hd2, h15, h5⟩ := hF1 R h
    obtain ⟨-, -, hRl⟩ := plc_ok (by omega) hs hL (by omega) h
    have f2' : Fm [15, 22] [5] [21] v v2 := (f1'.up (by decide) (by decide) (by decide)).tr f2
    have e42 : v2.2.1 4 r = nI (sq x r).length := by rw [f2'.2.1 4 (by decide)]; exact e4
    have g3 := p_shift (v := v2) (y := nI d) hr e42 hp h6
    have hnd := ins_nd (p := p) (hI.2.2.1 r hr) (hd.2 r hr)
    have hlen := ins_len (y := d) hp
    have hone := one_nbl (d := d) h1 (show p ≤ (xb x r).length by omega) (show R.1.length = (xb x r).length + 1 by rw [hRl, labs_len])
    have i7 : ∀ i, i < (ins (sq x r) p d).length → (mA (mA (wA v2 7 (shO (v2.2.1 7) (600 * r) p (sq x r).length)) 7 (600 * r + p) (nI d)) 4 r (nI ((sq x r).length + 1))).2.1 7 (600 * r + i) = nI ((ins (sq x r) p d).getD i 0) := by
      intro i hi
      rw [hlen] at hi
      rw [mA_k (by decide)]
      rcases Nat.lt_trichotomy i p with z | z | z
      · rw [mA_i (by omega), wA_at, shO_lt (by omega), f2'.2.1 7 (by decide), ins_lt hp z]
        exact hM.2.2.1 r hr i (by omega)
      · subst z; rw [mA_at, ins_at hp]
      · rw [mA_i (by omega), wA_at, shO_gt z (by omega), f2'.2.1 7 (by decide), ins_gt hp z]
        exact hM.2.2.1 r hr (i - 1) (by omega)
    have g4 := p_give94 (v := mA (mA (wA v2 7 (shO (v2.2.1 7) (600 * r) p (sq x r).length)) 7 (600 * r + p) (nI d)) 4 r (nI ((sq x r).length + 1))) (ids := ins (sq x r) p d) hr hd2 (by rw [hRl, hlen, hdl]) (by omega) hnd i7 (fun z hz => by
      rcases ins_mem.mp hz with e | e
      · rw [e]; exact hd.1
      · exact sq_lt hI hr e)
    refine ⟨_, by rw [hF, g2, Option.bind_some, if_neg (show ¬ (1 : Int32) = 0 by decide), g3, Option.bind_some, g4], ?_, ?_⟩
    · exact ((((f2'.up (by decide) (by decide) (by decide)).wA (by decide)).pA (by decide)).pA (by decide)).wB (by decide)
    · have hk' : xk (xNew x r p [d] R) = xk x := rfl
      have hw' : xw (xNew x r p [d] R) = xw x := rfl
      have hg' : xg (xNew x r p [d] R) = gup (xg x) r R.2 := rfl
      have hb' : xb (xNew x r p [d] R) = va_up (xb x) r (nbl (xb x r) p [d] R.1) := rfl
      have hgx : ∀ s, s < 8 → gup (v.2.1 5) r R.2 s = gup (xg x) r R.2 s := by
        intro s hs8
        have e5 : ∀ s, s < 8 → v.2.1 5 s = xg x s := fun s hs8 => (hM.1 s hs8).2.2
        unfold gup
        split
        · exact e5 s hs8
        · by_cases q : s = r
          · subst q; rw [pk_us, pk_us, e5 s hs8]
          · rw [pk_un q, pk_un q, e5 s hs8]
      refine MA_set hM (RwL_of hI) hr ?_ ?_ ?_ ?_ ?_ rfl ?_ ?_ ?_ ?_
      · rw [hk', hw', hg', hb', va_up_self]
        refine ⟨⟨?_, ?_, ?_⟩, ?_, ?_, ?_, fun q => absurd q h2, fun q => absurd q h2⟩
        · rw [core_1, wB_21, mA_k (by decide), mA_k (by decide), wA_k (by decide), f2'.2.1 2 (by decide)]
          exact (hM.1 r hr).1
        · rw [core_1, wB_21, mA_k (by decide), mA_k (by decide), wA_k (by decide), f2'.2.1 3 (by decide)]
          exact (hM.1 r hr).2.1
        · rw [core_1, wB_21, mA_k (by decide), mA_k (by decide), wA_k (by decide), h5, f1'.2.1 5 (by decide)]
          exact hgx r hr
        · rw [core_1, wB_21, mA_at, hone.1, hlen.symm]
          rfl
        · intro i hi
          rw [hone.1] at hi ⊢
          exact i7 i hi
        · intro _ b hb z hz
          rw [core_2]
          have hz2 : z ∈ ins (sq x r) p d := by
            have := mem_idl hb hz
            rw [hone.1] at this
            exact this
          obtain ⟨i, hi, rfl⟩ := List.mem_iff_getElem.mp hb
          have hi2 : i < (xb x r).length + 1 := by rw [nbl_len (by omega) (by rw [hRl, labs_len])] at hi; exact hi
          have e6 := one_gD hone.2 hi
          rw [gD hi, hone.1] at e6
          rw [e6, List.mem_singleton] at hz
          have e8 := nbl_gD (B := xb x r) (p := p) (ids := [d]) (L := R.1) (by omega) (by rw [hRl, labs_len]) hi2
          rw [gD hi] at e8
          rw [wB_at, asg_at hz2, hz, e8]
          have : pos (ins (sq x r) p d) ((idl (xb x r) |> fun l => ins l p d).getD i 0) = i := pos_of hnd (by rw [hlen]; omega)
          exact congrArg (fun j => lN (R.1.getD j 0)) this
      · intro s hsr
        rw [hk', hw', hg', hb', va_up_ne _ _ hsr]
        refine ⟨rfl, rfl, ?_, rfl⟩
        unfold gup
        split
        · rfl
        · rw [pk_un hsr]
      · intro s j hsr hj
        rw [wB_21]
        rcases hj with rfl | rfl | rfl | rfl | rfl
        · rw [mA_k (by decide), mA_k (by decide), wA_k (by decide), f2'.2.1 2 (by decide)]
        · rw [mA_k (by decide), mA_k (by decide), wA_k (by decide), f2'.2.1 3 (by decide)]
        · rw [mA_i hsr, mA_k (by decide), wA_k (by decide), f2'.2.1 4 (by decide)]
        · rw [mA_k (by decide), mA_k (by decide), wA_k (by decide), h5, f1'.2.1 5 (by decide)]
          unfold gup
          split
          · rfl
          · rw [pk_un hsr]
        · rw [mA_k (by decide), mA_k (by decide), wA_k (by decide), f2'.2.1 6 (by decide)]
      · intro j hj
        rw [wB_21, wB_k (by decide)]
        refine ⟨?_, ?_, ?_⟩
        · rw [mA_k (by decide), mA_i (by omega), wA_at, shO_out (by omega) hp, f2'.2.1 7 (by decide)]
        · rw [mA_k (by decide), mA_k (by decide), wA_k (by decide), f2'.2.1 8 (by decide)]
        · rw [mA_22, mA_22, wA_22, f2'.2.2 9 (by decide)]
      · intro s hs8 hsr z hz
        have hzn : z ∉ ins (sq x r) p d := by
          intro q
          rcases ins_mem.mp q with e | e
          · exact hd.2 s hs8 (e ▸ hz)
          · exact hI.2.2.2.1 r s hr hs8 (Ne.symm hsr) z e z hz rfl
        refine ⟨?_, ?_, rfl⟩
        · rw [wB_at, asg_no hzn, mA_22, mA_22, wA_22, f2'.2.2 10 (by decide)]
        · rw [wB_21, mA_k (by decide), mA_k (by decide), wA_k (by decide), f2'.2.1 11 (by decide)]
      · rw [wB_21, mA_k (by decide), mA_k (by decide), wA_k (by decide), f2'.2.1 12 (by decide)]
      · rw [wB_21, mA_k (by decide), mA_k (by decide), wA_k (by decide), f2'.2.1 13 (by decide)]
      · rw [wB_21, mA_k (by decide), mA_k (by decide), wA_k (by decide), f2'.2.1 14 (by decide)]
      · show v2.1 15 = xr x + nI (R.2 - 1)
        rw [h15, f1'.1 15 (by decide)]
        have : v.1 15 = xr x := hM.2.2.2.2.2.2.2
        rw [this]
end CBL
