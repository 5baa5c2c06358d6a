/-! ===== the class: labels by blocks; dealLabels ===== -/
def FRS : Nat := 18446744073709551615
theorem FRS_l : lN FRS = -1 := by decide
def gl (l : Nat) : Prop := l < 2 ^ 42 ∨ l = FRS
theorem lN_m1 {a : Nat} (h : a < 2 ^ 42) : ¬ lN a = -1 := by
  intro e
  have h1 : (lN a).toInt = (a : Int) := pk_lT (by omega)
  rw [e] at h1
  have : (-1 : Int64).toInt = -1 := by decide
  omega
theorem gl_eq {a b : Nat} (ha : gl a) (hb : gl b) : lN a = lN b ↔ a = b := by
  constructor
  · intro e
    rcases ha with ha | ha <;> rcases hb with hb | hb
    · exact (pk_lEQ (by omega) (by omega)).mp e
    · subst hb
      rw [FRS_l] at e
      exact absurd e (lN_m1 ha)
    · subst ha
      rw [FRS_l] at e
      exact absurd e.symm (lN_m1 hb)
    · rw [ha, hb]
  · intro e; rw [e]
def sLs (a : SS) (f : Nat → Int64) : SS := (a.1, a.2.1, a.2.2.1, f, a.2.2.2.2)
def asc {α : Type} (f : Nat → α) (ids : List Nat) (y : α) : Nat → α := fun d => if d ∈ ids then y else f d
theorem asc_nil {α : Type} {f : Nat → α} {y : α} : asc f [] y = f := by
  funext d
  unfold asc
  rw [if_neg List.not_mem_nil]
theorem asc_in {α : Type} {f : Nat → α} {ids : List Nat} {y : α} {d : Nat} (h : d ∈ ids) : asc f ids y d = y := if_pos h
theorem asc_no {α : Type} {f : Nat → α} {ids : List Nat} {y : α} {d : Nat} (h : d ∉ ids) : asc f ids y d = f d := if_neg h
theorem asc_cL {f : Nat → Int64} {ids : List Nat} {y : Int64} {e : Nat} : asc (vp_updL f e y) ids y = asc f (e :: ids) y := by
  funext d
  by_cases h : d ∈ ids
  · rw [asc_in h, asc_in (List.mem_cons_of_mem _ h)]
  · rw [asc_no h]
    by_cases q : d = e
    · subst q; rw [pk_uLs, asc_in List.mem_cons_self]
    · rw [pk_uLn q, asc_no (fun z => (List.mem_cons.mp z).elim q h)]
theorem asc_c {f : Nat → Int32} {ids : List Nat} {y : Int32} {e : Nat} : asc (upd f e y) ids y = asc f (e :: ids) y := by
  funext d
  by_cases h : d ∈ ids
  · rw [asc_in h, asc_in (List.mem_cons_of_mem _ h)]
  · rw [asc_no h]
    by_cases q : d = e
    · subst q; rw [pk_us, asc_in List.mem_cons_self]
    · rw [pk_un q, asc_no (fun z => (List.mem_cons.mp z).elim q h)]
theorem c_dealt {X j c t : Nat} (hX : X < 2 ^ 42) (hj : j ≤ 40) (hc : c ≤ 1000) (ht : t < c) : f_X3_dealt (lN X) (nI j) (nI c) (nI t) = some (lN (dl X j c t)) := by
  unfold f_X3_dealt
  rw [if_pos (show (0 : Int32) < nI c from nI_lt (a := 0) (by omega) (by omega)), if_pos (l_ne0 (by omega) hc), l_dl hX hj (by omega) hc (by omega)]
theorem c_labelAt {a : SS} {P d : Nat} (hP : P < 600) (h : a.1 1 P = nI d) (hd : d < 600) : f_X2_labelAt (nI P) a = some (a.2.2.2.1 d) := by
  unfold f_X2_labelAt
  simp (disch := omega) only [ix_nI, nI_clamp, le_L, le_R, lt_L, lt_R, eq_L, eq_R, ad_L, sb_L, ml_L, nI_leI, nI_ltI, nI_eq, nI_add, pk_mul, nI_m1, if_true, if_false, if_pos, if_neg, Option.bind_some, h]
theorem c_setLabel {a : SS} {P d : Nat} {y : Int64} (hP : P < 600) (h : a.1 1 P = nI d) (hd : d < 600) : f_X2_setLabel (nI P) y a = some (sL a d y) := by
  unfold f_X2_setLabel
  simp (disch := omega) only [ix_nI, nI_clamp, le_L, le_R, lt_L, lt_R, eq_L, eq_R, ad_L, sb_L, ml_L, nI_leI, nI_ltI, nI_eq, nI_add, pk_mul, nI_m1, if_true, if_false, if_pos, if_neg, Option.bind_some, h]
theorem c_innerAt {a : SS} {P d : Nat} (hP : P < 600) (h : a.1 1 P = nI d) (hd : d < 600) : f_X2_innerAt (nI P) a = some (a.2.2.1 6 d) := by
  unfold f_X2_innerAt
  simp (disch := omega) only [ix_nI, nI_clamp, le_L, le_R, lt_L, lt_R, eq_L, eq_R, ad_L, sb_L, ml_L, nI_leI, nI_ltI, nI_eq, nI_add, pk_mul, nI_m1, if_true, if_false, if_pos, if_neg, Option.bind_some, h]
theorem c_setInner {a : SS} {P d : Nat} {y : Int32} (hP : P < 600) (h : a.1 1 P = nI d) (hd : d < 600) : f_X2_setInner (nI P) y a = some (sA a 6 d y) := by
  unfold f_X2_setInner
  simp (disch := omega) only [ix_nI, nI_clamp, le_L, le_R, lt_L, lt_R, eq_L, eq_R, ad_L, sb_L, ml_L, nI_leI, nI_ltI, nI_eq, nI_add, pk_mul, nI_m1, if_true, if_false, if_pos, if_neg, Option.bind_some, h]
/-- ids at the places from P on -/
def At (a : SS) (P : Nat) (ids : List Nat) : Prop := P + ids.length ≤ 600 ∧ ids.Nodup ∧ (∀ i, i < ids.length → a.1 1 (P + i) = nI (ids.getD i 0)) ∧ ∀ d ∈ ids, d < 600
theorem At.tl {a : SS} {P d : Nat} {ids : List Nat} (h : At a P (d :: ids)) : At a (P + 1) ids := by
  obtain ⟨h1, h2, h3, h4⟩ := h
  rw [List.length_cons] at h1 h3
  refine ⟨by omega, (List.nodup_cons.mp h2).2, fun i hi => ?_, fun e he => h4 e (List.mem_cons_of_mem _ he)⟩
  have := h3 (i + 1) (by omega)
  rw [show P + 1 + i = P + (i + 1) from by omega, this]
  rfl
theorem At.hd {a : SS} {P d : Nat} {ids : List Nat} (h : At a P (d :: ids)) : a.1 1 P = nI d ∧ d < 600 ∧ d ∉ ids ∧ P < 600 := by
  obtain ⟨h1, h2, h3, h4⟩ := h
  rw [List.length_cons] at h1 h3
  exact ⟨h3 0 (by omega), h4 d List.mem_cons_self, (List.nodup_cons.mp h2).1, by omega⟩
theorem At.app {a : SS} {P : Nat} {I J : List Nat} (h : At a P (I ++ J)) : At a P I ∧ At a (P + I.length) J := by
  obtain ⟨h1, h2, h3, h4⟩ := h
  rw [List.length_append] at h1 h3
  have hn := List.nodup_append.mp h2
  refine ⟨⟨by omega, hn.1, fun i hi => ?_, fun e he => h4 e (List.mem_append_left _ he)⟩, ⟨by omega, hn.2.1, fun i hi => ?_, fun e he => h4 e (List.mem_append_right _ he)⟩⟩
  · rw [h3 i (by omega), List.getD_eq_getElem?_getD, List.getD_eq_getElem?_getD, List.getElem?_append_left hi]
  · rw [Nat.add_assoc, h3 (I.length + i) (by omega), List.getD_eq_getElem?_getD, List.getD_eq_getElem?_getD, List.getElem?_append_right (by omega), Nat.add_sub_cancel_left]
theorem At.same {a a' : SS} {P : Nat} {ids : List Nat} (h : At a P ids) (e : a'.1 = a.1) : At a' P ids := by
  unfold At at h ⊢
  rw [e]; exact h
section DEAL
variable {r U X j c : Nat}
theorem d_within {t l : Nat} (hX : X < 2 ^ 42) (hj : j ≤ 40) (hc : c ≤ 1000) (ht : t < c) (hU : U ≤ 600) : ∀ (K : List Nat) (P : Nat) (a : SS) (n : Nat), P + K.length ≤ U → At a P K → (∀ d ∈ K, a.2.2.2.1 d = lN l) →
    f_X2_dealLabels_11 (n + K.length) (nI r) (nI U) (lN X) (nI j) (nI c) (nI t) (lN l) (nI P) a = f_X2_dealLabels_11 n (nI r) (nI U) (lN X) (nI j) (nI c) (nI t) (lN l) (nI (P + K.length)) (sLs a (asc a.2.2.2.1 K (lN (dl X j c t)))) := by
  intro K
  induction K with
  | nil => intro P a n _ _ _; rw [asc_nil]; rfl
  | cons d K ih =>
    intro P a n h1 h2 h3
    obtain ⟨g1, g2, g3, g4⟩ := h2.hd
    rw [List.length_cons] at h1
    rw [List.length_cons, show n + (K.length + 1) = (n + K.length) + 1 from by omega, f_X2_dealLabels_11, if_neg (nI_ge (by omega) (by omega)), c_labelAt g4 g1 g2, Option.bind_some, h3 d List.mem_cons_self, if_pos ((lg_cmp_eq _ _).mpr rfl), c_dealt hX hj hc ht, Option.bind_some, c_setLabel g4 g1 g2, Option.bind_some, nI_1, ih (P + 1) (sL a d (lN (dl X j c t))) n (by omega) (h2.tl.same rfl) (fun e he => by rw [sL_i (ne_nm he g3).symm]; exact h3 e (List.mem_cons_of_mem _ he)), show P + 1 + K.length = P + (K.length + 1) from by omega]
    congr 1
    show sLs a (asc (vp_updL a.2.2.2.1 d (lN (dl X j c t))) K (lN (dl X j c t))) = _
    rw [asc_cL]
def dlab (X j c : Nat) (f : Nat → Int64) : BL → Nat → (Nat → Int64)
  | [], _ => f
  | b :: M, t => dlab X j c (asc f b.2 (lN (dl X j c t))) M (t + 1)
def nfr (M : BL) : Nat := M.countP (fun b => decide (b.1 ≠ FRS))
def chn : Int64 → BL → Prop
  | _, [] => True
  | last, b :: M => lN b.1 ≠ last ∧ chn (lN b.1) M
theorem dlab_no {f : Nat → Int64} {d : Nat} : ∀ {M : BL} {t : Nat} {f : Nat → Int64}, d ∉ idl M → dlab X j c f M t d = f d := by
  intro M
  induction M with
  | nil => intro t f _; rfl
  | cons b M ih =>
    intro t f h
    rw [idl_cons, List.mem_append, not_or] at h
    rw [dlab, ih h.2, asc_no h.1]
theorem dlab_at {d : Nat} : ∀ {M : BL} {t : Nat} {f : Nat → Int64} {i : Nat}, (idl M).Nodup → i < M.length → d ∈ (M.getD i (0, [])).2 → dlab X j c f M t d = lN (dl X j c (t + i)) := by
  intro M
  induction M with
  | nil => intro t f i _ h; exact absurd h (Nat.not_lt_zero _)
  | cons b M ih =>
    intro t f i hn hi hd
    rw [idl_cons] at hn
    obtain ⟨n1, n2, n3⟩ := List.nodup_append.mp hn
    rw [dlab]
    match i, hi, hd with
    | 0, _, hd =>
      have hd' : d ∈ b.2 := hd
      rw [dlab_no (f := f) (fun z => n3 d hd' d z rfl), asc_in hd']
      rfl
    | i + 1, hi, hd =>
      have hi' : i < M.length := by rw [List.length_cons] at hi; omega
      rw [ih n2 hi' hd, show t + 1 + i = t + (i + 1) from by omega]
theorem sR_id {a : SS} : sR a (a.2.2.2.2 + nI 0) = a := by
  have : a.2.2.2.2 + nI 0 = a.2.2.2.2 := Int32.add_zero _
  rw [this]
  rfl
theorem d_blocks (hX : X < 2 ^ 42) (hj : j ≤ 40) (hc : c ≤ 1000) (hU : U ≤ 600) : ∀ (M : BL) (P t : Nat) (last : Int64) (a : SS) (n : Nat), P + (idl M).length ≤ U → t + M.length ≤ c → At a P (idl M) → (∀ b ∈ M, b.2 ≠ [] ∧ gl b.1) → (∀ b ∈ M, ∀ d ∈ b.2, a.2.2.2.1 d = lN b.1) → chn last M →
    ∃ last', f_X2_dealLabels_11 (n + (idl M).length) (nI r) (nI U) (lN X) (nI j) (nI c) (nI t - 1) last (nI P) a = f_X2_dealLabels_11 n (nI r) (nI U) (lN X) (nI j) (nI c) (nI (t + M.length) - 1) last' (nI (P + (idl M).length)) (sR (sLs a (dlab X j c a.2.2.2.1 M t)) (a.2.2.2.2 + nI (nfr M))) := by
  intro M
  induction M with
  | nil =>
    intro P t last a n _ _ _ _ _ _
    refine ⟨last, ?_⟩
    have e : sR (sLs a (dlab X j c a.2.2.2.1 [] t)) (a.2.2.2.2 + nI (nfr [])) = a := sR_id
    rw [e]
    rfl
  | cons b M ih =>
    intro P t last a n h1 h2 h3 h4 h5 h6
    obtain ⟨hb1, hb2⟩ := h4 b List.mem_cons_self
    obtain ⟨d, K, hK⟩ : ∃ d K, b.2 = d :: K := by
      cases hb : b.2 with
      | nil => exact absurd hb hb1
      | cons d K => exact ⟨d, K, rfl⟩
    have hidl : idl (b :: M) = d :: (K ++ idl M) := by rw [idl_cons, hK]; rfl
    rw [hidl] at h1 h3 ⊢
    rw [List.length_cons, List.length_append] at h1
    rw [List.length_cons] at h2
    obtain ⟨g1, g2, g3, g4⟩ := h3.hd
    have hlab : a.2.2.2.1 d = lN b.1 := h5 b List.mem_cons_self d (by rw [hK]; exact List.mem_cons_self)
    have hK6 := (h3.tl.app).1
    have hM6 := (h3.tl.app).2
    have hdK : d ∉ K := fun z => g3 (List.mem_append_left _ z)
    have hdM : d ∉ idl M := fun z => g3 (List.mem_append_right _ z)
    have hKM : ∀ e ∈ K, e ∉ idl M := by
      have := h3.tl.2.1
      exact fun e he hm => (List.nodup_append.mp this).2.2 e he e hm rfl
    -- the first of the block
    have hnf : nfr (b :: M) = nfr M + (if b.1 = FRS then 0 else 1) := by
      unfold nfr
      rw [List.countP_cons]
      by_cases z : b.1 = FRS
      · simp [z]
      · simp [z]
    have s1 : f_X2_dealLabels_11 ((n + (idl M).length + K.length) + 1) (nI r) (nI U) (lN X) (nI j) (nI c) (nI t - 1) last (nI P) a = f_X2_dealLabels_11 (n + (idl M).length + K.length) (nI r) (nI U) (lN X) (nI j) (nI c) (nI t) (lN b.1) (nI (P + 1)) (sL (sR a (a.2.2.2.2 + nI (if b.1 = FRS then 0 else 1))) d (lN (dl X j c t))) := by
      have e1 : nI t - 1 + 1 = nI t := by
        rw [Int32.sub_add_cancel]
      rw [f_X2_dealLabels_11, if_neg (nI_ge (by omega) (by omega)), c_labelAt g4 g1 g2, Option.bind_some, hlab, if_neg (fun z => h6.1 ((lg_cmp_eq _ _).mp z)), Option.bind_some, e1, c_dealt hX hj hc (by omega), Option.bind_some, Option.bind_some, c_setLabel (a := sR a (a.2.2.2.2 + 0)) g4 g1 g2, c_setLabel (a := sR a (a.2.2.2.2 + 1)) g4 g1 g2, Option.bind_some, Option.bind_some, nI_1]
      by_cases z : b.1 = FRS
      · rw [if_pos ((lg_cmp_eq _ _).mpr (by rw [z, FRS_l])), if_pos z]
        rfl
      · rw [if_neg (fun q => z ((gl_eq hb2 (Or.inr rfl)).mp (by rw [FRS_l]; exact (lg_cmp_eq _ _).mp q))), if_neg z]
        rfl
    have s2 := d_within (r := r) (U := U) (X := X) (j := j) (c := c) (t := t) (l := b.1) hX hj hc (by omega) hU K (P + 1) (sL (sR a (a.2.2.2.2 + nI (if b.1 = FRS then 0 else 1))) d (lN (dl X j c t))) (n + (idl M).length) (by omega) (hK6.same rfl) (fun e he => by
      rw [sL_i (ne_nm he hdK).symm, sR_2221]
      exact h5 b List.mem_cons_self e (by rw [hK]; exact List.mem_cons_of_mem _ he))
    obtain ⟨last', s3⟩ := ih (P + 1 + K.length) (t + 1) (lN b.1) (sR (sLs a (asc a.2.2.2.1 b.2 (lN (dl X j c t)))) (a.2.2.2.2 + nI (if b.1 = FRS then 0 else 1))) n (by omega) (by omega) (hM6.same rfl) (fun e he => h4 e (List.mem_cons_of_mem _ he)) (fun e he z hz => by
      have hz2 : z ∉ b.2 := by
        rw [hK]
        intro q
        have hm := mem_idl he hz
        rcases List.mem_cons.mp q with q | q
        · exact hdM (q ▸ hm)
        · exact hKM z q hm
      show asc a.2.2.2.1 b.2 (lN (dl X j c t)) z = _
      rw [asc_no hz2]
      exact h5 e (List.mem_cons_of_mem _ he) z hz) h6.2
    refine ⟨last', ?_⟩
    have e2 : nI (t + 1) - 1 = nI t := nI_pred t
    have e3 : sLs (sL (sR a (a.2.2.2.2 + nI (if b.1 = FRS then 0 else 1))) d (lN (dl X j c t))) (asc (sL (sR a (a.2.2.2.2 + nI (if b.1 = FRS then 0 else 1))) d (lN (dl X j c t))).2.2.2.1 K (lN (dl X j c t))) = sR (sLs a (asc a.2.2.2.1 b.2 (lN (dl X j c t)))) (a.2.2.2.2 + nI (if b.1 = FRS then 0 else 1)) := by
      rw [hK, ← asc_cL]
      rfl
    rw [e2] at s3
    rw [e3] at s2
    rw [List.length_cons, List.length_append, show n + (K.length + (idl M).length + 1) = (n + (idl M).length + K.length) + 1 from by omega, s1, s2, s3, hnf, show t + 1 + M.length = t + (b :: M).length from by rw [List.length_cons]; omega, show P + 1 + K.length + (idl M).length = P + (K.length + (idl M).length + 1) from by omega]
    congr 1
    unfold sR sLs
    dsimp only
    rw [← nI_add, Int32.add_comm (nI (nfr M)), ← Int32.add_assoc]
    rfl
theorem mx_eq {g y : Int32} : (if g < y then y else g) = mxI g y := by
  unfold mxI
  by_cases h : y ≤ g
  · rw [if_pos h, if_neg (Int32.not_lt.mpr h)]
  · rw [if_neg h, if_pos (Int32.not_le.mp h)]
theorem c_dealLabels {M : BL} {P : Nat} {a : SS} (hr : r < 8) (hX : X < 2 ^ 42) (hj : j ≤ 40) (hM : M.length = c) (hc : c ≤ 1000) (h3 : At a P (idl M)) (h4 : ∀ b ∈ M, b.2 ≠ [] ∧ gl b.1) (h5 : ∀ b ∈ M, ∀ d ∈ b.2, a.2.2.2.1 d = lN b.1) (h6 : chn (-2) M) :
    f_X2_dealLabels (nI r) (nI P) (nI (P + (idl M).length)) (lN X) (nI j) (nI c) a = some (sA (sR (sLs a (dlab X j c a.2.2.2.1 M 0)) (a.2.2.2.2 + nI (nfr M))) 4 r (mxI (a.2.2.1 4 r) (nI c))) := by
  have hl := h3.1
  obtain ⟨n, hn⟩ : ∃ n, NF = (n + 1) + (idl M).length := ⟨19999 - (idl M).length, by rw [NF_eq]; omega⟩
  obtain ⟨last', e⟩ := d_blocks (r := r) (U := P + (idl M).length) (X := X) (j := j) (c := c) hX hj hc (by omega) M P 0 (-2) a (n + 1) (Nat.le_refl _) (by omega) h3 h4 h5 h6
  have e' : f_X2_dealLabels (nI r) (nI P) (nI (P + (idl M).length)) (lN X) (nI j) (nI c) a = f_X2_dealLabels_11 ((n + 1) + (idl M).length) (nI r) (nI (P + (idl M).length)) (lN X) (nI j) (nI c) (nI 0 - 1) (-2) (nI P) a := by
    unfold f_X2_dealLabels
    rw [hn]
    rfl
  rw [e', e, f_X2_dealLabels_11, if_pos (nI_le (Nat.le_refl _) (by omega)), if_pos (ix_nI hr (by omega)), if_pos (ix_nI hr (by omega)), nI_clamp (by omega), mx_eq]
  rfl
end DEAL
