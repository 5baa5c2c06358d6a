/-! ===== the class: inner labels ===== -/
def s6 (a : SS) (f : Nat → Int32) : SS := (a.1, a.2.1, va_up a.2.2.1 6 f, a.2.2.2)
theorem s6_id {a : SS} : s6 a (a.2.2.1 6) = a := by unfold s6; rw [up_id rfl]
theorem s6_6 {a : SS} {f : Nat → Int32} : (s6 a f).2.2.1 6 = f := va_up_self a.2.2.1 6 f
theorem s6_k {a : SS} {f : Nat → Int32} {k : Nat} (h : k ≠ 6) : (s6 a f).2.2.1 k = a.2.2.1 k := va_up_ne _ _ h
theorem sA_s6 {a : SS} {f : Nat → Int32} {i : Nat} {y : Int32} : sA (s6 a f) 6 i y = s6 a (upd f i y) := by
  unfold sA s6; dsimp only; rw [up_up, va_up_self]
theorem c_dealInners {a : SS} {r P : Nat} {ids : List Nat} (hr : r < 8) (hat : At a P ids) (h0 : 0 < ids.length) : f_X2_dealInners (nI r) (nI P) (nI (P + ids.length)) a = some (sA (s6 a (asg (a.2.2.1 6) ids (fun i => nI (dl 0 8 ids.length i)) ids.length)) 4 r (mxI (a.2.2.1 4 r) (nI ids.length))) := by
  obtain ⟨h1, h2, h3, h4⟩ := hat
  unfold f_X2_dealInners
  have e0 : a = s6 a (asg (a.2.2.1 6) ids (fun i => nI (dl 0 8 ids.length i)) (P - P)) := by rw [Nat.sub_self, asg_0, s6_id]
  refine Eq.trans (congrArg (f_X2_dealInners_3 NF (nI r) (nI P) (nI (P + ids.length)) (nI P)) e0) ?_
  refine loopE (fun m i => f_X2_dealInners_3 m (nI r) (nI P) (nI (P + ids.length)) (nI i) (s6 a (asg (a.2.2.1 6) ids (fun i => nI (dl 0 8 ids.length i)) (i - P)))) (a := P) (b := P + ids.length) (by omega) (NF_lt (by omega)) (fun m i h5 h6 => ?_) (fun m => ?_)
  · obtain ⟨t, rfl⟩ : ∃ t, i = P + t := ⟨i - P, by omega⟩
    have ht : t < ids.length := by omega
    have hs := asg_s (f := a.2.2.1 6) (g := fun i => nI (dl 0 8 ids.length i)) h2 ht
    have hd := c_dealt (X := 0) (j := 8) (c := ids.length) (t := t) (by omega) (by omega) (by omega) ht
    have hd' : f_X3_dealt 0 8 (nI ids.length) (nI t) = some (lN (dl 0 8 ids.length t)) := hd
    rw [f_X2_dealInners_3, if_neg (nI_ge (by omega) (by omega)), pk_sub (by omega), pk_sub (by omega), Nat.add_sub_cancel_left, Nat.add_sub_cancel_left, hd', Option.bind_some, lN_i]
    have g := c_setInner (a := s6 a (asg (a.2.2.1 6) ids (fun i => nI (dl 0 8 ids.length i)) t)) (P := P + t) (d := ids.getD t 0) (y := nI (dl 0 8 ids.length t)) (by omega) (h3 t ht) (h4 _ (getD_mem ht))
    rw [g, Option.bind_some, sA_s6, hs, nI_1, show P + t + 1 - P = t + 1 from by omega]
  · rw [f_X2_dealInners_3, if_pos (nI_le (Nat.le_refl _) (by omega)), if_pos (ix_nI hr (by omega)), if_pos (ix_nI hr (by omega)), nI_clamp (by omega), pk_sub (by omega), Nat.add_sub_cancel_left, s6_k (by decide), mx_eq]
theorem i_lt2 {a b : Nat} (ha : a < 1000) (hb : b < 1000) : (nI b - (nI a - 1) < 2) ↔ ¬ a < b := by
  have e : nI b - (nI a - 1) = nI (b + 1) - nI a := by
    rw [← nI_1]
    apply Int32.toBitVec_inj.mp
    simp only [Int32.toBitVec_sub, Int32.toBitVec_add]
    generalize (nI b).toBitVec = x
    generalize (nI a).toBitVec = y
    generalize Int32.toBitVec 1 = z
    apply BitVec.eq_of_toInt_eq
    simp [BitVec.toInt_sub, BitVec.toInt_add]
    congr 1
    omega
  rw [e, Int32.lt_iff_toInt_lt, pk_sub_toInt (by omega) (by omega)]
  have : (2 : Int32).toInt = 2 := rfl
  omega
theorem i_mid {a b : Nat} (ha : a < 1000) (hb : b < 1000) (h : a < b) : (nI a - 1 + nI b) / 2 = nI ((a + b - 1) / 2) := by
  obtain ⟨c, rfl⟩ : ∃ c, b = c + 1 := ⟨b - 1, by omega⟩
  have e : nI a - 1 + nI (c + 1) = nI (a + c) := by
    rw [← nI_1, ← nI_add]
    apply Int32.toBitVec_inj.mp
    simp only [Int32.toBitVec_sub, Int32.toBitVec_add]
    generalize (nI c).toBitVec = x
    generalize (nI a).toBitVec = y
    generalize Int32.toBitVec 1 = z
    apply BitVec.eq_of_toInt_eq
    simp [BitVec.toInt_sub, BitVec.toInt_add]
    congr 1
    omega
  rw [e, div2 (by omega)]
  congr 2
/-- what labelWithin leaves -/
def IRes (r : Nat) (J : List Nat) (a a' : SS) (R : List Nat × Nat) : Prop := a'.1 = a.1 ∧ a'.2.1 = a.2.1 ∧ (∀ f, f ≠ 4 → f ≠ 6 → a'.2.2.1 f = a.2.2.1 f) ∧ a'.2.2.1 4 = gup (a.2.2.1 4) r R.2 ∧ a'.2.2.2.1 = a.2.2.2.1 ∧ a'.2.2.2.2 = a.2.2.2.2 + nI (R.2 - 1) ∧ (∀ e, e ∉ J → a'.2.2.1 6 e = a.2.2.1 6 e) ∧ ∀ e ∈ J, a'.2.2.1 6 e = nI (R.1.getD (pos J e) 0)
theorem c_within {a : SS} {r P q d : Nat} {ids : List Nat} {f : Nat → Nat} (hr : r < 8) (hat : At a P (ins ids q d)) (hq : q ≤ ids.length) (hf : ∀ e ∈ ids, a.2.2.1 6 e = nI (f e) ∧ f e < 256) : ∃ a', f_X2_labelWithin (nI r) (nI (P + q)) (nI P) (nI (P + (ids.length + 1))) a = some a' ∧ IRes r (ins ids q d) a a' (inr (ids.map f) q) := by
  have hJl : (ins ids q d).length = ids.length + 1 := ins_len hq
  obtain ⟨h1, h2, h3, h4⟩ := id hat
  rw [hJl] at h1 h3
  have hml : (ids.map f).length = ids.length := List.length_map _
  have hmg : ∀ i, i < ids.length → (ids.map f).getD i 0 = f (ids.getD i 0) := by
    intro i hi
    rw [gD (by rw [hml]; exact hi), List.getElem_map, gD hi]
  have hlo : lo (ids.map f) q < 1000 := by
    unfold lo
    split
    · omega
    · rw [hmg _ (by omega)]
      have := (hf _ (getD_mem (i := q - 1) (l := ids) (by omega))).2
      omega
  have hhi : hi (ids.map f) 256 q < 1000 := by
    unfold hi
    split
    · omega
    · rw [hmg _ (by omega)]
      have := (hf _ (getD_mem (i := q) (l := ids) (by omega))).2
      omega
  have g0 : f_X2_labelWithin (nI r) (nI (P + q)) (nI P) (nI (P + (ids.length + 1))) a = f_X2_labelWithin_39 (nI r) (nI (P + q)) (nI P) (nI (P + (ids.length + 1))) (nI (lo (ids.map f) q) - 1) (nI (hi (ids.map f) 256 q)) a := by
    unfold f_X2_labelWithin
    rw [nI_1]
    have hH : ∀ x5 : Int32, (if nI (P + (ids.length + 1)) ≤ nI (P + q + 1) then f_X2_labelWithin_39 (nI r) (nI (P + q)) (nI P) (nI (P + (ids.length + 1))) x5 256 a else (f_X2_innerAt (nI (P + q + 1)) a).bind (fun z => f_X2_labelWithin_39 (nI r) (nI (P + q)) (nI P) (nI (P + (ids.length + 1))) x5 z a)) = f_X2_labelWithin_39 (nI r) (nI (P + q)) (nI P) (nI (P + (ids.length + 1))) x5 (nI (hi (ids.map f) 256 q)) a := by
      intro x5
      by_cases e : q = ids.length
      · have e2 : hi (ids.map f) 256 q = 256 := if_pos (by omega)
        rw [if_pos (nI_le (by omega) (by omega)), e2]
        rfl
      · have e2 : hi (ids.map f) 256 q = f (ids.getD q 0) := by
          rw [← hmg q (by omega)]; exact if_neg (by omega)
        have e3 := h3 (q + 1) (by omega)
        rw [ins_gt hq (by omega), Nat.add_sub_cancel] at e3
        have hm := getD_mem (i := q) (l := ids) (by omega)
        rw [if_neg (nI_ge (by omega) (by omega)), show P + q + 1 = P + (q + 1) from by omega, c_innerAt (by omega) e3 (h4 _ (ins_mem.mpr (Or.inr hm))), Option.bind_some, (hf _ hm).1, e2]
    by_cases e : q = 0
    · have e2 : lo (ids.map f) q = 0 := if_pos e
      have e3 : (nI 0 - 1 : Int32) = -1 := by decide
      have := hH (-1)
      rw [if_pos (nI_le (by omega) (by omega)), this, e2, e3]
    · have e2 : lo (ids.map f) q = f (ids.getD (q - 1) 0) + 1 := by
        rw [← hmg (q - 1) (by omega)]; exact if_neg e
      have e3 := h3 (q - 1) (by omega)
      rw [ins_lt hq (by omega)] at e3
      have hm := getD_mem (i := q - 1) (l := ids) (by omega)
      have e4 : nI (P + q) - 1 = nI (P + (q - 1)) := by
        refine Eq.trans (pk_sub (a := P + q) (b := 1) (by omega)) ?_
        congr 1
        omega
      rw [if_neg (nI_ge (by omega) (by omega)), e4, c_innerAt (by omega) e3 (h4 _ (ins_mem.mpr (Or.inr hm))), Option.bind_some, (hf _ hm).1, hH, e2, nI_pred]
  rw [g0]
  unfold f_X2_labelWithin_39 inr
  by_cases hc : lo (ids.map f) q < hi (ids.map f) 256 q
  · rw [if_pos hc, if_neg (fun z => (i_lt2 hlo hhi).mp z hc), i_mid hlo hhi hc]
    have e3 := h3 q (by omega)
    rw [ins_at hq] at e3
    have hdm : d ∈ ins ids q d := ins_mem.mpr (Or.inl rfl)
    rw [c_setInner (by omega) e3 (h4 _ hdm), Option.bind_some]
    refine ⟨_, rfl, rfl, rfl, fun f h5 h6 => sA_k h6, ?_, rfl, (Int32.add_zero _).symm, fun e he => sA_i (ne_nm hdm he), fun e he => ?_⟩
    · rw [sA_k (by decide)]; rfl
    · obtain ⟨i, hi, rfl⟩ := List.mem_iff_getElem.mp he
      rw [← gD (d := 0) hi, pos_of h2 hi]
      rw [hJl] at hi
      dsimp only
      have hqm : q ≤ (ids.map f).length := by omega
      rcases Nat.lt_trichotomy i q with z | z | z
      · have hm := getD_mem (i := i) (l := ids) (by omega)
        have hne : (ins ids q d).getD i 0 ≠ d := by
          intro w
          have := nd_inj h2 (i := i) (j := q) (by omega) (by omega) (by rw [w, ins_at hq])
          omega
        rw [sA_i hne, ins_lt hq z, ins_lt hqm z, hmg _ (by omega), (hf _ hm).1]
      · subst z
        rw [ins_at hq, ins_at hqm, sA_at]
        rfl
      · have hm := getD_mem (i := i - 1) (l := ids) (by omega)
        have hne : (ins ids q d).getD i 0 ≠ d := by
          intro w
          have := nd_inj h2 (i := i) (j := q) (by omega) (by omega) (by rw [w, ins_at hq])
          omega
        rw [sA_i hne, ins_gt hq z, ins_gt hqm z, hmg _ (by omega), (hf _ hm).1]
  · rw [if_neg hc, if_pos ((i_lt2 hlo hhi).mpr hc), hml]
    have e := c_dealInners (a := a) hr hat (by omega)
    rw [hJl] at e
    rw [e, Option.bind_some, pk_sub (by omega), Nat.add_sub_cancel_left, nI_pred]
    refine ⟨_, rfl, rfl, rfl, fun f h5 h6 => ?_, ?_, rfl, rfl, fun e he => ?_, fun e he => ?_⟩
    · rw [sR_221, sA_k h5, s6_k h6]
    · unfold gup
      dsimp only
      rw [if_neg (by omega), sR_221]
      funext s
      by_cases z : s = r
      · subst z; rw [sA_at, pk_us]
      · rw [sA_i z, pk_un z, s6_k (by decide)]
    · rw [sR_221, sA_k (by decide), s6_6, asg_no he]
    · have hp := pos_lt he
      rw [hJl] at hp
      rw [sR_221, sA_k (by decide), s6_6, ← hJl, asg_at he, map_gD (by omega)]
