/-! ===== some are taken out, on both sides ===== -/
theorem blk_in : ∀ (B : BL) (p : Nat), p < (idl B).length → ∃ B1 lab ids B2 t, B = B1 ++ (lab, ids) :: B2 ∧ p = (idl B1).length + t ∧ t < ids.length := by
  intro B
  induction B with
  | nil => intro p h; exact absurd h (Nat.not_lt_zero _)
  | cons b B ih =>
    intro p hp
    by_cases h : p < b.2.length
    · exact ⟨[], b.1, b.2, B, p, rfl, by rw [idl_nil, List.length_nil, Nat.zero_add], h⟩
    · rw [idl_cons, List.length_append] at hp
      obtain ⟨B1, lab, ids, B2, t, e1, e2, e3⟩ := ih (p - b.2.length) (by omega)
      exact ⟨b :: B1, lab, ids, B2, t, by rw [e1]; rfl, by rw [idl_cons, List.length_append]; omega, e3⟩
theorem cut_mem {l : List Nat} {f u e : Nat} (h : e ∈ cut l f u) : e ∈ l := by
  unfold cut at h
  rcases List.mem_append.mp h with z | z
  · exact List.mem_of_mem_take z
  · exact List.mem_of_mem_drop z
theorem cut_sub {l : List Nat} {f u : Nat} (h : f ≤ u) : (cut l f u).Sublist l := by
  have e : l = l.take f ++ l.drop f := (List.take_append_drop f l).symm
  have e2 : (l.drop u).Sublist (l.drop f) := by
    have : l.drop u = (l.drop f).drop (u - f) := by rw [List.drop_drop]; congr 1; omega
    rw [this]; exact List.drop_sublist _ _
  have h1 : (l.take f ++ l.drop u).Sublist (l.take f ++ l.drop f) := (List.Sublist.refl _).append e2
  rw [← e] at h1
  exact h1
theorem cut_idx {l : List Nat} {f u i : Nat} (hu : u ≤ l.length) (hi : i < l.length) (h : i < f ∨ u ≤ i) : l.getD i 0 ∈ cut l f u := by
  unfold cut
  rw [List.mem_append, gD hi]
  rcases h with h | h
  · exact Or.inl (List.mem_take_iff_getElem.mpr ⟨i, by omega, rfl⟩)
  · refine Or.inr (List.mem_drop_iff_getElem.mpr ⟨i - u, by omega, ?_⟩)
    congr 1
    omega
theorem cut_cut {l : List Nat} {p n : Nat} (h : p + n + 1 ≤ l.length) : cut (cut l p (p + 1)) p (p + n) = cut l p (p + (n + 1)) := by
  have h1 := cut_len (l := l) (f := p) (u := p + 1) (by omega) (by omega)
  have h2 := cut_len (l := cut l p (p + 1)) (f := p) (u := p + n) (by omega) (by omega)
  have h3 := cut_len (l := l) (f := p) (u := p + (n + 1)) (by omega) (by omega)
  refine getD_ext 0 (by omega) (fun i hi => ?_)
  by_cases z : i < p
  · rw [cut_lt (by omega) (by omega) z, cut_lt (by omega) (by omega) z, cut_lt (by omega) (by omega) z]
  · rw [cut_ge (by omega) (by omega) (by omega), cut_ge (by omega) (by omega) (by omega), cut_ge (by omega) (by omega) (by omega)]
    congr 1
    omega
/-- those at the places p .. p + n - 1 -/
def seg (l : List Nat) (p n : Nat) : List Nat := (l.drop p).take n
theorem seg_s {l : List Nat} {p n : Nat} (h : p < l.length) : seg l p (n + 1) = l.getD p 0 :: seg l (p + 1) n := by
  unfold seg
  rw [List.drop_eq_getElem_cons h, List.take_succ_cons, gD h]
theorem seg_cut {l : List Nat} {p n : Nat} (h : p < l.length) : seg (cut l p (p + 1)) p n = seg l (p + 1) n := by
  unfold seg cut
  rw [List.drop_append, List.drop_of_length_le (by rw [List.length_take]; omega), List.length_take, Nat.min_eq_left (by omega), Nat.sub_self, List.drop_zero, List.nil_append]
theorem seg_len2 {l : List Nat} {p n : Nat} (h : p + n ≤ l.length) : (seg l p n).length = n := by
  unfold seg
  rw [List.length_take, List.length_drop]
  omega
theorem seg_gD {l : List Nat} {p n i : Nat} (h : p + n ≤ l.length) (hi : i < n) : (seg l p n).getD i 0 = l.getD (p + i) 0 := by
  unfold seg
  rw [List.getD_eq_getElem?_getD, List.getD_eq_getElem?_getD, List.getElem?_take_of_lt hi, List.getElem?_drop]
theorem seg_mem {l : List Nat} (hn : l.Nodup) {p n i : Nat} (h : p + n ≤ l.length) (hi : i < l.length) : l.getD i 0 ∈ seg l p n ↔ p ≤ i ∧ i < p + n := by
  constructor
  · intro z
    obtain ⟨j, hj, e⟩ := List.mem_iff_getElem.mp z
    rw [seg_len2 h] at hj
    rw [← gD (d := 0), seg_gD h hj] at e
    have := nd_inj hn (i := p + j) (j := i) (by omega) hi e
    omega
  · rintro ⟨z1, z2⟩
    have e := seg_gD (l := l) (p := p) (n := n) (i := i - p) h (by omega)
    rw [show p + (i - p) = i from by omega] at e
    rw [← e]
    exact getD_mem (by rw [seg_len2 h]; omega)
def mko (x : XS) (r p n m : Nat) : Int32 := if xm x 1 m = nI r ∧ xm x 2 m ∈ (seg (sq x r) p n).map nI then ahd x r p else xm x 2 m
/-- x' is x without n from place p on -/
def TOr (x : XS) (r p n : Nat) (x' : XS) : Prop := xk x' = xk x ∧ xw x' = xw x ∧ xg x' = xg x ∧ xi x' = xi x ∧ xr x' = xr x ∧ (∀ s, s ≠ r → xb x' s = xb x s) ∧ sq x' = va_up (sq x) r (cut (sq x r) p (p + n)) ∧ RowOk x' r ∧ (∀ b' ∈ xb x' r, ∃ b ∈ xb x r, b'.1 = b.1 ∧ ∀ e ∈ b'.2, e ∈ b.2) ∧ xm x' = va_up (xm x) 2 (mko x r p n)
theorem nI_mem {l : List Nat} {e : Nat} (he : e < 600) (hl : ∀ z ∈ l, z < 600) : nI e ∈ l.map nI ↔ e ∈ l := by
  constructor
  · intro h
    obtain ⟨z, hz, e2⟩ := List.mem_map.mp h
    have := hl z hz
    rw [← (nI_eq (by omega) (by omega)).mp e2]
    exact hz
  · exact fun h => List.mem_map.mpr ⟨e, h, rfl⟩
theorem m1_mem {l : List Nat} (hl : ∀ z ∈ l, z < 600) : (-1 : Int32) ∉ l.map nI := by
  intro h
  obtain ⟨z, hz, e⟩ := List.mem_map.mp h
  have := hl z hz
  exact ne_m1 (by omega) e
section TAKE
variable {x x1 x2 : XS} {r p n k : Nat}
/-- a row from which may be taken -/
def LvOk (x : XS) (r k : Nat) : Prop := RwL x ∧ RowOk x r ∧ (sq x r).Nodup ∧ (∀ d ∈ sq x r, d < 600) ∧ xk x r = nI k ∧ k < 4
theorem TOr_0 (h : RowOk x r) : TOr x r p 0 x := by
  refine ⟨rfl, rfl, rfl, rfl, rfl, fun _ _ => rfl, ?_, h, fun b hb => ⟨b, hb, rfl, fun _ he => he⟩, ?_⟩
  · funext s
    by_cases z : s = r
    · subst z
      rw [va_up_self]
      unfold cut
      rw [Nat.add_zero, List.take_append_drop]
    · rw [va_up_ne _ _ z]
  · have : mko x r p 0 = xm x 2 := by
      funext m
      unfold mko seg
      rw [List.take_zero, List.map_nil, if_neg (fun z => absurd z.2 List.not_mem_nil)]
    rw [this]
    exact (up_id rfl).symm
theorem row_parts (h : LvOk x r k) : (∃ w, 4 ≤ w ∧ w ≤ 40 ∧ xw x r = nI w ∧ (labs (xb x r)).Pairwise (· < ·) ∧ (∀ d ∈ labs (xb x r), d < 2 ^ w)) ∧ (∀ b ∈ xb x r, b.2 ≠ []) ∧ (k < 2 → ∀ b ∈ xb x r, b.2.length = 1) ∧ (2 ≤ k → ∀ b ∈ xb x r, b.2.length ≤ 8 ∧ b.2.Pairwise (fun p q => xi x p < xi x q) ∧ ∀ d ∈ b.2, xi x d < 256) := by
  obtain ⟨-, hR, -, -, hk, hk4⟩ := h
  rcases hR with ⟨z, -⟩ | ⟨-, w, w1, w2, w3, a1, a2, a3, a4⟩
  · exact absurd z (by rw [hk]; exact ne_m1 (by omega))
  · refine ⟨⟨w, w1, w2, w3, List.pairwise_map.mpr a1, fun d hd => ?_⟩, fun b hb => (a2 b hb).2, fun z => a3 ?_, fun z => a4 ?_⟩
    · obtain ⟨b, hb, rfl⟩ := List.mem_map.mp hd
      exact (a2 b hb).1
    · rw [hk, le_L (by omega) (by decide)]; omega
    · rw [hk, le_L (by omega) (by decide)]; exact z
theorem TOr_1 (h : LvOk x r k) {B1 B2 : BL} {lab t : Nat} {ids : List Nat} (hB : xb x r = B1 ++ (lab, ids) :: B2) (ht : t < ids.length) (hp : p = (idl B1).length + t) : TOr x r p 1 (xLv x r (blv B1 lab ids B2 t) (ahd x r p) (ids.getD t 0)) := by
  obtain ⟨⟨w, w1, w2, w3, hs, hL⟩, hne, h1, h2⟩ := row_parts h
  obtain ⟨hI, hR, hn, hlt, hk, hk4⟩ := h
  have hb : xb (xLv x r (blv B1 lab ids B2 t) (ahd x r p) (ids.getD t 0)) r = blv B1 lab ids B2 t := va_up_self _ _ _
  have hbn : ∀ s, s ≠ r → xb (xLv x r (blv B1 lab ids B2 t) (ahd x r p) (ids.getD t 0)) s = xb x s := fun s hs => va_up_ne _ _ hs
  have hsq : sq x r = idl B1 ++ (ids ++ idl B2) := by unfold sq; rw [hB, idl_app, idl_cons]
  have hidl : idl (blv B1 lab ids B2 t) = cut (sq x r) p (p + 1) := by
    rw [blv_idl ht, ← hB, hp]
    rfl
  have hmid : (lab, ids) ∈ xb x r := by rw [hB]; simp
  -- where its blocks come from
  have hfrom : ∀ b' ∈ blv B1 lab ids B2 t, (b' ∈ xb x r) ∨ (ids.length ≠ 1 ∧ b' = (lab, cut ids t (t + 1))) := by
    intro b' hb'
    unfold blv at hb'
    split at hb'
    · left
      rw [hB]
      rcases List.mem_append.mp hb' with z | z
      · exact List.mem_append_left _ z
      · exact List.mem_append_right _ (List.mem_cons_of_mem _ z)
    · rename_i hne1
      rcases List.mem_append.mp hb' with z | z
      · left; rw [hB]; exact List.mem_append_left _ z
      · rcases List.mem_cons.mp z with z | z
        · exact Or.inr ⟨hne1, z⟩
        · left; rw [hB]; exact List.mem_append_right _ (List.mem_cons_of_mem _ z)
  have hlsub : (labs (blv B1 lab ids B2 t)).Sublist (labs (xb x r)) := by
    rw [hB]
    unfold blv labs
    split
    · rw [List.map_append, List.map_append, List.map_cons]
      exact (List.Sublist.refl _).append (List.sublist_cons_self _ _)
    · rw [List.map_append, List.map_append, List.map_cons, List.map_cons]
      exact List.Sublist.refl _
  refine ⟨rfl, rfl, rfl, rfl, rfl, hbn, ?_, ?_, ?_, ?_⟩
  · funext s
    by_cases z : s = r
    · subst z; rw [va_up_self]; unfold sq; rw [hb]; exact hidl
    · rw [va_up_ne _ _ z]; unfold sq; rw [hbn s z]
  · refine Row_mk hb hk hk4 w3 w1 w2 (hs.sublist hlsub) (fun d hd => hL d (hlsub.subset hd)) (fun b' hb' => ?_) (fun z b' hb' => ?_) (fun z b' hb' => ?_)
    · rcases hfrom b' hb' with q | ⟨q1, q2⟩
      · exact hne b' q
      · subst q2
        intro z
        have z' : cut ids t (t + 1) = [] := z
        have := cut_len (l := ids) (f := t) (u := t + 1) (by omega) (by omega)
        rw [z', List.length_nil] at this
        omega
    · rcases hfrom b' hb' with q | ⟨q1, q2⟩
      · exact h1 z b' q
      · exact absurd (h1 z _ hmid) q1
    · rcases hfrom b' hb' with q | ⟨q1, q2⟩
      · exact h2 z b' q
      · subst q2
        obtain ⟨c1, c2, c3⟩ := h2 z _ hmid
        have hs := cut_sub (l := ids) (f := t) (u := t + 1) (by omega)
        exact ⟨Nat.le_trans hs.length_le c1, c2.sublist hs, fun d hd => c3 d (hs.subset hd)⟩
  · intro b' hb'
    rw [hb] at hb'
    rcases hfrom b' hb' with q | ⟨q1, q2⟩
    · exact ⟨b', q, rfl, fun _ he => he⟩
    · subst q2
      exact ⟨(lab, ids), hmid, rfl, fun e he => cut_mem he⟩
  · have e : mkl x r (ahd x r p) (ids.getD t 0) = mko x r p 1 := by
      funext m
      unfold mkl mko
      have hp2 : p < (sq x r).length := by rw [hsq, List.length_append, List.length_append]; omega
      have e2 : seg (sq x r) p 1 = [ids.getD t 0] := by
        rw [seg_s hp2]
        unfold seg
        rw [List.take_zero, hsq, hp, gD_in ht]
      rw [e2]
      simp only [List.map_cons, List.map_nil, List.mem_singleton]
    have e3 : xm (xLv x r (blv B1 lab ids B2 t) (ahd x r p) (ids.getD t 0)) = va_up (xm x) 2 (mkl x r (ahd x r p) (ids.getD t 0)) := rfl
    rw [e3, e]
theorem TOr_ok (h : LvOk x r k) (hr : r < 8) (hT : TOr x r p n x1) (hpn : p + n ≤ (sq x r).length) : LvOk x1 r k := by
  obtain ⟨hI, hR, hn, hlt, hk, hk4⟩ := h
  obtain ⟨t1, t2, t3, t4, t5, t6, t7, t8, t9, t10⟩ := hT
  have e : sq x1 r = cut (sq x r) p (p + n) := by rw [t7, va_up_self]
  refine ⟨fun s hs => ?_, t8, by rw [e]; exact hn.sublist (cut_sub (by omega)), fun d hd => hlt d (cut_mem (by rw [← e]; exact hd)), by rw [t1]; exact hk, hk4⟩
  by_cases z : s = r
  · subst z
    have hne : ∀ b ∈ xb x1 s, b.2 ≠ [] := by
      rcases t8 with ⟨q, -⟩ | ⟨-, w, -, -, -, -, a2, -⟩
      · exact absurd q (by rw [t1, hk]; exact ne_m1 (by omega))
      · exact fun b hb => (a2 b hb).2
    have h1 := bl_len2 hne
    have h2 : (idl (xb x1 s)).length = (cut (sq x s) p (p + n)).length := by rw [← e]; rfl
    have h3 := cut_len (l := sq x s) (f := p) (u := p + n) (by omega) hpn
    have h4 : (sq x s).length ≤ 600 := (hI s hs).1
    omega
  · rw [t6 s z]; exact hI s hs
theorem TOr_tr (h : LvOk x r k) (h1 : TOr x r p 1 x1) (h2 : TOr x1 r p n x2) (hpn : p + (n + 1) ≤ (sq x r).length) : TOr x r p (n + 1) x2 := by
  obtain ⟨a1, a2, a3, a4, a5, a6, a7, a8, a9, a10⟩ := h1
  obtain ⟨b1, b2, b3, b4, b5, b6, b7, b8, b9, b10⟩ := h2
  have e1 : sq x1 r = cut (sq x r) p (p + 1) := by rw [a7, va_up_self]
  have hah : ahd x1 r p = ahd x r p := by
    unfold ahd
    by_cases z : p = 0
    · rw [if_pos z, if_pos z]
    · rw [if_neg z, if_neg z, e1, cut_lt (by omega) (by omega) (by omega)]
  refine ⟨b1.trans a1, b2.trans a2, b3.trans a3, b4.trans a4, b5.trans a5, fun s hs => (b6 s hs).trans (a6 s hs), ?_, b8, fun b' hb' => ?_, ?_⟩
  · rw [b7]
    funext s
    by_cases z : s = r
    · subst z; rw [va_up_self, va_up_self, e1, cut_cut (by omega)]
    · rw [va_up_ne _ _ z, va_up_ne _ _ z, a7, va_up_ne _ _ z]
  · obtain ⟨c, hc, e2, e3⟩ := b9 b' hb'
    obtain ⟨d, hd, e4, e5⟩ := a9 c hc
    exact ⟨d, hd, e2.trans e4, fun e he => e5 e (e3 e he)⟩
  · have hlt := h.2.2.2.1
    have hnd := h.2.2.1
    rw [b10, a10, up_up]
    congr 1
    funext m
    have x1m1 : xm x1 1 m = xm x 1 m := by rw [a10, va_up_ne _ _ (by decide)]
    have x1m2 : xm x1 2 m = mko x r p 1 m := by rw [a10, va_up_self]
    have hsg : ∀ z ∈ seg (sq x r) (p + 1) n, z < 600 := fun z hz => hlt z (List.mem_of_mem_drop (List.mem_of_mem_take hz))
    unfold mko
    rw [x1m1, x1m2, hah, e1, seg_cut (by omega), seg_s (show p < (sq x r).length by omega)]
    unfold mko
    rw [seg_s (show p < (sq x r).length by omega)]
    have s0 : seg (sq x r) (p + 1) 0 = [] := by unfold seg; rw [List.take_zero]
    rw [s0]
    simp only [List.map_cons, List.map_nil, List.mem_cons, List.not_mem_nil, or_false]
    by_cases c1 : xm x 1 m = nI r
    · by_cases c2 : xm x 2 m = nI ((sq x r).getD p 0)
      · have hno : ahd x r p ∉ (seg (sq x r) (p + 1) n).map nI := by
          unfold ahd
          split
          · exact m1_mem hsg
          · rw [nI_mem (hlt _ (getD_mem (by omega))) hsg, seg_mem hnd (by omega) (by omega)]
            omega
        rw [if_pos (show xm x 1 m = nI r ∧ xm x 2 m = nI ((sq x r).getD p 0) from ⟨c1, c2⟩), if_neg (fun z => hno z.2), if_pos ⟨c1, Or.inl c2⟩]
      · rw [if_neg (show ¬ (xm x 1 m = nI r ∧ xm x 2 m = nI ((sq x r).getD p 0)) from fun z => c2 z.2)]
        by_cases c3 : xm x 2 m ∈ (seg (sq x r) (p + 1) n).map nI
        · rw [if_pos ⟨c1, c3⟩, if_pos ⟨c1, Or.inr c3⟩]
        · rw [if_neg (fun z => c3 z.2), if_neg (fun z => z.2.elim c2 c3)]
    · rw [if_neg (show ¬ (xm x 1 m = nI r ∧ xm x 2 m = nI ((sq x r).getD p 0)) from fun z => c1 z.1), if_neg (fun z => c1 z.1), if_neg (fun z => c1 z.1)]
def evn (l : List Nat) : Nat := l.countP (fun d => decide (d % 2 = 0))
theorem p_takeOut_11 (hr : r < 8) : ∀ (g i c N : Nat) (x : XS) (v : MS), LvOk x r k → MA (core v) x → p + g ≤ (sq x r).length → i + g = N → N ≤ 600 → ∀ m, g < m →
    ∃ v' x', f_X4_takeOut_11 m (nI r) (nI p) (nI N) (nI c) (nI i) v = some (nI (c + evn (seg (sq x r) p g)), v') ∧ Fm [] [4, 6, 7, 8, 13, 23] [9] v v' ∧ MA (core v') x' ∧ TOr x r p g x' ∧ (∀ j, j < g → v'.2.1 23 (i + j) = nI ((sq x r).getD (p + j) 0)) ∧ ∀ j, j < i → v'.2.1 23 j = v.2.1 23 j := by
  intro g
  induction g with
  | zero =>
    intro i c N x v hL hM _ hi hN m hm
    obtain ⟨m, rfl⟩ : ∃ q, m = q + 1 := ⟨m - 1, by omega⟩
    refine ⟨v, x, ?_, Fm.rf, hM, TOr_0 hL.2.1, fun j hj => absurd hj (Nat.not_lt_zero _), fun _ _ => rfl⟩
    rw [f_X4_takeOut_11, if_pos (nI_le (by omega) (by omega))]
    rfl
  | succ g ih =>
    intro i c N x v hL hM hp hi hN m hm
    obtain ⟨m, rfl⟩ : ∃ q, m = q + 1 := ⟨m - 1, by omega⟩
    obtain ⟨-, hne, h1, -⟩ := row_parts hL
    have hL' := hL
    obtain ⟨hI, hR, hn, hlt, hk, hk4⟩ := hL
    have hp2 : p < (idl (xb x r)).length := by
      have : (idl (xb x r)).length = (sq x r).length := rfl
      omega
    have hl6 := (hI r hr).1
    obtain ⟨B1, lab, ids, B2, t, hB, hpe, ht⟩ := blk_in (xb x r) p hp2
    have hsq : sq x r = idl B1 ++ (ids ++ idl B2) := by unfold sq; rw [hB, idl_app, idl_cons]
    have e7 : v.2.1 7 (600 * r + p) = nI ((sq x r).getD p 0) := hM.2.2.1 r hr p (by omega)
    have hdm : (sq x r).getD p 0 = ids.getD t 0 := by rw [hsq, hpe, gD_in ht]
    have hd6 := hlt _ (getD_mem (l := sq x r) (i := p) (by omega))
    have hMg : MA (core (mA v 23 i (nI ((sq x r).getD p 0)))) x := by
      obtain ⟨m1, m2, m3, m4, m5, m6, m7, m8⟩ := hM
      have o : ∀ f, f ≠ 23 → (core (mA v 23 i (nI ((sq x r).getD p 0)))).1 f = v.2.1 f := fun f hf => mA_k hf
      refine ⟨fun s hs => ?_, fun s hs => ?_, fun s hs j hj => ?_, m4, fun s hs z => ?_, fun s hs z d hd => ?_, fun q hq => ?_, m8⟩
      · rw [o 2 (by decide), o 3 (by decide), o 5 (by decide)]; exact m1 s hs
      · rw [o 4 (by decide)]; exact m2 s hs
      · rw [o 7 (by decide)]; exact m3 s hs j hj
      · rw [o 6 (by decide), o 8 (by decide)]; exact m5 s hs z
      · rw [o 11 (by decide)]; exact m6 s hs z d hd
      · rw [o 12 (by decide), o 13 (by decide), o 14 (by decide)]; exact m7 q hq
    obtain ⟨v1, g1, f1, hM1⟩ := p_leave (T := 0) (v := mA v 23 i (nI ((sq x r).getD p 0))) hMg hI hr hk hk4 hB ht (fun z => h1 z (lab, ids) (by rw [hB]; simp)) hlt hne
    rw [← hpe] at g1 hM1
    have hT1 := TOr_1 hL' hB ht hpe
    have hL1 := TOr_ok hL' hr hT1 (by omega)
    have hs1 : sq (xLv x r (blv B1 lab ids B2 t) (ahd x r p) (ids.getD t 0)) r = cut (sq x r) p (p + 1) := by rw [hT1.2.2.2.2.2.2.1, va_up_self]
    have hcl := cut_len (l := sq x r) (f := p) (u := p + 1) (by omega) (by omega)
    obtain ⟨v2, x2, g2, f2, hM2, hT2, h23, h23'⟩ := ih (i + 1) (c + (if (sq x r).getD p 0 % 2 = 0 then 1 else 0)) N _ v1 hL1 hM1 (by rw [hs1]; omega) (by omega) hN m (by omega)
    have hev : evn (seg (sq x r) p (g + 1)) = (if (sq x r).getD p 0 % 2 = 0 then 1 else 0) + evn (seg (sq x r) (p + 1) g) := by
      rw [seg_s (by omega)]
      unfold evn
      rw [List.countP_cons]
      simp only [decide_eq_true_eq]
      omega
    rw [hs1, seg_cut (by omega)] at g2
    have v123 : v1.2.1 23 = (mA v 23 i (nI ((sq x r).getD p 0))).2.1 23 := f1.2.1 23 (by decide)
    refine ⟨v2, x2, ?_, ?_, hM2, TOr_tr hL' hT1 hT2 (by omega), fun j hj => ?_, fun j hj => ?_⟩
    · rw [f_X4_takeOut_11, if_neg (nI_ge (by omega) (by omega)), ml_L, nI_add, if_pos (ix_nI (by omega) (by omega)), if_pos (ix_nI (by omega) (by omega)), if_pos (ix_nI (by omega) (by omega)), nI_clamp (by omega), nI_clamp (by omega), e7, mA_at, rem2 (by omega), g1, Option.bind_some, Option.bind_some, nI_1]
      by_cases z : (sq x r).getD p 0 % 2 = 0
      · rw [if_pos (by rw [z]; rfl), nI_1]
        rw [if_pos z] at g2 hev
        rw [g2, hev, show c + 1 + evn (seg (sq x r) (p + 1) g) = c + (1 + evn (seg (sq x r) (p + 1) g)) from by omega]
      · rw [if_neg (nI_ne0 (by omega) (by omega))]
        rw [if_neg z] at g2 hev
        have e0 : nI c + 0 = nI (c + 0) := nI_add c 0
        rw [e0, nI_1, g2, hev, show c + 0 + evn (seg (sq x r) (p + 1) g) = c + (0 + evn (seg (sq x r) (p + 1) g)) from by omega]
    · exact ((Fm.rf.pA (by decide)).tr (f1.up (by decide) (by decide) (by decide))).tr f2
    · match j with
      | 0 =>
        rw [Nat.add_zero, Nat.add_zero, h23' i (by omega), v123, mA_at]
      | j + 1 =>
        rw [show i + (j + 1) = i + 1 + j from by omega, h23 j (by omega), hs1, cut_ge (by omega) (by omega) (by omega)]
        congr 2
        omega
    · rw [h23' j (by omega), v123, mA_i (by omega)]
end TAKE
