/-! ===== depth, meet ===== -/
/-- d is a thing that has t within it -/
def wib (x : XS) (r t d : Nat) : Bool := decide (xk x r = 3) && (decide (d % 2 = 0) && (decide (pos (sq x r) d < pos (sq x r) (2 * t)) && decide (pos (sq x r) (2 * t) < pos (sq x r) (d + 1))))
theorem wib_iff {x : XS} {r t d : Nat} : wib x r t d = true ↔ d % 2 = 0 ∧ Wi x r (d / 2) t := by
  unfold wib Wi enc
  simp only [Bool.and_eq_true, decide_eq_true_eq]
  constructor
  · rintro ⟨h1, h2, h3, h4⟩
    have e : 2 * (d / 2) = d := by omega
    rw [e]
    exact ⟨h2, h1, h3, h4⟩
  · rintro ⟨h2, h1, h3, h4⟩
    have e : 2 * (d / 2) = d := by omega
    rw [e] at h3 h4
    exact ⟨h1, h2, h3, h4⟩
def ecn (x : XS) (r t : Nat) : Nat := (sq x r).countP (wib x r t)
theorem cnt_one {l : List Nat} {p q : Nat → Bool} {e : Nat} (hn : l.Nodup) (he : e ∈ l) (hq : q e = false) (hp : ∀ d ∈ l, p d = true ↔ (q d = true ∨ d = e)) : l.countP p = l.countP q + 1 := by
  induction l with
  | nil => exact absurd he List.not_mem_nil
  | cons a l ih =>
    obtain ⟨n1, n2⟩ := List.nodup_cons.mp hn
    rw [List.countP_cons, List.countP_cons]
    rcases List.mem_cons.mp he with z | z
    · subst z
      have e1 : l.countP p = l.countP q := by
        refine List.countP_congr (fun d hd => ?_)
        rw [hp d (List.mem_cons_of_mem _ hd)]
        exact ⟨fun y => y.elim id (fun w => absurd (w ▸ hd) n1), Or.inl⟩
      have e2 : p e = true := (hp e List.mem_cons_self).mpr (Or.inr rfl)
      rw [e1, e2, hq]
      simp
    · have e1 := ih n2 z (fun d hd => hp d (List.mem_cons_of_mem _ hd))
      have hae : a ≠ e := fun w => n1 (w ▸ z)
      have e2 : p a = q a := by
        have := hp a List.mem_cons_self
        cases h1 : q a with
        | true => exact this.mpr (Or.inl h1)
        | false =>
          cases h2 : p a with
          | false => rfl
          | true =>
            rcases this.mp h2 with w | w
            · rw [h1] at w; cases w
            · exact absurd w hae
      rw [e1, e2]
      omega
section DEEP
variable {a : SS} {v : MS} {x : XS} {T r t : Nat}
theorem Wi_tr (hI : Inv T x) (hN : Nest x) (hr : r < 8) {s u : Nat} (ht : 2 * t ∈ sq x r) (hs : 2 * s ∈ sq x r) (h1 : Wi x r t s) (h2 : Wi x r s u) : Wi x r t u := ⟨h1.1, enc_tr (hN r hr h1.1) (hI.2.2.1 r hr) ht hs h1.2 h2.2⟩
theorem Wi_two (hI : Inv T x) (hN : Nest x) (hr : r < 8) {s u : Nat} (hs : 2 * s ∈ sq x r) (ht : 2 * t ∈ sq x r) (h1 : Wi x r s u) (h2 : Wi x r t u) (hst : pos (sq x r) (2 * s) < pos (sq x r) (2 * t)) : Wi x r s t := ⟨h1.1, enc_two (hN r hr h1.1) (hI.2.2.1 r hr) hs ht h1.2 h2.2 hst⟩
/-- the next one outwards -/
theorem out_cases (hI : Inv T x) (hN : Nest x) (hr : r < 8) (hm : 2 * t ∈ sq x r) {y : Int32} (h : Inm x r t t y) : (∃ o, 2 * o ∈ sq x r ∧ y = nI o ∧ Wi x r o t ∧ (∀ o', 2 * o' ∈ sq x r → Wi x r o' t → o' = o ∨ Wi x r o' o) ∧ ecn x r t = ecn x r o + 1) ∨ ((∀ o, 2 * o ∈ sq x r → ¬ Wi x r o t) ∧ y = -1 ∧ ecn x r t = 0) := by
  rcases h with ⟨o, a1, a2, -, a4, a5⟩ | ⟨a1, a2⟩
  · have key : ∀ o', 2 * o' ∈ sq x r → Wi x r o' t → o' = o ∨ Wi x r o' o := by
      intro o' o1 o2
      have := a5 o' o1 o2 o2
      by_cases z : pos (sq x r) (2 * o') = pos (sq x r) (2 * o)
      · exact Or.inl (by have := pos_inj o1 a1 z; omega)
      · exact Or.inr (Wi_two hI hN hr o1 a1 o2 a2 (by omega))
    refine Or.inl ⟨o, a1, a4, a2, key, ?_⟩
    refine cnt_one (hI.2.2.1 r hr) a1 ?_ (fun d hd => ?_)
    · cases h1 : wib x r o (2 * o) with
      | false => rfl
      | true =>
        have := (wib_iff.mp h1).2
        rw [show 2 * o / 2 = o from by omega] at this
        have := Wi_pos this
        omega
    · rw [wib_iff, wib_iff]
      constructor
      · rintro ⟨z1, z2⟩
        have e : 2 * (d / 2) = d := by omega
        rcases key (d / 2) (by rw [e]; exact hd) z2 with w | w
        · exact Or.inr (by omega)
        · exact Or.inl ⟨z1, w⟩
      · rintro (⟨z1, z2⟩ | z)
        · have e : 2 * (d / 2) = d := by omega
          exact ⟨z1, Wi_tr hI hN hr (by rw [e]; exact hd) a1 z2 a2⟩
        · subst z
          rw [show 2 * o / 2 = o from by omega]
          exact ⟨by omega, a2⟩
  · have h1 : ∀ o, 2 * o ∈ sq x r → ¬ Wi x r o t := fun o o1 o2 => a1 o o1 o2 o2
    refine Or.inr ⟨h1, a2, ?_⟩
    unfold ecn
    rw [List.countP_eq_zero]
    intro d hd z
    obtain ⟨z1, z2⟩ := wib_iff.mp z
    exact h1 (d / 2) (by rw [show 2 * (d / 2) = d from by omega]; exact hd) z2
theorem p_depth10 (hM : MA (core v) x) (hI : Inv T x) (hN : Nest x) (hr : r < 8) : ∀ (n t c : Nat) (y : Int32), pos (sq x r) (2 * t) ≤ n → 2 * t ∈ sq x r → Inm x r t t y → ∀ m, n + 1 < m → f_X4_depthOf_10 m (nI r) (nI c) y v = some (nI (c + ecn x r t)) := by
  intro n
  induction n with
  | zero =>
    intro t c y hp hm hy m hmm
    obtain ⟨m, rfl⟩ : ∃ q, m = q + 1 := ⟨m - 1, by omega⟩
    rcases out_cases hI hN hr hm hy with ⟨o, o1, o2, o3, o4, o5⟩ | ⟨o1, o2, o3⟩
    · have := Wi_pos o3; omega
    · rw [f_X4_depthOf_10, if_pos o2, o3]
      rfl
  | succ n ih =>
    intro t c y hp hm hy m hmm
    obtain ⟨m, rfl⟩ : ∃ q, m = q + 1 := ⟨m - 1, by omega⟩
    rcases out_cases hI hN hr hm hy with ⟨o, o1, o2, o3, o4, o5⟩ | ⟨o1, o2, o3⟩
    · have hpo := Wi_pos o3
      have ho6 := sq_lt hI hr o1
      obtain ⟨y2, g, hy2⟩ := p_outer hM hI hN hr o1
      rw [f_X4_depthOf_10, o2, if_neg (ne_m1 (by omega)), g, Option.bind_some, nI_1, ih o (c + 1) y2 (by omega) o1 hy2 m (by omega), o5]
      congr 2
      omega
    · rw [f_X4_depthOf_10, if_pos o2, o3]
      rfl
theorem p_depth (hM : MA (core v) x) (hI : Inv T x) (hN : Nest x) (hr : r < 8) (hm : 2 * t ∈ sq x r) : f_X4_depthOf (nI r) (nI t) v = some (nI (ecn x r t)) := by
  obtain ⟨y, g, hy⟩ := p_outer hM hI hN hr hm
  have hp := pos_lt hm
  have hl := len600 hI hr
  unfold f_X4_depthOf
  have := p_depth10 hM hI hN hr (pos (sq x r) (2 * t)) t 0 y (Nat.le_refl _) hm hy NF (NF_lt (by omega))
  rw [Nat.zero_add] at this
  rw [g, Option.bind_some]
  exact this
theorem q_depth (hC : CA a x) (hI : Inv T x) (hN : Nest x) (hr : r < 8) (hm : 2 * t ∈ sq x r) : f_X2_enclosingCount (nI t) a = some (nI (ecn x r t)) := by
  have h6 := off_le6 hI hr
  have hen := q_end hC hr
  unfold f_X2_enclosingCount
  rw [q_rowT hC hI hr hm, Option.bind_some, q_first hC hr, Option.bind_some]
  refine loopE (fun m i => f_X2_enclosingCount_21 m (nI t) (nI r) (nI (((sq x r).take i).countP (wib x r t))) (nI (off x r + i)) a) (a := 0) (b := (sq x r).length) (Nat.zero_le _) (NF_lt (by omega)) (fun m i h1 h2 => ?_) (fun m => ?_)
  · have hd := sq_lt hI hr (getD_mem (l := sq x r) (i := i) (by omega))
    have hc : ((sq x r).take (i + 1)).countP (wib x r t) = ((sq x r).take i).countP (wib x r t) + (if wib x r t ((sq x r).getD i 0) = true then 1 else 0) := by
      rw [take_s h2, List.countP_append, List.countP_cons, List.countP_nil, Nat.zero_add]
    have hth : f_X3_thingOf (nI ((sq x r).getD i 0)) = some (nI ((sq x r).getD i 0 / 2)) := by unfold f_X3_thingOf; rw [shr1 (by omega)]
    have hcomp : 2 * ((sq x r).getD i 0 / 2) ∈ sq x r := comp hI hN hr (getD_mem h2)
    rw [f_X2_enclosingCount_21, hen, Option.bind_some, if_neg (nI_ge (by omega) (by omega)), q_standR hC hI hr h2, Option.bind_some, isEnd_eq hd, Option.bind_some, hth, Option.bind_some, hc, nI_1]
    by_cases z : (sq x r).getD i 0 % 2 = 0
    · rw [if_pos z, if_pos rfl]
      by_cases w : Wi x r ((sq x r).getD i 0 / 2) t
      · rw [(q_enc hC hI hN hr hcomp hm).1 w, Option.bind_some, if_neg (by decide), if_pos (wib_iff.mpr ⟨z, w⟩), nI_1]
        rfl
      · rw [(q_enc hC hI hN hr hcomp hm).2 w, Option.bind_some, if_pos rfl, if_neg (fun y => w (wib_iff.mp y).2)]
        rfl
    · rw [if_neg z, if_neg (by decide), if_neg (fun y => z (wib_iff.mp y).1)]
      rfl
  · rw [f_X2_enclosingCount_21, hen, Option.bind_some, if_pos (nI_le (Nat.le_refl _) (by omega)), List.take_length]
    rfl
/-- the model's way outwards, where neither has the other within it -/
theorem p_meet47 (hM : MA (core v) x) (hI : Inv T x) (hN : Nest x) (hr : r < 8) {s : Nat} (hs : 2 * s ∈ sq x r) : ∀ (n t : Nat), pos (sq x r) (2 * t) ≤ n → 2 * t ∈ sq x r → t ≠ s → ¬ Wi x r t s → ∀ m, n + 2 < m →
    (Wi x r s t → f_X4_meet_47 m (nI s) (nI r) (nI t) v = some (nI s, v)) ∧ (¬ Wi x r s t → ∃ y, f_X4_meet_47 m (nI s) (nI r) (nI t) v = some (y, v) ∧ Inm x r t s y) := by
  have hs6 := sq_lt hI hr hs
  intro n
  induction n with
  | zero =>
    intro t hp hm hne hnw m hmm
    obtain ⟨m, rfl⟩ : ∃ q, m = q + 2 := ⟨m - 2, by omega⟩
    have ht6 := sq_lt hI hr hm
    obtain ⟨y, g, hy⟩ := p_outer hM hI hN hr hm
    rcases out_cases hI hN hr hm hy with ⟨o, o1, o2, o3, o4, o5⟩ | ⟨o1, o2, o3⟩
    · have := Wi_pos o3; omega
    · refine ⟨fun w => absurd w (o1 s hs), fun _ => ⟨-1, ?_, Or.inr ⟨fun o p1 p2 => absurd p2 (o1 o p1), rfl⟩⟩⟩
      rw [f_X4_meet_47, if_neg (ne_m1 (by omega)), if_neg (fun z => hne ((nI_eq (by omega) (by omega)).mp z)), (p_within hM hI hN hr hm hs).2 hnw, Option.bind_some, if_pos rfl, g, Option.bind_some, o2, f_X4_meet_47, if_pos rfl]
  | succ n ih =>
    intro t hp hm hne hnw m hmm
    obtain ⟨m, rfl⟩ : ∃ q, m = q + 1 := ⟨m - 1, by omega⟩
    have ht6 := sq_lt hI hr hm
    obtain ⟨y, g, hy⟩ := p_outer hM hI hN hr hm
    have g0 : f_X4_meet_47 (m + 1) (nI s) (nI r) (nI t) v = f_X4_meet_47 m (nI s) (nI r) y v := by
      rw [f_X4_meet_47, if_neg (ne_m1 (by omega)), if_neg (fun z => hne ((nI_eq (by omega) (by omega)).mp z)), (p_within hM hI hN hr hm hs).2 hnw, Option.bind_some, if_pos rfl, g, Option.bind_some]
    rcases out_cases hI hN hr hm hy with ⟨o, o1, o2, o3, o4, o5⟩ | ⟨o1, o2, o3⟩
    · have hpo := Wi_pos o3
      have ho6 := sq_lt hI hr o1
      rw [g0, o2]
      obtain ⟨m, rfl⟩ : ∃ q, m = q + 1 := ⟨m - 1, by omega⟩
      constructor
      · intro w
        rcases o4 s hs w with z | z
        · subst z
          rw [f_X4_meet_47, if_neg (ne_m1 (by omega)), if_pos rfl]
        · have h1 : o ≠ s := fun e => by
            subst e
            have := Wi_pos z
            omega
          have h2 : ¬ Wi x r o s := fun e => by
            have := Wi_pos z
            have := Wi_pos e
            omega
          exact (ih o (by omega) o1 h1 h2 (m + 1) (by omega)).1 z
      · intro w
        have h1 : o ≠ s := fun e => w (e ▸ o3)
        by_cases h2 : Wi x r o s
        · refine ⟨nI o, ?_, Or.inl ⟨o, o1, o3, h2, rfl, fun o' p1 p2 p3 => ?_⟩⟩
          · rw [f_X4_meet_47, if_neg (ne_m1 (by omega)), if_neg (fun z => h1 ((nI_eq (by omega) (by omega)).mp z)), (p_within hM hI hN hr o1 hs).1 h2, Option.bind_some, if_neg (by decide)]
          · rcases o4 o' p1 p2 with z | z
            · rw [z]; exact Nat.le_refl _
            · exact Nat.le_of_lt (Wi_pos z)
        · have h3 : ¬ Wi x r s o := fun e => w (Wi_tr hI hN hr hs o1 e o3)
          obtain ⟨y', k1, k2⟩ := (ih o (by omega) o1 h1 h2 (m + 1) (by omega)).2 h3
          refine ⟨y', k1, ?_⟩
          rcases k2 with ⟨p, q1, q2, q3, q4, q5⟩ | ⟨q1, q2⟩
          · refine Or.inl ⟨p, q1, Wi_tr hI hN hr q1 o1 q2 o3, q3, q4, fun o' p1 p2 p3 => ?_⟩
            rcases o4 o' p1 p2 with z | z
            · subst z; exact absurd p3 h2
            · exact q5 o' p1 z p3
          · refine Or.inr ⟨fun o' p1 p2 p3 => ?_, q2⟩
            rcases o4 o' p1 p2 with z | z
            · subst z; exact h2 p3
            · exact q1 o' p1 z p3
    · rw [g0, o2]
      obtain ⟨m, rfl⟩ : ∃ q, m = q + 1 := ⟨m - 1, by omega⟩
      refine ⟨fun w => absurd w (o1 s hs), fun _ => ⟨-1, ?_, Or.inr ⟨fun o p1 p2 => absurd p2 (o1 o p1), rfl⟩⟩⟩
      rw [f_X4_meet_47, if_pos rfl]
end DEEP
theorem st_depth : Sp_depth Rl := by
  intro u v x1 hr
  obtain ⟨T, x, h⟩ := hr.now
  have h' := p_th h
  obtain ⟨hC, hM, hI, hN, h5, h6⟩ := id h
  obtain ⟨-, hM', -, -, -, h6'⟩ := id h'
  rcases thg_dec x x1 with ⟨t, r, hq⟩ | hno
  · have a1 := q_isStanding h hq
    have a2 := p_isThing hM' hI h6' hq
    obtain ⟨rfl, hr8, hm⟩ := hq
    refine ⟨nI (ecn x r t), (nI (ecn x r t), mF v 0 0), ?_, ?_, rfl, Rl_th hr⟩
    · unfold f_X3_depth
      rw [a1, Option.bind_some, if_neg (by decide), q_depth hC hI hN hr8 hm, Option.bind_some]
    · unfold f_X4_depth
      rw [a2, Option.bind_some, if_neg (by decide), p_rowT hM' hI hr8 hm, Option.bind_some, p_depth hM' hI hN hr8 hm, Option.bind_some]
  · refine ⟨-3, (-3, mF v 0 0), ?_, ?_, rfl, Rl_th hr⟩
    · unfold f_X3_depth
      rw [q_isStanding_no h hno, Option.bind_some, if_pos rfl]
    · unfold f_X4_depth
      rw [p_isThing_no hM' hI h6' hno, Option.bind_some, if_pos rfl]
theorem st_meet : Sp_meet Rl := by
  intro u v x1 x2 hr
  obtain ⟨T, x, h⟩ := hr.now
  obtain ⟨f1, f2, f3⟩ := q_fault h x1 x2
  have h' := p_th h
  obtain ⟨hC, hM, hI, hN, h5, h6⟩ := id h
  obtain ⟨-, hM', -, -, -, h6'⟩ := id h'
  rcases pair_cases x x1 x2 with q | ⟨q1, q2⟩ | ⟨t, r, s, q, rfl, rfl, hr8, hm, hq8, hs⟩
  · refine ⟨-3, (-3, mF v 0 0), ?_, ?_, rfl, Rl_th hr⟩
    · unfold f_X3_meet
      rw [f1 q, Option.bind_some, if_neg (by decide)]
    · unfold f_X4_meet
      rw [p_isThing_no hM' hI h6' q, Option.bind_some, if_pos rfl]
  · obtain ⟨t, r, ht⟩ := q1
    refine ⟨-3, (-3, mF v 0 0), ?_, ?_, rfl, Rl_th hr⟩
    · unfold f_X3_meet
      rw [f2 ⟨t, r, ht⟩ q2, Option.bind_some, if_neg (by decide)]
    · unfold f_X4_meet
      rw [p_isThing hM' hI h6' ht, Option.bind_some, if_neg (by decide), p_isThing_no hM' hI h6' q2, Option.bind_some, if_pos rfl]
  · have g := f3 t r s q rfl rfl hr8 hm hq8 hs
    by_cases z : r = q
    · subst z
      rw [if_pos rfl] at g
      have hl := len600 hI hr8
      have p1 := pos_lt hm
      have ht6 := sq_lt hI hr8 hm
      have hs6 := sq_lt hI hr8 hs
      have b2 : f_X4_meet (nI t) (nI s) v = f_X4_meet_47 NF (nI s) (nI r) (nI t) (mF v 0 0) := by
        unfold f_X4_meet
        rw [p_isThing hM' hI h6' ⟨rfl, hr8, hm⟩, Option.bind_some, if_neg (by decide), p_isThing hM' hI h6' ⟨rfl, hr8, hs⟩, Option.bind_some, if_neg (by decide), p_apart hM' hI hr8 hm hr8 hs, Option.bind_some, if_pos rfl, if_pos rfl, p_rowT hM' hI hr8 hm, Option.bind_some]
      obtain ⟨nf, hnf⟩ := NF_s
      by_cases y : t = s
      · subst y
        refine ⟨nI t, (nI t, mF v 0 0), ?_, ?_, rfl, Rl_th hr⟩
        · unfold f_X3_meet
          rw [g, Option.bind_some, if_pos rfl, if_pos rfl]
        · rw [b2, hnf, f_X4_meet_47, if_neg (ne_m1 (by omega)), if_pos rfl]
      · have hts : ¬ nI t = nI s := fun w => y ((nI_eq (by omega) (by omega)).mp w)
        have b1 : f_X3_meet (nI t) (nI s) u = (f_X2_encloses (nI t) (nI s) u.2.2.2.2.1).bind (fun z5 => (if z5 = 0 then (f_X2_encloses (nI s) (nI t) u.2.2.2.2.1).bind (fun z8 => (if z8 = 0 then (f_X2_innermost (nI t) (nI s) u.2.2.2.2.1).bind (fun z11 => some z11) else some (nI s))) else some (nI t))) := by
          unfold f_X3_meet
          rw [g, Option.bind_some, if_pos rfl, if_neg hts]
        by_cases w1 : Wi x r t s
        · rw [(q_enc hC hI hN hr8 hm hs).1 w1, Option.bind_some, if_neg (by decide)] at b1
          refine ⟨_, (nI t, mF v 0 0), b1, ?_, rfl, Rl_th hr⟩
          rw [b2, hnf, f_X4_meet_47, if_neg (ne_m1 (by omega)), if_neg hts, (p_within hM' hI hN hr8 hm hs).1 w1, Option.bind_some, if_neg (by decide)]
        · rw [(q_enc hC hI hN hr8 hm hs).2 w1, Option.bind_some, if_pos rfl] at b1
          obtain ⟨k1, k2⟩ := p_meet47 hM' hI hN hr8 hs (pos (sq x r) (2 * t)) t (Nat.le_refl _) hm y w1 NF (NF_lt (by omega))
          by_cases w2 : Wi x r s t
          · rw [(q_enc hC hI hN hr8 hs hm).1 w2, Option.bind_some, if_neg (by decide)] at b1
            exact ⟨_, (nI s, mF v 0 0), b1, by rw [b2]; exact k1 w2, rfl, Rl_th hr⟩
          · obtain ⟨y2, k3, k4⟩ := k2 w2
            obtain ⟨y1, k5, k6⟩ := q_innermost hC hI hN hr8 hm hs
            rw [(q_enc hC hI hN hr8 hs hm).2 w2, Option.bind_some, if_pos rfl, k5, Option.bind_some] at b1
            exact ⟨_, (y2, mF v 0 0), b1, by rw [b2]; exact k3, Inm_uq k6 k4, Rl_th hr⟩
    · rw [if_neg z] at g
      refine ⟨-4, (-4, mF v 0 0), ?_, ?_, rfl, Rl_th hr⟩
      · unfold f_X3_meet
        rw [g, Option.bind_some, if_neg (by decide)]
      · unfold f_X4_meet
        rw [p_isThing hM' hI h6' ⟨rfl, hr8, hm⟩, Option.bind_some, if_neg (by decide), p_isThing hM' hI h6' ⟨rfl, hq8, hs⟩, Option.bind_some, if_neg (by decide), p_apart hM' hI hr8 hm hq8 hs, Option.bind_some, if_neg z, if_neg (by decide)]
