/-! ===== families in families: lists of things and ENDs ===== -/
theorem run_e {d : Nat} {l st : List Nat} (h : d % 2 = 0) : run (d :: l) st = run l (d :: st) := by
  rw [run.eq_def]
  dsimp only
  rw [if_pos h]
theorem run_o0 {d : Nat} {l : List Nat} (h : ¬ d % 2 = 0) : run (d :: l) [] = none := by
  rw [run.eq_def]
  dsimp only
  rw [if_neg h]
theorem run_o {d e : Nat} {l st : List Nat} (h : ¬ d % 2 = 0) : run (d :: l) (e :: st) = if e + 1 = d then run l st else none := by
  rw [run.eq_def]
  dsimp only
  rw [if_neg h]
theorem run_n (st : List Nat) : run [] st = some st := by rw [run.eq_def]
theorem run_app : ∀ (l1 l2 st : List Nat), run (l1 ++ l2) st = (run l1 st).bind (run l2) := by
  intro l1
  induction l1 with
  | nil => intro l2 st; rw [run_n]; rfl
  | cons d l ih =>
    intro l2 st
    rw [List.cons_append]
    by_cases h : d % 2 = 0
    · rw [run_e h, run_e h, ih]
    · match st with
      | [] => rw [run_o0 h, run_o0 h]; rfl
      | e :: st =>
        rw [run_o h, run_o h]
        by_cases h2 : e + 1 = d
        · rw [if_pos h2, if_pos h2, ih]
        · rw [if_neg h2, if_neg h2]; rfl
theorem run_fr : ∀ {l st st' : List Nat} (b : List Nat), run l st = some st' → run l (st ++ b) = some (st' ++ b) := by
  intro l
  induction l with
  | nil => intro st st' b h; rw [run_n] at h ⊢; cases h; rfl
  | cons d l ih =>
    intro st st' b h
    by_cases hd : d % 2 = 0
    · rw [run_e hd] at h ⊢
      exact ih b h
    · match st, h with
      | [], h => rw [run_o0 hd] at h; cases h
      | e :: st, h =>
        rw [run_o hd] at h
        rw [List.cons_append, run_o hd]
        by_cases h2 : e + 1 = d
        · rw [if_pos h2] at h ⊢
          exact ih b h
        · rw [if_neg h2] at h; cases h
theorem run_bal {l : List Nat} (h : run l [] = some []) (b : List Nat) : run l b = some b := run_fr b h
/-- what is open is closed somewhere -/
theorem run_close : ∀ (n : Nat) {l : List Nat} {e : Nat} {st : List Nat}, l.length ≤ n → run l (e :: st) = some [] → ∃ m l3, l = m ++ (e + 1) :: l3 ∧ run m [] = some [] ∧ run l3 st = some [] := by
  intro n
  induction n with
  | zero =>
    intro l e st hl h
    have : l = [] := List.length_eq_zero_iff.mp (by omega)
    subst this
    rw [run_n] at h; cases h
  | succ n ih =>
    intro l e st hl h
    match l, h with
    | [], h => rw [run_n] at h; cases h
    | d :: l, h =>
      rw [List.length_cons] at hl
      by_cases hd : d % 2 = 0
      · rw [run_e hd] at h
        obtain ⟨m1, l1, e1, r1, r2⟩ := ih (by omega) h
        have hl1 : l1.length ≤ n := by
          rw [e1, List.length_append, List.length_cons] at hl
          omega
        obtain ⟨m2, l2, e2, r3, r4⟩ := ih hl1 r2
        refine ⟨d :: m1 ++ (d + 1) :: m2, l2, by rw [e1, e2]; simp, ?_, r4⟩
        rw [List.cons_append, run_e hd, run_app, run_bal r1, Option.bind_some, run_o (by omega), if_pos rfl, r3]
      · rw [run_o hd] at h
        by_cases h2 : e + 1 = d
        · rw [if_pos h2] at h
          exact ⟨[], l, by rw [h2]; rfl, run_n [], h⟩
        · rw [if_neg h2] at h; cases h
theorem run_st : ∀ {l st st' : List Nat}, run l st = some st' → ∀ e ∈ st', (e ∈ l ∧ e % 2 = 0) ∨ e ∈ st := by
  intro l
  induction l with
  | nil => intro st st' h e he; rw [run_n] at h; cases h; exact Or.inr he
  | cons d l ih =>
    intro st st' h e he
    by_cases hd : d % 2 = 0
    · rw [run_e hd] at h
      rcases ih h e he with ⟨q1, q2⟩ | q
      · exact Or.inl ⟨List.mem_cons_of_mem _ q1, q2⟩
      · rcases List.mem_cons.mp q with q | q
        · subst q; exact Or.inl ⟨List.mem_cons_self, hd⟩
        · exact Or.inr q
    · match st, h with
      | [], h => rw [run_o0 hd] at h; cases h
      | f :: st, h =>
        rw [run_o hd] at h
        by_cases h2 : f + 1 = d
        · rw [if_pos h2] at h
          rcases ih h e he with ⟨q1, q2⟩ | q
          · exact Or.inl ⟨List.mem_cons_of_mem _ q1, q2⟩
          · exact Or.inr (List.mem_cons_of_mem _ q)
        · rw [if_neg h2] at h; cases h
theorem run_evn : ∀ {l st st' : List Nat}, run l st = some st' → 2 * evn l + st.length = l.length + st'.length := by
  intro l
  induction l with
  | nil => intro st st' h; rw [run_n] at h; cases h; simp [evn]
  | cons d l ih =>
    intro st st' h
    have hc : evn (d :: l) = evn l + (if d % 2 = 0 then 1 else 0) := by
      unfold evn
      rw [List.countP_cons]
      simp only [decide_eq_true_eq]
    by_cases hd : d % 2 = 0
    · rw [run_e hd] at h
      rw [if_pos hd] at hc
      have := ih h
      rw [List.length_cons] at this ⊢
      omega
    · rw [if_neg hd] at hc
      match st, h with
      | [], h => rw [run_o0 hd] at h; cases h
      | f :: st, h =>
        rw [run_o hd] at h
        by_cases h2 : f + 1 = d
        · rw [if_pos h2] at h
          have := ih h
          rw [List.length_cons, List.length_cons]
          omega
        · rw [if_neg h2] at h; cases h
/-- a thing, what is within it, its END -/
theorem run_thing {l : List Nat} {t : Nat} (h : run l [] = some []) (ht : 2 * t ∈ l) : ∃ l1 m l3 st, l = l1 ++ (2 * t :: (m ++ (2 * t + 1) :: l3)) ∧ run m [] = some [] ∧ run l1 [] = some st ∧ run l3 st = some [] := by
  obtain ⟨l1, l2, e⟩ := List.append_of_mem ht
  rw [e, run_app] at h
  cases h1 : run l1 [] with
  | none => rw [h1] at h; cases h
  | some st =>
    rw [h1, Option.bind_some, run_e (by omega)] at h
    obtain ⟨m, l3, e2, r1, r2⟩ := run_close l2.length (Nat.le_refl _) h
    exact ⟨l1, m, l3, st, by rw [e, e2], r1, h1, r2⟩
theorem pos_app_l {l m : List Nat} {d : Nat} (h : d ∈ l) : pos (l ++ m) d = pos l d := by
  unfold pos
  rw [List.idxOf_append, if_pos h]
theorem pos_app_r {l m : List Nat} {d : Nat} (h : d ∉ l) : pos (l ++ m) d = l.length + pos m d := by
  unfold pos
  rw [List.idxOf_append, if_neg h, Nat.add_comm]
theorem pos_hd {l : List Nat} {d : Nat} : pos (d :: l) d = 0 := by unfold pos; rw [List.idxOf_cons_self]
theorem pos_tl {l : List Nat} {d e : Nat} (h : e ≠ d) : pos (e :: l) d = pos l d + 1 := by
  unfold pos
  rw [List.idxOf_cons, beq_eq_false_iff_ne.mpr h]
  rfl
section NEST
variable {l : List Nat}
/-- where a thing and its END stand, and what lies between -/
theorem thing_at (h : run l [] = some []) (hn : l.Nodup) {t : Nat} (ht : 2 * t ∈ l) : 2 * t + 1 ∈ l ∧ pos l (2 * t) < pos l (2 * t + 1) ∧ run (seg l (pos l (2 * t)) (pos l (2 * t + 1) + 1 - pos l (2 * t))) [] = some [] ∧ run (seg l (pos l (2 * t) + 1) (pos l (2 * t + 1) - pos l (2 * t) - 1)) [] = some [] := by
  obtain ⟨l1, m, l3, st, e, r1, r2, r3⟩ := run_thing h ht
  have hn' := hn
  rw [e] at hn'
  obtain ⟨n1, n2, n3⟩ := List.nodup_append.mp hn'
  have h1 : 2 * t ∉ l1 := fun z => n3 _ z _ List.mem_cons_self rfl
  have h2 : 2 * t + 1 ∉ l1 := fun z => n3 _ z _ (List.mem_cons_of_mem _ (List.mem_append_right _ List.mem_cons_self)) rfl
  obtain ⟨n4, n5⟩ := List.nodup_cons.mp n2
  obtain ⟨n6, n7, n8⟩ := List.nodup_append.mp n5
  have h3 : 2 * t + 1 ∉ m := fun z => n8 _ z _ List.mem_cons_self rfl
  have p1 : pos l (2 * t) = l1.length := by rw [e, pos_app_r h1, pos_hd, Nat.add_zero]
  have p2 : pos l (2 * t + 1) = l1.length + (m.length + 1) := by
    rw [e, pos_app_r h2, pos_tl (by omega), pos_app_r h3, pos_hd, Nat.add_zero]
  refine ⟨by rw [e]; simp, by omega, ?_, ?_⟩
  · rw [p1, p2, show l1.length + (m.length + 1) + 1 - l1.length = m.length + 2 from by omega]
    have es : seg l l1.length (m.length + 2) = 2 * t :: (m ++ [2 * t + 1]) := by
      unfold seg
      rw [e, List.drop_left, List.take_succ_cons, List.take_append, List.take_of_length_le (by omega), show m.length + 1 - m.length = 1 from by omega, List.take_succ_cons, List.take_zero]
    rw [es, run_e (by omega), run_app, run_bal r1, Option.bind_some, run_o (by omega), if_pos rfl, run_n]
  · rw [p1, p2, show l1.length + (m.length + 1) - l1.length - 1 = m.length from by omega]
    have es : seg l (l1.length + 1) m.length = m := by
      unfold seg
      rw [e, show l1 ++ 2 * t :: (m ++ (2 * t + 1) :: l3) = (l1 ++ [2 * t]) ++ (m ++ (2 * t + 1) :: l3) from by simp, show l1.length + 1 = (l1 ++ [2 * t]).length from by rw [List.length_append]; rfl, List.drop_left, List.take_left]
    rw [es]; exact r1
/-- two things: one behind the other, or within it -/
theorem laminar (h : run l [] = some []) (hn : l.Nodup) {s t : Nat} (hs : 2 * s ∈ l) (ht : 2 * t ∈ l) (hst : pos l (2 * s) < pos l (2 * t)) : pos l (2 * s + 1) < pos l (2 * t) ∨ pos l (2 * t + 1) < pos l (2 * s + 1) := by
  obtain ⟨l1, m, l3, st, e, r1, r2, r3⟩ := run_thing h hs
  have hn' := hn
  rw [e] at hn'
  obtain ⟨n1, n2, n3⟩ := List.nodup_append.mp hn'
  have h1 : 2 * s ∉ l1 := fun z => n3 _ z _ List.mem_cons_self rfl
  have h2 : 2 * s + 1 ∉ l1 := fun z => n3 _ z _ (List.mem_cons_of_mem _ (List.mem_append_right _ List.mem_cons_self)) rfl
  obtain ⟨n4, n5⟩ := List.nodup_cons.mp n2
  obtain ⟨n6, n7, n8⟩ := List.nodup_append.mp n5
  have h3 : 2 * s + 1 ∉ m := fun z => n8 _ z _ List.mem_cons_self rfl
  have p1 : pos l (2 * s) = l1.length := by rw [e, pos_app_r h1, pos_hd, Nat.add_zero]
  have p2 : pos l (2 * s + 1) = l1.length + (m.length + 1) := by
    rw [e, pos_app_r h2, pos_tl (by omega), pos_app_r h3, pos_hd, Nat.add_zero]
  have hst2 : 2 * s ≠ 2 * t := fun z => by rw [z] at hst; omega
  have htl1 : 2 * t ∉ l1 := fun z => by
    have : pos l (2 * t) < l1.length := by rw [e, pos_app_l z]; exact pos_lt z
    omega
  by_cases hm : 2 * t ∈ m
  · right
    obtain ⟨q1, q2, -⟩ := thing_at r1 n6 hm
    have htl1' : 2 * t + 1 ∉ l1 := fun z => n3 _ z _ (List.mem_cons_of_mem _ (List.mem_append_left _ q1)) rfl
    have : pos l (2 * t + 1) = l1.length + (pos m (2 * t + 1) + 1) := by
      rw [e, pos_app_r htl1', pos_tl (by omega), pos_app_l q1]
    have := pos_lt q1
    omega
  · left
    have ht3 : 2 * t ∈ l3 := by
      rw [e] at ht
      rcases List.mem_append.mp ht with z | z
      · exact absurd z htl1
      · rcases List.mem_cons.mp z with z | z
        · exact absurd z.symm hst2
        · rcases List.mem_append.mp z with z | z
          · exact absurd z hm
          · rcases List.mem_cons.mp z with z | z
            · omega
            · exact z
    have : pos l (2 * t) = l1.length + (m.length + (pos l3 (2 * t) + 1) + 1) := by
      rw [e, pos_app_r htl1, pos_tl hst2, pos_app_r hm, pos_tl (by omega)]
    omega
/-- s has t within it -/
def enc (l : List Nat) (s t : Nat) : Prop := pos l (2 * s) < pos l (2 * t) ∧ pos l (2 * t) < pos l (2 * s + 1)
theorem enc_end (h : run l [] = some []) (hn : l.Nodup) {s t : Nat} (hs : 2 * s ∈ l) (ht : 2 * t ∈ l) (he : enc l s t) : pos l (2 * t + 1) < pos l (2 * s + 1) := by
  rcases laminar h hn hs ht he.1 with q | q
  · have := he.2; omega
  · exact q
theorem enc_tr (h : run l [] = some []) (hn : l.Nodup) {s t u : Nat} (hs : 2 * s ∈ l) (ht : 2 * t ∈ l) (h1 : enc l s t) (h2 : enc l t u) : enc l s u := by
  have := enc_end h hn hs ht h1
  exact ⟨by have := h1.1; have := h2.1; omega, by have := h2.2; omega⟩
/-- of two that have u within them the one ahead has the other one within it -/
theorem enc_two (h : run l [] = some []) (hn : l.Nodup) {s t u : Nat} (hs : 2 * s ∈ l) (ht : 2 * t ∈ l) (h1 : enc l s u) (h2 : enc l t u) (hst : pos l (2 * s) < pos l (2 * t)) : enc l s t := by
  refine ⟨hst, ?_⟩
  rcases laminar h hn hs ht hst with q | q
  · have := h1.2; have := h2.1; omega
  · have := (thing_at h hn ht).2.1; omega
/-- what stands ahead of a thing that is within none is whole -/
theorem run_top (h : run l [] = some []) (hn : l.Nodup) {t : Nat} (ht : 2 * t ∈ l) (hno : ∀ s, 2 * s ∈ l → ¬ enc l s t) : run (l.take (pos l (2 * t))) [] = some [] ∧ run (l.drop (pos l (2 * t + 1) + 1)) [] = some [] := by
  obtain ⟨l1, m, l3, st, e, r1, r2, r3⟩ := run_thing h ht
  have hn' := hn
  rw [e] at hn'
  obtain ⟨n1, n2, n3⟩ := List.nodup_append.mp hn'
  have h1 : 2 * t ∉ l1 := fun z => n3 _ z _ List.mem_cons_self rfl
  have h2 : 2 * t + 1 ∉ l1 := fun z => n3 _ z _ (List.mem_cons_of_mem _ (List.mem_append_right _ List.mem_cons_self)) rfl
  obtain ⟨n4, n5⟩ := List.nodup_cons.mp n2
  obtain ⟨n6, n7, n8⟩ := List.nodup_append.mp n5
  have h3 : 2 * t + 1 ∉ m := fun z => n8 _ z _ List.mem_cons_self rfl
  have p1 : pos l (2 * t) = l1.length := by rw [e, pos_app_r h1, pos_hd, Nat.add_zero]
  have p2 : pos l (2 * t + 1) = l1.length + (m.length + 1) := by
    rw [e, pos_app_r h2, pos_tl (by omega), pos_app_r h3, pos_hd, Nat.add_zero]
  have hst : st = [] := by
    match st, r2, r3 with
    | [], _, _ => rfl
    | f :: st, r2, r3 =>
      exfalso
      rcases run_st r2 f List.mem_cons_self with ⟨q1, q2⟩ | q
      · obtain ⟨s, rfl⟩ : ∃ s, f = 2 * s := ⟨f / 2, by omega⟩
        obtain ⟨m', l4, e4, -, -⟩ := run_close l3.length (Nat.le_refl _) r3
        have hm3 : 2 * s + 1 ∈ l3 := by rw [e4]; simp
        have hm : 2 * s ∈ l := by rw [e]; exact List.mem_append_left _ q1
        refine hno s hm ⟨?_, ?_⟩
        · rw [p1, e, pos_app_l q1]; exact pos_lt q1
        · have z1 : 2 * s + 1 ∉ l1 := fun z => n3 _ z _ (List.mem_cons_of_mem _ (List.mem_append_right _ (List.mem_cons_of_mem _ hm3))) rfl
          rw [p1, e, pos_app_r z1]
          have : pos (2 * t :: (m ++ (2 * t + 1) :: l3)) (2 * s + 1) ≠ 0 := by
            rw [pos_tl (by omega)]
            omega
          omega
      · exact absurd q List.not_mem_nil
  subst hst
  constructor
  · rw [p1, e, List.take_left]; exact r2
  · rw [p2, e, show l1 ++ 2 * t :: (m ++ (2 * t + 1) :: l3) = (l1 ++ 2 * t :: (m ++ [2 * t + 1])) ++ l3 from by simp, show l1.length + (m.length + 1) + 1 = (l1 ++ 2 * t :: (m ++ [2 * t + 1])).length from by rw [List.length_append, List.length_cons, List.length_append]; simp; omega, List.drop_left]
    exact r3
theorem bal_mem (h : run l [] = some []) (hn : l.Nodup) {d : Nat} (hd : d ∈ l) : 2 * (d / 2) ∈ l ∧ 2 * (d / 2) + 1 ∈ l := by
  have h1 : 2 * (d / 2) ∈ l := by
    by_cases z : d % 2 = 0
    · rw [show 2 * (d / 2) = d from by omega]; exact hd
    · rcases run_odd h d hd (by omega) with q | q
      · rw [show 2 * (d / 2) = d - 1 from by omega]; exact q
      · exact absurd q List.not_mem_nil
  exact ⟨h1, (thing_at h hn h1).1⟩
end NEST
