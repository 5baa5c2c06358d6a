/-! ===== drop ===== -/
theorem cut_seg_disj {l : List Nat} {f n d : Nat} (hn : l.Nodup) (h : f + n ≤ l.length) (hd : d ∈ cut l f (f + n)) : d ∉ seg l f n := by
  intro z
  obtain ⟨i, hi, e⟩ := List.mem_iff_getElem.mp hd
  rw [cut_len (by omega) h] at hi
  rw [← gD (d := 0)] at e
  obtain ⟨j, hj, e2⟩ := List.mem_iff_getElem.mp z
  rw [seg_len2 h] at hj
  rw [← gD (d := 0), seg_gD h hj] at e2
  by_cases y : i < f
  · rw [cut_lt (by omega) h y] at e
    have := nd_inj hn (i := i) (j := f + j) (by omega) (by omega) (by rw [e, e2])
    omega
  · rw [cut_ge (by omega) h (by omega)] at e
    have := nd_inj hn (i := i + (f + n - f)) (j := f + j) (by omega) (by omega) (by rw [e, e2])
    omega
theorem split3 {l : List Nat} {f n : Nat} : l = l.take f ++ (seg l f n ++ l.drop (f + n)) := by
  unfold seg
  have : (l.drop f).drop n = l.drop (f + n) := by rw [List.drop_drop]
  rw [← this, List.take_append_drop, List.take_append_drop]
theorem run_cut {l : List Nat} {f n : Nat} (h : run l [] = some []) (hs : run (seg l f n) [] = some []) : run (cut l f (f + n)) [] = some [] := by
  rw [split3 (l := l) (f := f) (n := n), run_app] at h
  unfold cut
  rw [run_app]
  cases h1 : run (l.take f) [] with
  | none => rw [h1] at h; cases h
  | some st =>
    rw [h1, Option.bind_some, run_app, run_bal hs, Option.bind_some] at h
    rw [Option.bind_some]
    exact h
section DROP
variable {a : SS} {x : XS} {T r f n : Nat}
theorem sep_of (hI : Inv T x) (hr : r < 8) (hfn : f + n ≤ (sq x r).length) (hb : xk x r = 3 → run (seg (sq x r) f n) [] = some []) : ∀ i, f ≤ i → i < f + n → ∀ e ∈ cut (sq x r) f (f + n), e / 2 ≠ (sq x r).getD i 0 / 2 := by
  intro i h1 h2 e he z
  have hn := hI.2.2.1 r hr
  have hsm : (sq x r).getD i 0 ∈ seg (sq x r) f n := (seg_mem hn hfn (by omega)).mpr ⟨h1, h2⟩
  have hne := cut_seg_disj hn hfn he
  by_cases w : xk x r = 3
  · have hsn : (seg (sq x r) f n).Nodup := (hn.sublist (List.drop_sublist _ _)).sublist (List.take_sublist _ _)
    obtain ⟨m1, m2⟩ := bal_mem (hb w) hsn hsm
    rcases Nat.mod_two_eq_zero_or_one e with y | y
    · exact hne (by rw [show e = 2 * ((sq x r).getD i 0 / 2) from by omega]; exact m1)
    · exact hne (by rw [show e = 2 * ((sq x r).getD i 0 / 2) + 1 from by omega]; exact m2)
  · have e1 := hI.2.2.2.2.2.1 r hr w e (cut_mem he)
    have e2 := hI.2.2.2.2.2.1 r hr w _ (getD_mem (l := sq x r) (i := i) (by omega))
    exact hne (by rw [show e = (sq x r).getD i 0 from by omega]; exact hsm)
theorem q_lastPlace (hC : CA a x) (hI : Inv T x) (hN : Nest x) {t : Nat} (hr : r < 8) (hm : 2 * t ∈ sq x r) : f_X2_lastPlace (nI t) a = some (nI (off x r + (pos (sq x r) (2 * t) + spn x r t) - 1)) ∧ pos (sq x r) (2 * t) + spn x r t ≤ (sq x r).length ∧ 0 < spn x r t := by
  have ht6 := sq_lt hI hr hm
  have hp := pos_lt hm
  unfold f_X2_lastPlace spn
  rw [q_nested hC hI hr hm, Option.bind_some]
  by_cases w : xk x r = 3
  · obtain ⟨t1, t2, -⟩ := thing_at (hN r hr w) (hI.2.2.1 r hr) hm
    have hp2 := pos_lt t1
    rw [if_pos w, if_pos w]
    have e1 : f_X3_standOf (nI t) 1 = some (nI (2 * t + 1)) := standOf_eq (by omega) 1 (by omega)
    refine ⟨?_, by omega, by omega⟩
    rw [e1, Option.bind_some, q_placeOf hC hI hr t1, Option.bind_some]
    congr 2
    omega
  · rw [if_neg w, if_neg w]
    have e1 : f_X3_standOf (nI t) 0 = some (nI (2 * t + 0)) := standOf_eq (by omega) 0 (by omega)
    refine ⟨?_, by omega, by omega⟩
    rw [e1, Option.bind_some, Nat.add_zero, q_placeOf hC hI hr hm, Option.bind_some]
    congr 2
theorem spn_bal (hI : Inv T x) (hN : Nest x) {t : Nat} (hr : r < 8) (hm : 2 * t ∈ sq x r) : xk x r = 3 → run (seg (sq x r) (pos (sq x r) (2 * t)) (spn x r t)) [] = some [] := by
  intro w
  obtain ⟨t1, t2, t3, -⟩ := thing_at (hN r hr w) (hI.2.2.1 r hr) hm
  have e : spn x r t = pos (sq x r) (2 * t + 1) + 1 - pos (sq x r) (2 * t) := by
    unfold spn
    rw [if_pos w]
    omega
  rw [e]; exact t3
theorem q_passage {w : HS} {l : List Nat} (hfn : f + n ≤ l.length) (h6 : n ≤ 600) (hd : ∀ d ∈ l, d < 600) (hp : ∀ i, i < n → w.2.2.2.1 i = nI (l.getD (f + i) 0)) : f_X3_thingsInPassage (nI n) w = some (nI (evn (seg l f n))) := by
  have hl := seg_len2 hfn
  unfold f_X3_thingsInPassage
  refine loopE (fun m i => f_X3_thingsInPassage_4 m (nI n) (nI (evn ((seg l f n).take i))) (nI i) w) (a := 0) (b := n) (Nat.zero_le _) (NF_lt (by omega)) (fun m i h1 h2 => ?_) (fun m => ?_)
  · have hm := hd _ (getD_mem (l := l) (i := f + i) (by omega))
    rw [f_X3_thingsInPassage_4, if_neg (nI_ge (by omega) (by omega)), if_neg (show ¬ (600 : Int32) ≤ nI i from nI_ge (b := 600) (by omega) (by omega)), if_pos (ix_nI (by omega) (by omega)), nI_clamp (by omega), hp i h2, isEnd_eq hm, Option.bind_some, evn_s (by omega), seg_gD hfn h2, nI_1]
    by_cases z : l.getD (f + i) 0 % 2 = 0
    · rw [if_pos z, if_pos rfl, if_pos z, nI_1]
    · rw [if_neg z, if_neg (by decide), if_neg z, nI_1]
      rfl
  · rw [f_X3_thingsInPassage_4, if_pos (nI_le (Nat.le_refl _) (by omega))]
    rw [List.take_of_length_le (by omega)]
theorem Nest_cut {x' : XS} (hN : Nest x) (hr : r < 8) (hb : xk x r = 3 → run (seg (sq x r) f n) [] = some []) (h1 : sq x' = va_up (sq x) r (cut (sq x r) f (f + n))) (h2 : xk x' = xk x) : Nest x' := by
  intro s hs w
  rw [h2] at w
  rw [h1]
  by_cases z : s = r
  · subst z
    rw [va_up_self]
    exact run_cut (hN s hs w) (hb w)
  · rw [va_up_ne _ _ z]
    exact hN s hs w
end DROP
theorem st_drop : Sp_drop Rl := by
  intro u v x1 hr
  obtain ⟨T, n, N, E, h1, h2, h3, h4, h5, h6, h7, h8, h9, h10, h11, h12⟩ := id hr
  obtain ⟨x, hC, hM, hV, hNe⟩ := id h11
  have hnow : Now u v T x := ⟨hC, hM, hV, hNe, h5, h6⟩
  have hM' : MA (core (mF v 0 0)) x := by rw [core_th]; exact hM
  have h6' : (mF v 0 0).1 1 = nI T := by rw [th_1 (by decide)]; exact h6
  rcases thg_dec x x1 with ⟨t, r, hq⟩ | hno
  · have a1 := q_isStanding hnow hq
    have a2 := p_isThing hM' hV h6' hq
    obtain ⟨rfl, hr8, hm⟩ := hq
    have hk := row_nz hV hr8 hm
    have hl6 := len600 hV hr8
    have ho6 := off_le6 hV hr8
    obtain ⟨l1, l2, l3⟩ := q_lastPlace hC hV hNe hr8 hm
    have hbal := spn_bal hV hNe hr8 hm
    obtain ⟨v1, v2, s1, s2, s3, s4, s5, s6, s7, s8, s9⟩ := save_keep (v := mF v 0 0) h4 h2 (by rw [th_1 (by decide)]; exact h10) (by rw [th_1 (by decide)]; exact h8)
    have hM2 : MA (core v2) x := by
      refine MA_CQ hV ?_ hM'
      unfold core CQ
      dsimp only
      exact ⟨fun i _ => by rw [s6 2 (by decide)], fun i _ => by rw [s6 3 (by decide)], fun i _ => by rw [s6 4 (by decide)], fun i _ => by rw [s6 5 (by decide)], fun i _ => by rw [s6 6 (by decide)], fun i _ => by rw [s6 7 (by decide)], fun i _ => by rw [s6 8 (by decide)], fun i _ => by rw [s6 11 (by decide)], fun i _ => by rw [s6 12 (by decide)], fun i _ => by rw [s6 13 (by decide)], fun i _ => by rw [s6 14 (by decide)], fun i _ => by rw [s7 9 (by decide)], fun i _ => by rw [s7 10 (by decide)], s5 15 (by decide) (by decide) (by decide)⟩
    obtain ⟨a', pas', v', x', g1, g2, fF, hC', hM'', hV', hsq, hxk, h24, h23, hpas⟩ := take_main hC hM2 hV hr8 hk l2 (sep_of hV hr8 l2 hbal) u.2.2.2.1
    have hbg : (bgn u N).2.2.2.2.1 = u.2.2.2.2.1 := rfl
    have hbp : (bgn u N).2.2.2.1 = u.2.2.2.1 := rfl
    have b1 : f_X3_drop (nI t) u = some (nI (evn (seg (sq x r) (pos (sq x r) (2 * t)) (spn x r t))), hI (hI (hP (hN (bgn u N) a') pas') 3 (nI ((N + 1) % 9))) 4 (nI (if n < 8 then n + 1 else 8))) := by
      unfold f_X3_drop
      rw [a1, Option.bind_some, if_neg (by decide), q_rowT hC hV hr8 hm, Option.bind_some, begin_eq h3 h9, Option.bind_some, hbg, hbp, q_first2 hC hV hr8 hm, Option.bind_some, l1, Option.bind_some, nI_1, show off x r + (pos (sq x r) (2 * t) + spn x r t) - 1 + 1 = off x r + (pos (sq x r) (2 * t) + spn x r t) from by omega, g1, Option.bind_some]
      have e := end_yes (w := hP (hN (bgn u N) a') pas') h3 h2 h9 h7
      have e' : f_X3_endChange 1 (hP (hN (bgn u N) (nI (spn x r t), (a', pas')).2.1) (nI (spn x r t), (a', pas')).2.2) = some (hI (hI (hP (hN (bgn u N) a') pas') 3 (nI ((N + 1) % 9))) 4 (nI (if n < 8 then n + 1 else 8))) := e
      rw [e', Option.bind_some]
      have e2 := q_passage (w := hI (hI (hP (hN (bgn u N) a') pas') 3 (nI ((N + 1) % 9))) 4 (nI (if n < 8 then n + 1 else 8))) l2 (by omega) (fun d hd => sq_lt hV hr8 hd) hpas
      have e2' : f_X3_thingsInPassage (nI (spn x r t), (a', pas')).1 (hI (hI (hP (hN (bgn u N) a') pas') 3 (nI ((N + 1) % 9))) 4 (nI (if n < 8 then n + 1 else 8))) = _ := e2
      rw [e2', Option.bind_some]
    have b2 : f_X4_drop (nI t) v = some (nI (evn (seg (sq x r) (pos (sq x r) (2 * t)) (spn x r t))), v') := by
      unfold f_X4_drop
      rw [a2, Option.bind_some, if_neg (by decide), s1, Option.bind_some, s2, Option.bind_some, p_rowT hM2 hV hr8 hm, Option.bind_some, p_placeT hM2 hV hr8 hm, Option.bind_some, p_span hM2 hV hNe hr8 hm, Option.bind_some, g2, Option.bind_some]
    refine ⟨_, _, b1, b2, rfl, Rl_change (v := v) h2 h3 h4 (Nat.le_refl T) h1 h11 h12 ?_ hI_at ?_ rfl ?_ ?_ ?_ ?_ (fun q hq hq2 => ?_) ⟨x', hC', hM'', hV', Nest_cut hNe hr8 hbal hsq hxk⟩⟩
    · rw [hI_ne (by decide), hI_ne (by decide)]; exact h5
    · rw [hI_ne (by decide), hI_at]
    · exact (fF.1 1 (by decide)).trans ((s5 1 (by decide) (by decide) (by decide)).trans ((th_1 (by decide)).trans h6))
    · exact (fF.1 18 (by decide)).trans s3
    · exact (fF.1 19 (by decide)).trans s4
    · rw [slot_Fm fF (by decide) (by decide), ← core_th]; exact s8
    · rw [slot_Fm fF (by decide) (by decide)]; exact s9 q hq hq2
  · refine ⟨(-3, u), (-3, mF v 0 0), ?_, ?_, rfl, Rl_th hr⟩
    · unfold f_X3_drop
      rw [q_isStanding_no hnow hno, Option.bind_some, if_pos rfl]
    · unfold f_X4_drop
      rw [p_isThing_no hM' hV h6' hno, Option.bind_some, if_pos rfl]
