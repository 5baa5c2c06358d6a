/-! ===== the class: takeOut; both sides ===== -/
section TC
variable {a : SS} {x x' : XS} {T r f n : Nat}
theorem c_tk75 (hC : CA a x) (hI : Inv T x) (hr : r < 8) (hfn : f + n ≤ (sq x r).length) (pas : Nat → Int32) : ∃ m, f_X2_takeOut_75 NF (nI r) (nI (off x r + f)) (nI (off x r + (f + n))) (nI n) (ahd x r f) 0 (a, pas) = f_X2_takeOut_75 (m + 1) (nI r) (nI (off x r + f)) (nI (off x r + (f + n))) (nI n) (ahd x r f) (nI 20) (sK a (va_up a.2.1 2 (pt (a.2.1 2) (mko x r f n) 0 20)), pas) := by
  obtain ⟨c1, hO, c6, c7, c8, c9⟩ := CA_iff.mp hC
  obtain ⟨m, hm⟩ : ∃ m, NF = m + 1 + 20 := ⟨19979, NF_eq⟩
  refine ⟨m, ?_⟩
  rw [hm]
  have hle := off600 hI (r := r + 1) (by omega)
  have hle2 : off x r + (sq x r).length ≤ 600 := hle
  have hlt : ∀ z ∈ seg (sq x r) f n, z < 600 := fun z hz => sq_lt hI hr (List.mem_of_mem_drop (List.mem_of_mem_take hz))
  have key : ∀ i, i ≤ 20 → f_X2_takeOut_75 (m + 1 + 20) (nI r) (nI (off x r + f)) (nI (off x r + (f + n))) (nI n) (ahd x r f) 0 (a, pas) = f_X2_takeOut_75 (m + 1 + (20 - i)) (nI r) (nI (off x r + f)) (nI (off x r + (f + n))) (nI n) (ahd x r f) (nI i) (sK a (va_up a.2.1 2 (pt (a.2.1 2) (mko x r f n) 0 i)), pas) := by
    intro i
    induction i with
    | zero =>
      intro _
      have e : sK a (va_up a.2.1 2 (pt (a.2.1 2) (mko x r f n) 0 0)) = a := by rw [pt_0, up_id rfl]; rfl
      rw [e]
      rfl
    | succ i ih =>
      intro hi
      obtain ⟨m1, m2, m3⟩ := c8 i (by omega)
      have hs := pt_s (a.2.1 2) (mko x r f n) 0 i
      rw [Nat.zero_add] at hs
      have hk : pt (a.2.1 2) (mko x r f n) 0 i i = xm x 2 i := by rw [pt_out (by omega), m2]
      have hid : mko x r f n i = xm x 2 i → pt (a.2.1 2) (mko x r f n) 0 i = pt (a.2.1 2) (mko x r f n) 0 (i + 1) := by
        intro e1
        rw [← hs, e1, ← hk]
        funext z
        by_cases q : z = i
        · subst q; rw [pk_us]
        · rw [pk_un q]
      have hput : ∀ y, mko x r f n i = y → oA (va_up a.2.1 2 (pt (a.2.1 2) (mko x r f n) 0 i)) 2 i y = va_up a.2.1 2 (pt (a.2.1 2) (mko x r f n) 0 (i + 1)) := by
        intro y e1
        unfold oA
        rw [up_up, va_up_self, ← e1, hs]
      have r1 : (sK a (va_up a.2.1 2 (pt (a.2.1 2) (mko x r f n) 0 i))).2.1 1 i = xm x 1 i := by
        show va_up a.2.1 2 (pt (a.2.1 2) (mko x r f n) 0 i) 1 i = _
        rw [va_up_ne _ _ (by decide), m1]
      have r2 : (sK a (va_up a.2.1 2 (pt (a.2.1 2) (mko x r f n) 0 i))).2.1 2 i = xm x 2 i := by
        show va_up a.2.1 2 (pt (a.2.1 2) (mko x r f n) 0 i) 2 i = _
        rw [va_up_self, hk]
      rw [ih (by omega), show m + 1 + (20 - i) = (m + 1 + (20 - (i + 1))) + 1 from by omega, f_X2_takeOut_75, if_neg (show ¬ (20 : Int32) ≤ nI i from nI_ge (b := 20) (by omega) (by omega)), if_pos (ix_nI (by omega) (by omega)), nI_clamp (by omega), r1, nI_1]
      by_cases c1 : xm x 1 i = nI r
      · rw [if_pos c1, if_pos (ix_nI (by omega) (by omega)), r2]
        by_cases c2 : xm x 2 i = -1
        · have e1 : mko x r f n i = xm x 2 i := if_neg (fun z => m1_mem hlt (c2 ▸ z.2))
          rw [if_pos c2, hid e1]
        · rw [if_neg c2, if_pos (ix_nI (by omega) (by omega))]
          -- it is behind one of the row
          obtain ⟨d, hd, hd2⟩ : ∃ d ∈ sq x r, xm x 2 i = nI d := by
            rcases hI.2.2.2.2.2.2 i (by omega) with q | ⟨⟨s, hs8, q1, q2, q3⟩, q4⟩
            · rw [q] at c1
              exact absurd c1.symm (ne_m1 (by omega))
            · have : s = r := by
                rw [q1] at c1
                exact (nI_eq (by omega) (by omega)).mp c1
              subst this
              rcases q3 with q3 | q3
              · exact absurd q3 c2
              · exact q3
          have hpl : f_X1_placeOf (xm x 2 i) (sK a (va_up a.2.1 2 (pt (a.2.1 2) (mko x r f n) 0 i))).1 = some (nI (off x r + pos (sq x r) d)) := by
            rw [hd2]; exact q_placeOf hC hI hr hd
          have hpd := pos_lt hd
          have hmem : xm x 2 i ∈ (seg (sq x r) f n).map nI ↔ f ≤ pos (sq x r) d ∧ pos (sq x r) d < f + n := by
            rw [hd2, nI_mem (sq_lt hI hr hd) hlt]
            have := seg_mem (hI.2.2.1 r hr) (p := f) (n := n) (i := pos (sq x r) d) hfn hpd
            rw [pos_at hd] at this
            exact this
          have e5 : ∀ (y : Int32), sK (sK a (va_up a.2.1 2 (pt (a.2.1 2) (mko x r f n) 0 i))) (oA (sK a (va_up a.2.1 2 (pt (a.2.1 2) (mko x r f n) 0 i))).2.1 2 i y) = sK a (oA (va_up a.2.1 2 (pt (a.2.1 2) (mko x r f n) 0 i)) 2 i y) := fun y => rfl
          rw [hpl, Option.bind_some, if_pos (ix_nI (by omega) (by omega)), if_pos (ix_nI (by omega) (by omega)), if_pos (ix_nI (by omega) (by omega))]
          by_cases z1 : pos (sq x r) d < f
          · have e1 : mko x r f n i = xm x 2 i := if_neg (fun z => by have := (hmem.mp z.2).1; omega)
            rw [if_pos (nI_lt (by omega) (by omega)), ← hput _ e1]
            rfl
          · rw [if_neg (nI_nlt (by omega) (by omega))]
            by_cases z2 : f + n ≤ pos (sq x r) d
            · have e1 : mko x r f n i = xm x 2 i := if_neg (fun z => by have := (hmem.mp z.2).2; omega)
              rw [if_pos (nI_le (by omega) (by omega)), ← hput _ e1]
              rfl
            · have e1 : mko x r f n i = ahd x r f := if_pos ⟨c1, hmem.mpr ⟨by omega, by omega⟩⟩
              rw [if_neg (nI_ge (by omega) (by omega)), e5, hput _ e1]
      · have e1 : mko x r f n i = xm x 2 i := if_neg (fun z => c1 z.1)
        rw [if_neg c1, hid e1]
  have := key 20 (Nat.le_refl _)
  rw [this, Nat.sub_self, Nat.add_zero]
theorem c_takeOut (hC : CA a x) (hI : Inv T x) (hr : r < 8) (hfn : f + n ≤ (sq x r).length) (hsep : ∀ i, f ≤ i → i < f + n → ∀ e ∈ cut (sq x r) f (f + n), e / 2 ≠ (sq x r).getD i 0 / 2) (hT : TOr x r f n x') (pas : Nat → Int32) :
    ∃ a' pas', f_X2_takeOut (nI r) (nI (off x r + f)) (nI (off x r + (f + n))) (a, pas) = some (nI n, (a', pas')) ∧ CA a' x' ∧ ∀ i, i < n → pas' i = nI ((sq x r).getD (f + i) 0) := by
  obtain ⟨m, e75⟩ := c_tk75 hC hI hr hfn pas
  obtain ⟨c1, hO, c6, c7, c8, c9⟩ := CA_iff.mp hC
  obtain ⟨t1, t2, t3, t4, t5, t6, t7, t8, t9, t10⟩ := hT
  have hle := off600 hI (r := r + 1) (by omega)
  have hle2 : off x r + (sq x r).length ≤ 600 := hle
  have h8 : ofS (sq x) 8 ≤ 600 := by rw [← off_ofS]; exact off600 hI (Nat.le_refl _)
  have hoe : off x r = ofS (sq x) r := off_ofS x r
  obtain ⟨o', g1, hO'⟩ := o_remove (f := f) (u := f + n) hO h8 hr (by omega) hfn (fun e he => sq_lt hI hr he) (fun i h1 h2 s hs e he => by
    by_cases z : s = r
    · subst z
      rw [va_up_self] at he
      exact hsep i h1 h2 e he
    · rw [va_up_ne _ _ z] at he
      exact hI.2.2.2.1 s r hs hr z e he _ (getD_mem (by omega)))
  rw [← hoe] at g1
  have hfi : f_X1_first (nI r) a.1 = some (nI (off x r)) := q_first hC hr
  have hen : f_X1_end (nI r) a.1 = some (nI (off x r + (sq x r).length)) := q_end hC hr
  have g0 : f_X2_takeOut (nI r) (nI (off x r + f)) (nI (off x r + (f + n))) (a, pas) = f_X2_takeOut_75 NF (nI r) (nI (off x r + f)) (nI (off x r + (f + n))) (nI n) (ahd x r f) 0 (a, pas) := by
    unfold f_X2_takeOut
    have hsub : nI (off x r + (f + n)) - nI (off x r + f) = nI n := by
      rw [pk_sub (by omega)]
      congr 1
      omega
    rw [hsub]
    have hfi' : f_X1_first (nI r) (a, pas).1.1 = some (nI (off x r)) := hfi
    have hen' : f_X1_end (nI r) (a, pas).1.1 = some (nI (off x r + (sq x r).length)) := hen
    rw [hfi', Option.bind_some, if_neg (nI_nlt (by omega) (by omega)), if_neg (nI_pos (by omega)), hen', Option.bind_some, if_neg (nI_nlt (by omega) (by omega)), if_pos (show nI n ≤ 600 from nI_le (b := 600) (by omega) (by omega)), Option.bind_some]
    unfold ahd
    by_cases z : f = 0
    · rw [if_pos z, if_pos (nI_le (by omega) (by omega))]
    · have e1 : nI (off x r + f) - 1 = nI (ofS (sq x) r + (f - 1)) := by
        refine Eq.trans (pk_sub (a := off x r + f) (b := 1) (by omega)) ?_
        congr 1
        omega
      have hst : f_X1_standAt (nI (ofS (sq x) r + (f - 1))) (a, pas).1.1 = some (nI ((sq x r).getD (f - 1) 0)) := o_standAt hO h8 hr (by omega)
      rw [if_neg z, if_neg (nI_ge (by omega) (by omega)), e1, hst, Option.bind_some]
  have g2 : f_X2_takeOut_75 (m + 1) (nI r) (nI (off x r + f)) (nI (off x r + (f + n))) (nI n) (ahd x r f) (nI 20) (sK a (va_up a.2.1 2 (pt (a.2.1 2) (mko x r f n) 0 20)), pas) = some (nI n, (sO (sK a (va_up a.2.1 2 (pt (a.2.1 2) (mko x r f n) 0 20))) o', va_cpy (a.1 1) pas (off x r + f) 0 n)) := by
    have hac : acp (nI (off x r + f)) 0 (nI n) 600 600 = true := acp_nI (b := 0) (by omega) (by omega) (by omega) (by omega)
    have g1' : f_X1_remove (nI r) (nI (off x r + f)) (nI (off x r + (f + n))) (sK a (va_up a.2.1 2 (pt (a.2.1 2) (mko x r f n) 0 20)), va_cpy ((sK a (va_up a.2.1 2 (pt (a.2.1 2) (mko x r f n) 0 20)), pas).1.1 1) (sK a (va_up a.2.1 2 (pt (a.2.1 2) (mko x r f n) 0 20)), pas).2 (Int32.toNatClampNeg (nI (off x r + f))) (Int32.toNatClampNeg 0) (Int32.toNatClampNeg (nI n))).1.1 = some o' := g1
    rw [f_X2_takeOut_75, if_pos (show (20 : Int32) ≤ nI 20 by decide), if_pos hac, g1', Option.bind_some, nI_clamp (by omega), nI_clamp (by omega)]
    rfl
  refine ⟨_, _, by rw [g0, e75, g2], ?_, fun i hi => ?_⟩
  · refine CA_iff.mpr ⟨fun s hs => ?_, ?_, fun s hs b' hb' e he => ?_, fun s hs hk e he => ?_, fun q hq => ?_, ?_⟩
    · rw [t1, t2, t3]; exact c1 s hs
    · rw [t7]; exact hO'
    · show a.2.2.2.1 e = lN b'.1
      by_cases z : s = r
      · subst z
        obtain ⟨b, hb, q1, q2⟩ := t9 b' hb'
        rw [q1]
        exact c6 s hs b hb e (q2 e he)
      · rw [t6 s z] at hb'
        exact c6 s hs b' hb' e he
    · rw [t1] at hk
      rw [t4]
      refine c7 s hs hk e ?_
      rw [t7] at he
      by_cases z : s = r
      · subst z
        rw [va_up_self] at he
        exact cut_mem he
      · rw [va_up_ne _ _ z] at he
        exact he
    · rw [t10]
      show va_up a.2.1 2 (pt (a.2.1 2) (mko x r f n) 0 20) 1 q = va_up (xm x) 2 (mko x r f n) 1 q ∧ va_up a.2.1 2 (pt (a.2.1 2) (mko x r f n) 0 20) 2 q = va_up (xm x) 2 (mko x r f n) 2 q ∧ va_up a.2.1 2 (pt (a.2.1 2) (mko x r f n) 0 20) 3 q = va_up (xm x) 2 (mko x r f n) 3 q
      rw [va_up_ne _ _ (show (1 : Nat) ≠ 2 by decide), va_up_ne _ _ (show (1 : Nat) ≠ 2 by decide), va_up_self, va_up_self, va_up_ne _ _ (show (3 : Nat) ≠ 2 by decide), va_up_ne _ _ (show (3 : Nat) ≠ 2 by decide), pt_in (by omega) (by omega), Nat.sub_zero]
      exact ⟨(c8 q hq).1, rfl, (c8 q hq).2.2⟩
    · rw [t5]; exact c9
  · rw [pk_cpy_in (by omega) (by omega), Nat.sub_zero, hoe, Nat.add_assoc]
    exact hO.2.1 r hr (f + i) (by omega)
theorem TOr_inv (hI : Inv T x) (hr : r < 8) (hfn : f + n ≤ (sq x r).length) (hT : TOr x r f n x') : Inv T x' := by
  obtain ⟨t1, t2, t3, t4, t5, t6, t7, t8, t9, t10⟩ := hT
  obtain ⟨a1, a2, a3, a4, a5, a6, a7⟩ := id hI
  have hsub : ∀ s, ∀ e, e ∈ sq x' s → e ∈ sq x s := by
    intro s e he
    rw [t7] at he
    by_cases z : s = r
    · subst z; rw [va_up_self] at he; exact cut_mem he
    · rw [va_up_ne _ _ z] at he; exact he
  refine ⟨a1, fun s hs => ?_, fun s hs => ?_, fun s t hs ht hst e he g hg => a4 s t hs ht hst e (hsub s e he) g (hsub t g hg), fun s hs e he => a5 s hs e (hsub s e he), fun s hs hk e he => a6 s hs (by rw [t1] at hk; exact hk) e (hsub s e he), fun m hm => ?_⟩
  · by_cases z : s = r
    · subst z; exact t8
    · exact Row_fr (a2 s hs) (by rw [t1]) (by rw [t2]) (by rw [t3]) (t6 s z) (fun e _ => by rw [t4])
  · rw [t7]
    by_cases z : s = r
    · subst z; rw [va_up_self]; exact (a3 s hs).sublist (cut_sub (by omega))
    · rw [va_up_ne _ _ z]; exact a3 s hs
  · have hlt : ∀ z ∈ seg (sq x r) f n, z < 600 := fun z hz => sq_lt hI hr (List.mem_of_mem_drop (List.mem_of_mem_take hz))
    rw [t10, va_up_ne _ _ (show (1 : Nat) ≠ 2 by decide), va_up_self, va_up_ne _ _ (show (3 : Nat) ≠ 2 by decide), t1, t7]
    rcases a7 m hm with q | ⟨⟨s, hs, q1, q2, q3⟩, q4⟩
    · exact Or.inl q
    · refine Or.inr ⟨⟨s, hs, q1, q2, ?_⟩, q4⟩
      unfold mko
      by_cases z : s = r
      · subst z
        rw [va_up_self]
        by_cases w : xm x 2 m ∈ (seg (sq x s) f n).map nI
        · rw [if_pos ⟨q1, w⟩]
          unfold ahd
          by_cases w0 : f = 0
          · rw [if_pos w0]; exact Or.inl rfl
          · rw [if_neg w0]
            exact Or.inr ⟨_, cut_idx hfn (by omega) (by omega), rfl⟩
        · rw [if_neg (fun y => w y.2)]
          rcases q3 with q3 | ⟨d, hd, q3⟩
          · exact Or.inl q3
          · refine Or.inr ⟨d, ?_, q3⟩
            have hpd := pos_lt hd
            have hm2 := seg_mem (hI.2.2.1 s hs) (p := f) (n := n) (i := pos (sq x s) d) hfn hpd
            rw [pos_at hd] at hm2
            have hn2 : d ∉ seg (sq x s) f n := fun y => w (by rw [q3]; exact List.mem_map.mpr ⟨d, y, rfl⟩)
            rw [← pos_at hd]
            exact cut_idx hfn hpd (by
              rcases Nat.lt_or_ge (pos (sq x s) d) f with y | y
              · exact Or.inl y
              · rcases Nat.lt_or_ge (pos (sq x s) d) (f + n) with y2 | y2
                · exact absurd (hm2.mpr ⟨y, y2⟩) hn2
                · exact Or.inr y2)
      · rw [va_up_ne _ _ z, if_neg (fun y => z ((nI_eq (by omega) (by omega)).mp (q1.symm.trans y.1)))]
        exact q3
end TC
theorem core_24 {v : MS} {k : Nat} {y : Int32} (h : k ≠ 15) : core (mF v k y) = core v := by
  unfold core
  rw [mF_ne (Ne.symm h)]
  rfl
/-- some are taken out, on both sides -/
theorem take_main {a : SS} {v : MS} {x : XS} {T r f n : Nat} (hC : CA a x) (hM : MA (core v) x) (hI : Inv T x) (hr : r < 8) (hk : xk x r ≠ -1) (hfn : f + n ≤ (sq x r).length) (hsep : ∀ i, f ≤ i → i < f + n → ∀ e ∈ cut (sq x r) f (f + n), e / 2 ≠ (sq x r).getD i 0 / 2) (pas : Nat → Int32) :
    ∃ a' pas' v' x', f_X2_takeOut (nI r) (nI (off x r + f)) (nI (off x r + (f + n))) (a, pas) = some (nI n, (a', pas')) ∧ f_X4_takeOut (nI r) (nI f) (nI n) v = some (nI (evn (seg (sq x r) f n)), v') ∧ Fm [24] [4, 6, 7, 8, 13, 23] [9] v v' ∧ CA a' x' ∧ MA (core v') x' ∧ Inv T x' ∧ sq x' = va_up (sq x) r (cut (sq x r) f (f + n)) ∧ xk x' = xk x ∧ v'.1 24 = nI n ∧ (∀ i, i < n → v'.2.1 23 i = nI ((sq x r).getD (f + i) 0)) ∧ ∀ i, i < n → pas' i = nI ((sq x r).getD (f + i) 0) := by
  obtain ⟨k, w, k4, ek, -⟩ := row_ok hI hr hk
  have hL : LvOk x r k := ⟨RwL_of hI, hI.2.1 r hr, hI.2.2.1 r hr, fun d hd => sq_lt hI hr hd, ek, k4⟩
  have hl6 := len600 hI hr
  have hM' : MA (core (mF v 24 (nI n))) x := by rw [core_24 (by decide)]; exact hM
  obtain ⟨v', x', g1, f1, hM1, hT, h23, -⟩ := p_takeOut_11 (p := f) hr n 0 0 n x (mF v 24 (nI n)) hL hM' hfn (by omega) (by omega) NF (NF_lt (by omega))
  obtain ⟨a', pas', g2, hC2, hpas⟩ := c_takeOut hC hI hr hfn hsep hT pas
  refine ⟨a', pas', v', x', g2, ?_, ?_, hC2, hM1, TOr_inv hI hr hfn hT, hT.2.2.2.2.2.2.1, hT.1, ?_, fun i hi => ?_, hpas⟩
  · unfold f_X4_takeOut
    rw [Nat.zero_add] at g1
    exact g1
  · exact ((Fm.rf.pF (by decide) : Fm [24] [4, 6, 7, 8, 13, 23] [9] v (mF v 24 (nI n)))).tr (f1.up (by decide) (by decide) (by decide))
  · rw [f1.1 24 (by decide), mF_at]
  · have := h23 i hi
    rw [Nat.zero_add] at this
    exact this
