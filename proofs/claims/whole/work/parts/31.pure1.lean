/-! ===== the model's saved states ===== -/
/-- where each array lies in a slot -/
def so (f : Nat) : Nat := if f = 2 then 0 else if f = 3 then 8 else if f = 4 then 16 else if f = 5 then 24 else if f = 6 then 32 else if f = 7 then 40 else if f = 8 then 4840 else if f = 11 then 9640 else if f = 12 then 10240 else if f = 13 then 10260 else 10280
def sj (f : Nat) : Nat := if f = 9 then 0 else 4800
/-- what the model's state holds: int arrays, long arrays, renamed -/
abbrev MC : Type := (Nat → Nat → Int32) × (Nat → Nat → Int64) × Int32
def core (v : MS) : MC := (v.2.1, v.2.2, v.1 15)
def slot (v : MS) (k : Nat) : MC := (fun f i => v.2.1 16 (10940 * k + so f + i), fun f i => v.2.2 17 (5400 * k + sj f + i), v.2.1 16 (10940 * k + 10300))
/-- alike in all places that count -/
def CQ (a b : MC) : Prop := (∀ i, i < 8 → a.1 2 i = b.1 2 i) ∧ (∀ i, i < 8 → a.1 3 i = b.1 3 i) ∧ (∀ i, i < 8 → a.1 4 i = b.1 4 i) ∧ (∀ i, i < 8 → a.1 5 i = b.1 5 i) ∧ (∀ i, i < 8 → a.1 6 i = b.1 6 i) ∧ (∀ i, i < 4800 → a.1 7 i = b.1 7 i) ∧ (∀ i, i < 4800 → a.1 8 i = b.1 8 i) ∧ (∀ i, i < 600 → a.1 11 i = b.1 11 i) ∧ (∀ i, i < 20 → a.1 12 i = b.1 12 i) ∧ (∀ i, i < 20 → a.1 13 i = b.1 13 i) ∧ (∀ i, i < 20 → a.1 14 i = b.1 14 i) ∧ (∀ i, i < 4800 → a.2.1 9 i = b.2.1 9 i) ∧ (∀ i, i < 600 → a.2.1 10 i = b.2.1 10 i) ∧ a.2.2 = b.2.2
theorem CQ.refl (a : MC) : CQ a a := ⟨fun _ _ => rfl, fun _ _ => rfl, fun _ _ => rfl, fun _ _ => rfl, fun _ _ => rfl, fun _ _ => rfl, fun _ _ => rfl, fun _ _ => rfl, fun _ _ => rfl, fun _ _ => rfl, fun _ _ => rfl, fun _ _ => rfl, fun _ _ => rfl, rfl⟩
def wv (u : MS) (P : Nat) (g : Nat → Int32) (h : Nat → Int64) : MS := (va_up u.1 20 (nI P), va_up u.2.1 16 g, va_up u.2.2 17 h)
theorem wv_20 {u : MS} {P : Nat} {g : Nat → Int32} {h : Nat → Int64} : (wv u P g h).1 20 = nI P := by unfold wv; dsimp only; rw [va_up_self]
theorem wr_wv {u : MS} {P a N : Nat} {g : Nat → Int32} {h : Nat → Int64} (ha : a ≠ 16) : wr (wv u P g h) a P N = wv u (P + N) (pt g (u.2.1 a) P N) h := by
  unfold wr wv
  dsimp only
  rw [up_up, up_up, va_up_self, va_up_ne _ _ ha]
theorem wv_start {u : MS} {P : Nat} : mF u 20 (nI P) = wv u P (u.2.1 16) (u.2.2 17) := by
  unfold mF wv
  rw [up_id rfl, up_id rfl]
theorem mA_wv {u : MS} {P : Nat} {g : Nat → Int32} {h : Nat → Int64} {i : Nat} {x : Int32} : mA (wv u P g h) 16 i x = wv u P (upd g i x) h := by
  unfold mA wv
  dsimp only
  rw [up_up, va_up_self]
theorem mB_wv {u : MS} {P : Nat} {g : Nat → Int32} {h : Nat → Int64} {i : Nat} {x : Int64} : mB (wv u P g h) 17 i x = wv u P g (vp_updL h i x) := by
  unfold mB wv
  dsimp only
  rw [up_up, va_up_self]
theorem wv_9 {u : MS} {P a : Nat} {g : Nat → Int32} {h : Nat → Int64} (ha : a ≠ 17) : (wv u P g h).2.2 a = u.2.2 a := by
  unfold wv; dsimp only; rw [va_up_ne _ _ ha]
theorem wv_15 {u : MS} {P j : Nat} {g : Nat → Int32} {h : Nat → Int64} (ha : j ≠ 20) : (wv u P g h).1 j = u.1 j := by
  unfold wv; dsimp only; rw [va_up_ne _ _ ha]
theorem m5400 (k i : Nat) : (5400 : Int32) * nI k + nI i = nI (5400 * k + i) := by
  rw [show (5400 : Int32) = nI 5400 from rfl, pk_mul, nI_add]
theorem m5448 (k i : Nat) : (5400 : Int32) * nI k + 4800 + nI i = nI (5400 * k + 4800 + i) := by
  rw [show (5400 : Int32) = nI 5400 from rfl, show (4800 : Int32) = nI 4800 from rfl, pk_mul, nI_add, nI_add]
theorem save_170 {u : MS} {P k : Nat} {g : Nat → Int32} {h : Nat → Int64} (hk : k ≤ 8) : ∀ (n i : Nat), i ≤ 600 → 600 - i < n → f_X4_save_170 n (nI k) (nI i) (wv u P g (pt h (u.2.2 10) (5400 * k + 4800) i)) = some (wv u P g (pt h (u.2.2 10) (5400 * k + 4800) 600)) := by
  intro n
  induction n with
  | zero => intro i h1 h2; omega
  | succ n ih =>
    intro i h1 h2
    rw [f_X4_save_170]
    by_cases e : i = 600
    · subst e
      rw [if_pos (show (600 : Int32) ≤ nI 600 by decide)]
    · have h3 : i < 600 := by omega
      rw [if_neg (show ¬ (600 : Int32) ≤ nI i from nI_ge (b := 600) h3 (by omega)), if_pos (ix_nI h3 (by omega)), m5448, if_pos (ix_nI (by omega) (by omega)), nI_clamp (by omega), nI_clamp (by omega), mB_wv, wv_9 (by decide), pt_sL, nI_1]
      exact ih (i + 1) (by omega) (by omega)
theorem save_137 {u : MS} {P k : Nat} {g : Nat → Int32} {h : Nat → Int64} (hk : k ≤ 8) : ∀ (n i : Nat), i ≤ 4800 → 4800 - i < n → f_X4_save_137 n (nI k) (nI i) (wv u P g (pt h (u.2.2 9) (5400 * k) i)) = some (wv u P g (pt (pt h (u.2.2 9) (5400 * k) 4800) (u.2.2 10) (5400 * k + 4800) 600)) := by
  intro n
  induction n with
  | zero => intro i h1 h2; omega
  | succ n ih =>
    intro i h1 h2
    rw [f_X4_save_137]
    by_cases e : i = 4800
    · subst e
      rw [if_pos (show (4800 : Int32) ≤ nI 4800 by decide)]
      have := save_170 (u := u) (P := P) (g := g) (h := pt h (u.2.2 9) (5400 * k) 4800) hk NF 0 (by omega) (by rw [NF_eq]; decide)
      rw [pt_0] at this
      exact this
    · have h3 : i < 4800 := by omega
      rw [if_neg (show ¬ (4800 : Int32) ≤ nI i from nI_ge (b := 4800) h3 (by omega)), if_pos (ix_nI h3 (by omega)), m5400, if_pos (ix_nI (by omega) (by omega)), nI_clamp (by omega), nI_clamp (by omega), mB_wv, wv_9 (by decide), pt_sL, nI_1]
      exact ih (i + 1) (by omega) (by omega)
def sv_g (u : MS) (k : Nat) : Nat → Int32 := upd (pt (pt (pt (pt (pt (pt (pt (pt (pt (pt (pt (u.2.1 16) (u.2.1 2) (10940 * k) 8) (u.2.1 3) (10940 * k + 8) 8) (u.2.1 4) (10940 * k + 16) 8) (u.2.1 5) (10940 * k + 24) 8) (u.2.1 6) (10940 * k + 32) 8) (u.2.1 7) (10940 * k + 40) 4800) (u.2.1 8) (10940 * k + 4840) 4800) (u.2.1 11) (10940 * k + 9640) 600) (u.2.1 12) (10940 * k + 10240) 20) (u.2.1 13) (10940 * k + 10260) 20) (u.2.1 14) (10940 * k + 10280) 20) (10940 * k + 10300) (u.1 15)
set_option maxHeartbeats 4000000 in
theorem save_eq (u : MS) (k : Nat) (hk : k ≤ 8) : f_X4_save (nI k) u = some (wv u (10940 * k + 10300) (sv_g u k) (pt (pt (u.2.2 17) (u.2.2 9) (5400 * k) 4800) (u.2.2 10) (5400 * k + 4800) 600)) := by
  unfold f_X4_save
  rw [show (10940 : Int32) * nI k = nI (10940 * k) from (by rw [show (10940 : Int32) = nI 10940 from rfl, pk_mul]), wv_start]
  rw [p_write_2 (P := 10940 * k) wv_20 (by omega), Option.bind_some, wr_wv (by decide)]
  rw [p_write_3 (P := 10940 * k + 8) wv_20 (by omega), Option.bind_some, wr_wv (by decide)]
  rw [show 10940 * k + 8 + 8 = 10940 * k + 16 from by omega]
  rw [p_write_4 (P := 10940 * k + 16) wv_20 (by omega), Option.bind_some, wr_wv (by decide)]
  rw [show 10940 * k + 16 + 8 = 10940 * k + 24 from by omega]
  rw [p_write_5 (P := 10940 * k + 24) wv_20 (by omega), Option.bind_some, wr_wv (by decide)]
  rw [show 10940 * k + 24 + 8 = 10940 * k + 32 from by omega]
  rw [p_write_6 (P := 10940 * k + 32) wv_20 (by omega), Option.bind_some, wr_wv (by decide)]
  rw [show 10940 * k + 32 + 8 = 10940 * k + 40 from by omega]
  rw [p_write_7 (P := 10940 * k + 40) wv_20 (by omega), Option.bind_some, wr_wv (by decide)]
  rw [show 10940 * k + 40 + 4800 = 10940 * k + 4840 from by omega]
  rw [p_write_8 (P := 10940 * k + 4840) wv_20 (by omega), Option.bind_some, wr_wv (by decide)]
  rw [show 10940 * k + 4840 + 4800 = 10940 * k + 9640 from by omega]
  rw [p_write_11 (P := 10940 * k + 9640) wv_20 (by omega), Option.bind_some, wr_wv (by decide)]
  rw [show 10940 * k + 9640 + 600 = 10940 * k + 10240 from by omega]
  rw [p_write_12 (P := 10940 * k + 10240) wv_20 (by omega), Option.bind_some, wr_wv (by decide)]
  rw [show 10940 * k + 10240 + 20 = 10940 * k + 10260 from by omega]
  rw [p_write_13 (P := 10940 * k + 10260) wv_20 (by omega), Option.bind_some, wr_wv (by decide)]
  rw [show 10940 * k + 10260 + 20 = 10940 * k + 10280 from by omega]
  rw [p_write_14 (P := 10940 * k + 10280) wv_20 (by omega), Option.bind_some, wr_wv (by decide)]
  rw [show 10940 * k + 10280 + 20 = 10940 * k + 10300 from by omega]
  rw [if_pos (by rw [wv_20]; exact ix_nI (by omega) (by omega)), wv_20, nI_clamp (by omega), wv_15 (by decide), mA_wv]
  have := save_137 (u := u) (P := 10940 * k + 10300) (g := sv_g u k) (h := u.2.2 17) hk NF 0 (by omega) (by rw [NF_eq]; decide)
  rw [pt_0] at this
  exact this

/-- all but the old states, and the pen -/
def FR (u u' : MS) : Prop := (∀ j, j ≠ 20 → u'.1 j = u.1 j) ∧ (∀ f, f ≠ 16 → u'.2.1 f = u.2.1 f) ∧ (∀ f, f ≠ 17 → u'.2.2 f = u.2.2 f)
set_option maxHeartbeats 4000000 in
theorem save_ok (u : MS) (k : Nat) (hk : k ≤ 8) : ∃ u', f_X4_save (nI k) u = some u' ∧ FR u u' ∧ (∀ j, (j < 10940 * k ∨ 10940 * k + 10940 ≤ j) → u'.2.1 16 j = u.2.1 16 j) ∧ (∀ j, (j < 5400 * k ∨ 5400 * k + 5400 ≤ j) → u'.2.2 17 j = u.2.2 17 j) ∧ CQ (slot u' k) (core u) := by
  refine ⟨_, save_eq u k hk, ⟨fun j hj => wv_15 hj, fun f hf => ?_, fun f hf => wv_9 hf⟩, fun j hj => ?_, fun j hj => ?_, ?_⟩
  · unfold wv; dsimp only; rw [va_up_ne _ _ hf]
  · unfold wv; dsimp only; rw [va_up_self]
    unfold sv_g
    rw [pk_un (by omega), pt_out (by omega), pt_out (by omega), pt_out (by omega), pt_out (by omega), pt_out (by omega), pt_out (by omega), pt_out (by omega), pt_out (by omega), pt_out (by omega), pt_out (by omega), pt_out (by omega)]
  · unfold wv; dsimp only; rw [va_up_self, pt_out (by omega), pt_out (by omega)]
  · have e16 : ∀ j, (wv u (10940 * k + 10300) (sv_g u k) (pt (pt (u.2.2 17) (u.2.2 9) (5400 * k) 4800) (u.2.2 10) (5400 * k + 4800) 600)).2.1 16 j = sv_g u k j := fun j => by unfold wv; dsimp only; rw [va_up_self]
    have e17 : ∀ j, (wv u (10940 * k + 10300) (sv_g u k) (pt (pt (u.2.2 17) (u.2.2 9) (5400 * k) 4800) (u.2.2 10) (5400 * k + 4800) 600)).2.2 17 j = pt (pt (u.2.2 17) (u.2.2 9) (5400 * k) 4800) (u.2.2 10) (5400 * k + 4800) 600 j := fun j => by unfold wv; dsimp only; rw [va_up_self]
    unfold slot core CQ
    dsimp only
    simp only [e16, e17, so, sj]
    unfold sv_g
    refine ⟨?_, ?_, ?_, ?_, ?_, ?_, ?_, ?_, ?_, ?_, ?_, ?_, ?_, ?_⟩
    · intro i hi
      simp only [Nat.reduceEqDiff, if_true, if_false, reduceIte, Nat.add_zero]
      rw [pk_un (by omega), pt_out (by omega), pt_out (by omega), pt_out (by omega), pt_out (by omega), pt_out (by omega), pt_out (by omega), pt_out (by omega), pt_out (by omega), pt_out (by omega), pt_out (by omega), pt_in (by omega) (by omega)]
      exact congrArg _ (by omega)
    · intro i hi
      simp only [Nat.reduceEqDiff, if_true, if_false, reduceIte, Nat.add_zero]
      rw [pk_un (by omega), pt_out (by omega), pt_out (by omega), pt_out (by omega), pt_out (by omega), pt_out (by omega), pt_out (by omega), pt_out (by omega), pt_out (by omega), pt_out (by omega), pt_in (by omega) (by omega)]
      exact congrArg _ (by omega)
    · intro i hi
      simp only [Nat.reduceEqDiff, if_true, if_false, reduceIte, Nat.add_zero]
      rw [pk_un (by omega), pt_out (by omega), pt_out (by omega), pt_out (by omega), pt_out (by omega), pt_out (by omega), pt_out (by omega), pt_out (by omega), pt_out (by omega), pt_in (by omega) (by omega)]
      exact congrArg _ (by omega)
    · intro i hi
      simp only [Nat.reduceEqDiff, if_true, if_false, reduceIte, Nat.add_zero]
      rw [pk_un (by omega), pt_out (by omega), pt_out (by omega), pt_out (by omega), pt_out (by omega), pt_out (by omega), pt_out (by omega), pt_out (by omega), pt_in (by omega) (by omega)]
      exact congrArg _ (by omega)
    · intro i hi
      simp only [Nat.reduceEqDiff, if_true, if_false, reduceIte, Nat.add_zero]
      rw [pk_un (by omega), pt_out (by omega), pt_out (by omega), pt_out (by omega), pt_out (by omega), pt_out (by omega), pt_out (by omega), pt_in (by omega) (by omega)]
      exact congrArg _ (by omega)
    · intro i hi
      simp only [Nat.reduceEqDiff, if_true, if_false, reduceIte, Nat.add_zero]
      rw [pk_un (by omega), pt_out (by omega), pt_out (by omega), pt_out (by omega), pt_out (by omega), pt_out (by omega), pt_in (by omega) (by omega)]
      exact congrArg _ (by omega)
    · intro i hi
      simp only [Nat.reduceEqDiff, if_true, if_false, reduceIte, Nat.add_zero]
      rw [pk_un (by omega), pt_out (by omega), pt_out (by omega), pt_out (by omega), pt_out (by omega), pt_in (by omega) (by omega)]
      exact congrArg _ (by omega)
    · intro i hi
      simp only [Nat.reduceEqDiff, if_true, if_false, reduceIte, Nat.add_zero]
      rw [pk_un (by omega), pt_out (by omega), pt_out (by omega), pt_out (by omega), pt_in (by omega) (by omega)]
      exact congrArg _ (by omega)
    · intro i hi
      simp only [Nat.reduceEqDiff, if_true, if_false, reduceIte, Nat.add_zero]
      rw [pk_un (by omega), pt_out (by omega), pt_out (by omega), pt_in (by omega) (by omega)]
      exact congrArg _ (by omega)
    · intro i hi
      simp only [Nat.reduceEqDiff, if_true, if_false, reduceIte, Nat.add_zero]
      rw [pk_un (by omega), pt_out (by omega), pt_in (by omega) (by omega)]
      exact congrArg _ (by omega)
    · intro i hi
      simp only [Nat.reduceEqDiff, if_true, if_false, reduceIte, Nat.add_zero]
      rw [pk_un (by omega), pt_in (by omega) (by omega)]
      exact congrArg _ (by omega)
    · intro i hi
      simp only [if_true]
      rw [pt_out (by omega), pt_in (by omega) (by omega)]
      exact congrArg _ (by omega)
    · intro i hi
      rw [if_neg (by decide), pt_in (by omega) (by omega)]
      exact congrArg _ (by omega)
    · rw [pk_us]
