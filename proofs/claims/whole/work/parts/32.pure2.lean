/-! ===== load, keep ===== -/
def lu (u : MS) (P : Nat) (A : Nat → Nat → Int32) : MS := (va_up u.1 20 (nI P), A, u.2.2)
theorem lu_20 {u : MS} {P : Nat} {A : Nat → Nat → Int32} : (lu u P A).1 20 = nI P := by unfold lu; dsimp only; rw [va_up_self]
theorem rd_lu {u : MS} {P a N : Nat} {A : Nat → Nat → Int32} (h : A 16 = u.2.1 16) : rd (lu u P A) a P N = lu u (P + N) (va_up A a (pt (A a) (fun j => u.2.1 16 (P + j)) 0 N)) := by
  unfold rd lu
  dsimp only
  rw [up_up, h]
theorem lu_start {u : MS} {P : Nat} : mF u 20 (nI P) = lu u P u.2.1 := rfl
/-- long arrays as they are read back -/
def lv2 (u z : MS) (k i j : Nat) : MS := (z.1, z.2.1, va_up (va_up u.2.2 9 (pt (u.2.2 9) (fun q => u.2.2 17 (5400 * k + q)) 0 i)) 10 (pt (u.2.2 10) (fun q => u.2.2 17 (5400 * k + 4800 + q)) 0 j))
theorem lv2_17 {u z : MS} {k i j : Nat} : (lv2 u z k i j).2.2 17 = u.2.2 17 := by
  unfold lv2; dsimp only; rw [va_up_ne _ _ (by decide), va_up_ne _ _ (by decide)]
theorem lv2_9 {u z : MS} {k i : Nat} : mB (lv2 u z k i 0) 9 i (u.2.2 17 (5400 * k + i)) = lv2 u z k (i + 1) 0 := by
  have h := pt_sL (u.2.2 9) (fun q => u.2.2 17 (5400 * k + q)) 0 i
  rw [Nat.zero_add] at h
  unfold mB lv2
  refine Prod.ext rfl (Prod.ext rfl ?_)
  funext f
  dsimp only
  rw [pt_0, up_id (k := 10) (f := va_up u.2.2 9 _) (by rw [va_up_ne _ _ (by decide)]), up_id (k := 10) (f := va_up u.2.2 9 _) (by rw [va_up_ne _ _ (by decide)]), up_up, va_up_self, h]
theorem lv2_10 {u z : MS} {k j : Nat} : mB (lv2 u z k 4800 j) 10 j (u.2.2 17 (5400 * k + 4800 + j)) = lv2 u z k 4800 (j + 1) := by
  have h := pt_sL (u.2.2 10) (fun q => u.2.2 17 (5400 * k + 4800 + q)) 0 j
  rw [Nat.zero_add] at h
  unfold mB lv2
  refine Prod.ext rfl (Prod.ext rfl ?_)
  dsimp only
  rw [up_up, va_up_self, h]
theorem load_170 {u z : MS} {k : Nat} (hk : k ≤ 8) : ∀ (n i : Nat), i ≤ 600 → 600 - i < n → f_X4_load_170 n (nI k) (nI i) (lv2 u z k 4800 i) = some (lv2 u z k 4800 600) := by
  intro n
  induction n with
  | zero => intro i h1 h2; omega
  | succ n ih =>
    intro i h1 h2
    rw [f_X4_load_170]
    by_cases e : i = 600
    · subst e
      rw [if_pos (show (600 : Int32) ≤ nI 600 by decide)]
    · have h3 : i < 600 := by omega
      rw [if_neg (show ¬ (600 : Int32) ≤ nI i from nI_ge (b := 600) h3 (by omega)), m5448, if_pos (ix_nI (by omega) (by omega)), if_pos (ix_nI h3 (by omega)), nI_clamp (by omega), nI_clamp (by omega), lv2_17, lv2_10, nI_1]
      exact ih (i + 1) (by omega) (by omega)
theorem load_137 {u z : MS} {k : Nat} (hk : k ≤ 8) : ∀ (n i : Nat), i ≤ 4800 → 4800 - i < n → f_X4_load_137 n (nI k) (nI i) (lv2 u z k i 0) = some (lv2 u z k 4800 600) := by
  intro n
  induction n with
  | zero => intro i h1 h2; omega
  | succ n ih =>
    intro i h1 h2
    rw [f_X4_load_137]
    by_cases e : i = 4800
    · subst e
      rw [if_pos (show (4800 : Int32) ≤ nI 4800 by decide)]
      exact load_170 hk NF 0 (by omega) (by rw [NF_eq]; decide)
    · have h3 : i < 4800 := by omega
      rw [if_neg (show ¬ (4800 : Int32) ≤ nI i from nI_ge (b := 4800) h3 (by omega)), m5400, if_pos (ix_nI (by omega) (by omega)), if_pos (ix_nI h3 (by omega)), nI_clamp (by omega), nI_clamp (by omega), lv2_17, lv2_9, nI_1]
      exact ih (i + 1) (by omega) (by omega)
def ld_A (u : MS) (k : Nat) : Nat → Nat → Int32 := (va_up (va_up (va_up (va_up (va_up (va_up (va_up (va_up (va_up (va_up (va_up u.2.1 2 (pt (u.2.1 2) (fun j => u.2.1 16 (10940 * k + j)) 0 8)) 3 (pt (u.2.1 3) (fun j => u.2.1 16 (10940 * k + 8 + j)) 0 8)) 4 (pt (u.2.1 4) (fun j => u.2.1 16 (10940 * k + 16 + j)) 0 8)) 5 (pt (u.2.1 5) (fun j => u.2.1 16 (10940 * k + 24 + j)) 0 8)) 6 (pt (u.2.1 6) (fun j => u.2.1 16 (10940 * k + 32 + j)) 0 8)) 7 (pt (u.2.1 7) (fun j => u.2.1 16 (10940 * k + 40 + j)) 0 4800)) 8 (pt (u.2.1 8) (fun j => u.2.1 16 (10940 * k + 4840 + j)) 0 4800)) 11 (pt (u.2.1 11) (fun j => u.2.1 16 (10940 * k + 9640 + j)) 0 600)) 12 (pt (u.2.1 12) (fun j => u.2.1 16 (10940 * k + 10240 + j)) 0 20)) 13 (pt (u.2.1 13) (fun j => u.2.1 16 (10940 * k + 10260 + j)) 0 20)) 14 (pt (u.2.1 14) (fun j => u.2.1 16 (10940 * k + 10280 + j)) 0 20))
set_option maxHeartbeats 4000000 in
theorem load_eq (u : MS) (k : Nat) (hk : k ≤ 8) : f_X4_load (nI k) u = some (lv2 u (va_up (va_up u.1 20 (nI (10940 * k + 10300))) 15 (u.2.1 16 (10940 * k + 10300)), ld_A u k, u.2.2) k 4800 600) := by
  unfold f_X4_load
  rw [show (10940 : Int32) * nI k = nI (10940 * k) from (by rw [show (10940 : Int32) = nI 10940 from rfl, pk_mul]), lu_start]
  rw [p_read_2 (P := 10940 * k) lu_20 (by omega), Option.bind_some, rd_lu rfl]
  rw [p_read_3 (P := 10940 * k + 8) lu_20 (by omega), Option.bind_some, rd_lu (by rw [va_up_ne _ _ (by decide)])]
  rw [show ((va_up u.2.1 2 (pt (u.2.1 2) (fun j => u.2.1 16 (10940 * k + j)) 0 8)) : Nat → Nat → Int32) 3 = u.2.1 3 from (by rw [va_up_ne _ _ (by decide)])]
  rw [show 10940 * k + 8 + 8 = 10940 * k + 16 from by omega]
  rw [p_read_4 (P := 10940 * k + 16) lu_20 (by omega), Option.bind_some, rd_lu (by rw [va_up_ne _ _ (by decide), va_up_ne _ _ (by decide)])]
  rw [show ((va_up (va_up u.2.1 2 (pt (u.2.1 2) (fun j => u.2.1 16 (10940 * k + j)) 0 8)) 3 (pt (u.2.1 3) (fun j => u.2.1 16 (10940 * k + 8 + j)) 0 8)) : Nat → Nat → Int32) 4 = u.2.1 4 from (by rw [va_up_ne _ _ (by decide), va_up_ne _ _ (by decide)])]
  rw [show 10940 * k + 16 + 8 = 10940 * k + 24 from by omega]
  rw [p_read_5 (P := 10940 * k + 24) lu_20 (by omega), Option.bind_some, rd_lu (by rw [va_up_ne _ _ (by decide), va_up_ne _ _ (by decide), va_up_ne _ _ (by decide)])]
  rw [show ((va_up (va_up (va_up u.2.1 2 (pt (u.2.1 2) (fun j => u.2.1 16 (10940 * k + j)) 0 8)) 3 (pt (u.2.1 3) (fun j => u.2.1 16 (10940 * k + 8 + j)) 0 8)) 4 (pt (u.2.1 4) (fun j => u.2.1 16 (10940 * k + 16 + j)) 0 8)) : Nat → Nat → Int32) 5 = u.2.1 5 from (by rw [va_up_ne _ _ (by decide), va_up_ne _ _ (by decide), va_up_ne _ _ (by decide)])]
  rw [show 10940 * k + 24 + 8 = 10940 * k + 32 from by omega]
  rw [p_read_6 (P := 10940 * k + 32) lu_20 (by omega), Option.bind_some, rd_lu (by rw [va_up_ne _ _ (by decide), va_up_ne _ _ (by decide), va_up_ne _ _ (by decide), va_up_ne _ _ (by decide)])]
  rw [show ((va_up (va_up (va_up (va_up u.2.1 2 (pt (u.2.1 2) (fun j => u.2.1 16 (10940 * k + j)) 0 8)) 3 (pt (u.2.1 3) (fun j => u.2.1 16 (10940 * k + 8 + j)) 0 8)) 4 (pt (u.2.1 4) (fun j => u.2.1 16 (10940 * k + 16 + j)) 0 8)) 5 (pt (u.2.1 5) (fun j => u.2.1 16 (10940 * k + 24 + j)) 0 8)) : Nat → Nat → Int32) 6 = u.2.1 6 from (by rw [va_up_ne _ _ (by decide), va_up_ne _ _ (by decide), va_up_ne _ _ (by decide), va_up_ne _ _ (by decide)])]
  rw [show 10940 * k + 32 + 8 = 10940 * k + 40 from by omega]
  rw [p_read_7 (P := 10940 * k + 40) lu_20 (by omega), Option.bind_some, rd_lu (by rw [va_up_ne _ _ (by decide), va_up_ne _ _ (by decide), va_up_ne _ _ (by decide), va_up_ne _ _ (by decide), va_up_ne _ _ (by decide)])]
  rw [show ((va_up (va_up (va_up (va_up (va_up u.2.1 2 (pt (u.2.1 2) (fun j => u.2.1 16 (10940 * k + j)) 0 8)) 3 (pt (u.2.1 3) (fun j => u.2.1 16 (10940 * k + 8 + j)) 0 8)) 4 (pt (u.2.1 4) (fun j => u.2.1 16 (10940 * k + 16 + j)) 0 8)) 5 (pt (u.2.1 5) (fun j => u.2.1 16 (10940 * k + 24 + j)) 0 8)) 6 (pt (u.2.1 6) (fun j => u.2.1 16 (10940 * k + 32 + j)) 0 8)) : Nat → Nat → Int32) 7 = u.2.1 7 from (by rw [va_up_ne _ _ (by decide), va_up_ne _ _ (by decide), va_up_ne _ _ (by decide), va_up_ne _ _ (by decide), va_up_ne _ _ (by decide)])]
  rw [show 10940 * k + 40 + 4800 = 10940 * k + 4840 from by omega]
  rw [p_read_8 (P := 10940 * k + 4840) lu_20 (by omega), Option.bind_some, rd_lu (by rw [va_up_ne _ _ (by decide), va_up_ne _ _ (by decide), va_up_ne _ _ (by decide), va_up_ne _ _ (by decide), va_up_ne _ _ (by decide), va_up_ne _ _ (by decide)])]
  rw [show ((va_up (va_up (va_up (va_up (va_up (va_up u.2.1 2 (pt (u.2.1 2) (fun j => u.2.1 16 (10940 * k + j)) 0 8)) 3 (pt (u.2.1 3) (fun j => u.2.1 16 (10940 * k + 8 + j)) 0 8)) 4 (pt (u.2.1 4) (fun j => u.2.1 16 (10940 * k + 16 + j)) 0 8)) 5 (pt (u.2.1 5) (fun j => u.2.1 16 (10940 * k + 24 + j)) 0 8)) 6 (pt (u.2.1 6) (fun j => u.2.1 16 (10940 * k + 32 + j)) 0 8)) 7 (pt (u.2.1 7) (fun j => u.2.1 16 (10940 * k + 40 + j)) 0 4800)) : Nat → Nat → Int32) 8 = u.2.1 8 from (by rw [va_up_ne _ _ (by decide), va_up_ne _ _ (by decide), va_up_ne _ _ (by decide), va_up_ne _ _ (by decide), va_up_ne _ _ (by decide), va_up_ne _ _ (by decide)])]
  rw [show 10940 * k + 4840 + 4800 = 10940 * k + 9640 from by omega]
  rw [p_read_11 (P := 10940 * k + 9640) lu_20 (by omega), Option.bind_some, rd_lu (by rw [va_up_ne _ _ (by decide), va_up_ne _ _ (by decide), va_up_ne _ _ (by decide), va_up_ne _ _ (by decide), va_up_ne _ _ (by decide), va_up_ne _ _ (by decide), va_up_ne _ _ (by decide)])]
  rw [show ((va_up (va_up (va_up (va_up (va_up (va_up (va_up u.2.1 2 (pt (u.2.1 2) (fun j => u.2.1 16 (10940 * k + j)) 0 8)) 3 (pt (u.2.1 3) (fun j => u.2.1 16 (10940 * k + 8 + j)) 0 8)) 4 (pt (u.2.1 4) (fun j => u.2.1 16 (10940 * k + 16 + j)) 0 8)) 5 (pt (u.2.1 5) (fun j => u.2.1 16 (10940 * k + 24 + j)) 0 8)) 6 (pt (u.2.1 6) (fun j => u.2.1 16 (10940 * k + 32 + j)) 0 8)) 7 (pt (u.2.1 7) (fun j => u.2.1 16 (10940 * k + 40 + j)) 0 4800)) 8 (pt (u.2.1 8) (fun j => u.2.1 16 (10940 * k + 4840 + j)) 0 4800)) : Nat → Nat → Int32) 11 = u.2.1 11 from (by rw [va_up_ne _ _ (by decide), va_up_ne _ _ (by decide), va_up_ne _ _ (by decide), va_up_ne _ _ (by decide), va_up_ne _ _ (by decide), va_up_ne _ _ (by decide), va_up_ne _ _ (by decide)])]
  rw [show 10940 * k + 9640 + 600 = 10940 * k + 10240 from by omega]
  rw [p_read_12 (P := 10940 * k + 10240) lu_20 (by omega), Option.bind_some, rd_lu (by rw [va_up_ne _ _ (by decide), va_up_ne _ _ (by decide), va_up_ne _ _ (by decide), va_up_ne _ _ (by decide), va_up_ne _ _ (by decide), va_up_ne _ _ (by decide), va_up_ne _ _ (by decide), va_up_ne _ _ (by decide)])]
  rw [show ((va_up (va_up (va_up (va_up (va_up (va_up (va_up (va_up u.2.1 2 (pt (u.2.1 2) (fun j => u.2.1 16 (10940 * k + j)) 0 8)) 3 (pt (u.2.1 3) (fun j => u.2.1 16 (10940 * k + 8 + j)) 0 8)) 4 (pt (u.2.1 4) (fun j => u.2.1 16 (10940 * k + 16 + j)) 0 8)) 5 (pt (u.2.1 5) (fun j => u.2.1 16 (10940 * k + 24 + j)) 0 8)) 6 (pt (u.2.1 6) (fun j => u.2.1 16 (10940 * k + 32 + j)) 0 8)) 7 (pt (u.2.1 7) (fun j => u.2.1 16 (10940 * k + 40 + j)) 0 4800)) 8 (pt (u.2.1 8) (fun j => u.2.1 16 (10940 * k + 4840 + j)) 0 4800)) 11 (pt (u.2.1 11) (fun j => u.2.1 16 (10940 * k + 9640 + j)) 0 600)) : Nat → Nat → Int32) 12 = u.2.1 12 from (by rw [va_up_ne _ _ (by decide), va_up_ne _ _ (by decide), va_up_ne _ _ (by decide), va_up_ne _ _ (by decide), va_up_ne _ _ (by decide), va_up_ne _ _ (by decide), va_up_ne _ _ (by decide), va_up_ne _ _ (by decide)])]
  rw [show 10940 * k + 10240 + 20 = 10940 * k + 10260 from by omega]
  rw [p_read_13 (P := 10940 * k + 10260) lu_20 (by omega), Option.bind_some, rd_lu (by rw [va_up_ne _ _ (by decide), va_up_ne _ _ (by decide), va_up_ne _ _ (by decide), va_up_ne _ _ (by decide), va_up_ne _ _ (by decide), va_up_ne _ _ (by decide), va_up_ne _ _ (by decide), va_up_ne _ _ (by decide), va_up_ne _ _ (by decide)])]
  rw [show ((va_up (va_up (va_up (va_up (va_up (va_up (va_up (va_up (va_up u.2.1 2 (pt (u.2.1 2) (fun j => u.2.1 16 (10940 * k + j)) 0 8)) 3 (pt (u.2.1 3) (fun j => u.2.1 16 (10940 * k + 8 + j)) 0 8)) 4 (pt (u.2.1 4) (fun j => u.2.1 16 (10940 * k + 16 + j)) 0 8)) 5 (pt (u.2.1 5) (fun j => u.2.1 16 (10940 * k + 24 + j)) 0 8)) 6 (pt (u.2.1 6) (fun j => u.2.1 16 (10940 * k + 32 + j)) 0 8)) 7 (pt (u.2.1 7) (fun j => u.2.1 16 (10940 * k + 40 + j)) 0 4800)) 8 (pt (u.2.1 8) (fun j => u.2.1 16 (10940 * k + 4840 + j)) 0 4800)) 11 (pt (u.2.1 11) (fun j => u.2.1 16 (10940 * k + 9640 + j)) 0 600)) 12 (pt (u.2.1 12) (fun j => u.2.1 16 (10940 * k + 10240 + j)) 0 20)) : Nat → Nat → Int32) 13 = u.2.1 13 from (by rw [va_up_ne _ _ (by decide), va_up_ne _ _ (by decide), va_up_ne _ _ (by decide), va_up_ne _ _ (by decide), va_up_ne _ _ (by decide), va_up_ne _ _ (by decide), va_up_ne _ _ (by decide), va_up_ne _ _ (by decide), va_up_ne _ _ (by decide)])]
  rw [show 10940 * k + 10260 + 20 = 10940 * k + 10280 from by omega]
  rw [p_read_14 (P := 10940 * k + 10280) lu_20 (by omega), Option.bind_some, rd_lu (by rw [va_up_ne _ _ (by decide), va_up_ne _ _ (by decide), va_up_ne _ _ (by decide), va_up_ne _ _ (by decide), va_up_ne _ _ (by decide), va_up_ne _ _ (by decide), va_up_ne _ _ (by decide), va_up_ne _ _ (by decide), va_up_ne _ _ (by decide), va_up_ne _ _ (by decide)])]
  rw [show ((va_up (va_up (va_up (va_up (va_up (va_up (va_up (va_up (va_up (va_up u.2.1 2 (pt (u.2.1 2) (fun j => u.2.1 16 (10940 * k + j)) 0 8)) 3 (pt (u.2.1 3) (fun j => u.2.1 16 (10940 * k + 8 + j)) 0 8)) 4 (pt (u.2.1 4) (fun j => u.2.1 16 (10940 * k + 16 + j)) 0 8)) 5 (pt (u.2.1 5) (fun j => u.2.1 16 (10940 * k + 24 + j)) 0 8)) 6 (pt (u.2.1 6) (fun j => u.2.1 16 (10940 * k + 32 + j)) 0 8)) 7 (pt (u.2.1 7) (fun j => u.2.1 16 (10940 * k + 40 + j)) 0 4800)) 8 (pt (u.2.1 8) (fun j => u.2.1 16 (10940 * k + 4840 + j)) 0 4800)) 11 (pt (u.2.1 11) (fun j => u.2.1 16 (10940 * k + 9640 + j)) 0 600)) 12 (pt (u.2.1 12) (fun j => u.2.1 16 (10940 * k + 10240 + j)) 0 20)) 13 (pt (u.2.1 13) (fun j => u.2.1 16 (10940 * k + 10260 + j)) 0 20)) : Nat → Nat → Int32) 14 = u.2.1 14 from (by rw [va_up_ne _ _ (by decide), va_up_ne _ _ (by decide), va_up_ne _ _ (by decide), va_up_ne _ _ (by decide), va_up_ne _ _ (by decide), va_up_ne _ _ (by decide), va_up_ne _ _ (by decide), va_up_ne _ _ (by decide), va_up_ne _ _ (by decide), va_up_ne _ _ (by decide)])]
  rw [show 10940 * k + 10280 + 20 = 10940 * k + 10300 from by omega]
  rw [if_pos (by rw [lu_20]; exact ix_nI (by omega) (by omega)), lu_20, nI_clamp (by omega)]
  have e16 : (lu u (10940 * k + 10300) (ld_A u k)).2.1 16 (10940 * k + 10300) = u.2.1 16 (10940 * k + 10300) := by
    unfold lu ld_A; dsimp only; rw [va_up_ne _ _ (by decide), va_up_ne _ _ (by decide), va_up_ne _ _ (by decide), va_up_ne _ _ (by decide), va_up_ne _ _ (by decide), va_up_ne _ _ (by decide), va_up_ne _ _ (by decide), va_up_ne _ _ (by decide), va_up_ne _ _ (by decide), va_up_ne _ _ (by decide), va_up_ne _ _ (by decide)]
  have := load_137 (u := u) (z := (va_up (va_up u.1 20 (nI (10940 * k + 10300))) 15 (u.2.1 16 (10940 * k + 10300)), ld_A u k, u.2.2)) hk NF 0 (by omega) (by rw [NF_eq]; decide)
  rw [show lv2 u (va_up (va_up u.1 20 (nI (10940 * k + 10300))) 15 (u.2.1 16 (10940 * k + 10300)), ld_A u k, u.2.2) k 0 0 = mF (lu u (10940 * k + 10300) (ld_A u k)) 15 (u.2.1 16 (10940 * k + 10300)) from by unfold lv2 mF lu; rw [pt_0, pt_0, up_id (k := 10) (by rw [va_up_ne _ _ (by decide)]), up_id rfl]] at this
  rw [← this, ← e16]
  rfl
set_option maxHeartbeats 4000000 in
theorem load_ok (u : MS) (k : Nat) (hk : k ≤ 8) : ∃ u', f_X4_load (nI k) u = some u' ∧ CQ (core u') (slot u k) ∧ (∀ j, j ≠ 20 → j ≠ 15 → u'.1 j = u.1 j) ∧ u'.2.1 16 = u.2.1 16 ∧ u'.2.2 17 = u.2.2 17 := by
  refine ⟨_, load_eq u k hk, ?_, fun j h1 h2 => ?_, ?_, lv2_17⟩
  · unfold core slot CQ lv2 ld_A
    dsimp only
    simp only [so, sj]
    refine ⟨?_, ?_, ?_, ?_, ?_, ?_, ?_, ?_, ?_, ?_, ?_, ?_, ?_, ?_⟩
    · intro i hi
      simp only [Nat.reduceEqDiff, if_true, if_false, reduceIte, Nat.add_zero]
      rw [va_up_ne _ _ (by decide), va_up_ne _ _ (by decide), va_up_ne _ _ (by decide), va_up_ne _ _ (by decide), va_up_ne _ _ (by decide), va_up_ne _ _ (by decide), va_up_ne _ _ (by decide), va_up_ne _ _ (by decide), va_up_ne _ _ (by decide), va_up_ne _ _ (by decide), va_up_self, pt_in (by omega) (by omega)]
      exact congrArg _ (by omega)
    · intro i hi
      simp only [Nat.reduceEqDiff, if_true, if_false, reduceIte, Nat.add_zero]
      rw [va_up_ne _ _ (by decide), va_up_ne _ _ (by decide), va_up_ne _ _ (by decide), va_up_ne _ _ (by decide), va_up_ne _ _ (by decide), va_up_ne _ _ (by decide), va_up_ne _ _ (by decide), va_up_ne _ _ (by decide), va_up_ne _ _ (by decide), va_up_self, pt_in (by omega) (by omega)]
      exact congrArg _ (by omega)
    · intro i hi
      simp only [Nat.reduceEqDiff, if_true, if_false, reduceIte, Nat.add_zero]
      rw [va_up_ne _ _ (by decide), va_up_ne _ _ (by decide), va_up_ne _ _ (by decide), va_up_ne _ _ (by decide), va_up_ne _ _ (by decide), va_up_ne _ _ (by decide), va_up_ne _ _ (by decide), va_up_ne _ _ (by decide), va_up_self, pt_in (by omega) (by omega)]
      exact congrArg _ (by omega)
    · intro i hi
      simp only [Nat.reduceEqDiff, if_true, if_false, reduceIte, Nat.add_zero]
      rw [va_up_ne _ _ (by decide), va_up_ne _ _ (by decide), va_up_ne _ _ (by decide), va_up_ne _ _ (by decide), va_up_ne _ _ (by decide), va_up_ne _ _ (by decide), va_up_ne _ _ (by decide), va_up_self, pt_in (by omega) (by omega)]
      exact congrArg _ (by omega)
    · intro i hi
      simp only [Nat.reduceEqDiff, if_true, if_false, reduceIte, Nat.add_zero]
      rw [va_up_ne _ _ (by decide), va_up_ne _ _ (by decide), va_up_ne _ _ (by decide), va_up_ne _ _ (by decide), va_up_ne _ _ (by decide), va_up_ne _ _ (by decide), va_up_self, pt_in (by omega) (by omega)]
      exact congrArg _ (by omega)
    · intro i hi
      simp only [Nat.reduceEqDiff, if_true, if_false, reduceIte, Nat.add_zero]
      rw [va_up_ne _ _ (by decide), va_up_ne _ _ (by decide), va_up_ne _ _ (by decide), va_up_ne _ _ (by decide), va_up_ne _ _ (by decide), va_up_self, pt_in (by omega) (by omega)]
      exact congrArg _ (by omega)
    · intro i hi
      simp only [Nat.reduceEqDiff, if_true, if_false, reduceIte, Nat.add_zero]
      rw [va_up_ne _ _ (by decide), va_up_ne _ _ (by decide), va_up_ne _ _ (by decide), va_up_ne _ _ (by decide), va_up_self, pt_in (by omega) (by omega)]
      exact congrArg _ (by omega)
    · intro i hi
      simp only [Nat.reduceEqDiff, if_true, if_false, reduceIte, Nat.add_zero]
      rw [va_up_ne _ _ (by decide), va_up_ne _ _ (by decide), va_up_ne _ _ (by decide), va_up_self, pt_in (by omega) (by omega)]
      exact congrArg _ (by omega)
    · intro i hi
      simp only [Nat.reduceEqDiff, if_true, if_false, reduceIte, Nat.add_zero]
      rw [va_up_ne _ _ (by decide), va_up_ne _ _ (by decide), va_up_self, pt_in (by omega) (by omega)]
      exact congrArg _ (by omega)
    · intro i hi
      simp only [Nat.reduceEqDiff, if_true, if_false, reduceIte, Nat.add_zero]
      rw [va_up_ne _ _ (by decide), va_up_self, pt_in (by omega) (by omega)]
      exact congrArg _ (by omega)
    · intro i hi
      simp only [Nat.reduceEqDiff, if_true, if_false, reduceIte, Nat.add_zero]
      rw [va_up_self, pt_in (by omega) (by omega)]
      exact congrArg _ (by omega)
    · intro i hi
      simp only [if_true]
      rw [va_up_ne _ _ (by decide), va_up_self, pt_in (by omega) (by omega)]
      exact congrArg _ (by omega)
    · intro i hi
      rw [if_neg (by decide), va_up_self, pt_in (by omega) (by omega)]
      exact congrArg _ (by omega)
    · rw [va_up_self]
  · unfold lv2; dsimp only; rw [va_up_ne _ _ h2, va_up_ne _ _ h1]
  · unfold lv2 ld_A; dsimp only; rw [va_up_ne _ _ (by decide), va_up_ne _ _ (by decide), va_up_ne _ _ (by decide), va_up_ne _ _ (by decide), va_up_ne _ _ (by decide), va_up_ne _ _ (by decide), va_up_ne _ _ (by decide), va_up_ne _ _ (by decide), va_up_ne _ _ (by decide), va_up_ne _ _ (by decide), va_up_ne _ _ (by decide)]

/-- keep: the slot of the end becomes what lies in slot 8 -/
def kg (u : MS) (E i : Nat) : MS := (u.1, va_up u.2.1 16 (pt (u.2.1 16) (fun j => u.2.1 16 (87520 + j)) (10940 * E) i), u.2.2)
def kh (u : MS) (E i : Nat) : MS := (u.1, u.2.1, va_up u.2.2 17 (pt (u.2.2 17) (fun j => u.2.2 17 (43200 + j)) (5400 * E) i))
theorem kg_s {u : MS} {E i : Nat} (hE : E < 8) (hi : i < 10940) : mA (kg u E i) 16 (10940 * E + i) ((kg u E i).2.1 16 (87520 + i)) = kg u E (i + 1) := by
  have e : (kg u E i).2.1 16 (87520 + i) = u.2.1 16 (87520 + i) := by unfold kg; dsimp only; rw [va_up_self, pt_out (by omega)]
  rw [e]
  unfold mA kg
  dsimp only
  rw [up_up, va_up_self, pt_s (u.2.1 16) (fun j => u.2.1 16 (87520 + j))]
theorem kh_s {u : MS} {E i : Nat} (hE : E < 8) (hi : i < 5400) : mB (kh u E i) 17 (5400 * E + i) ((kh u E i).2.2 17 (43200 + i)) = kh u E (i + 1) := by
  have e : (kh u E i).2.2 17 (43200 + i) = u.2.2 17 (43200 + i) := by unfold kh; dsimp only; rw [va_up_self, pt_out (by omega)]
  rw [e]
  unfold mB kh
  dsimp only
  rw [up_up, va_up_self, pt_sL (u.2.2 17) (fun j => u.2.2 17 (43200 + j))]
theorem m10940 (k i : Nat) : (10940 : Int32) * nI k + nI i = nI (10940 * k + i) := by
  rw [show (10940 : Int32) = nI 10940 from rfl, pk_mul, nI_add]
theorem rem8 {E : Nat} (h : E < 8) : (nI E + 1) - (nI E + 1) / 8 * 8 = nI ((E + 1) % 8) := by
  rw [nI_1, show (8 : Int32) = nI 8 from rfl]
  exact pk_rem (by omega) (by omega) (by omega)
theorem keep_41 {u : MS} {E N : Nat} (hE : E < 8) (hN : N ≤ 8) (h18 : u.1 18 = nI E) (h19 : u.1 19 = nI N) : ∀ (n i : Nat), i ≤ 5400 → 5400 - i < n → f_X4_keep_41 n (nI i) (kh u E i) = some (mF (mF (kh u E 5400) 18 (nI ((E + 1) % 8))) 19 (nI (if N < 8 then N + 1 else 8))) := by
  intro n
  induction n with
  | zero => intro i h1 h2; omega
  | succ n ih =>
    intro i h1 h2
    have h18' : (kh u E i).1 18 = nI E := h18
    rw [f_X4_keep_41, h18', rem8 hE]
    by_cases e : i = 5400
    · subst e
      rw [if_pos (show (5400 : Int32) ≤ nI 5400 by decide)]
      have h19' : (mF (kh u E 5400) 18 (nI ((E + 1) % 8))).1 19 = nI N := by
        unfold mF; dsimp only; rw [va_up_ne _ _ (by decide)]; exact h19
      rw [h19']
      by_cases h8 : N < 8
      · rw [if_neg (show ¬ (8 : Int32) ≤ nI N from nI_ge (b := 8) h8 (by omega)), if_pos h8, nI_1]
      · have : N = 8 := by omega
        subst this
        rw [if_pos (show (8 : Int32) ≤ nI 8 by decide), if_neg (by decide)]
        rfl
    · have h3 : i < 5400 := by omega
      rw [if_neg (show ¬ (5400 : Int32) ≤ nI i from nI_ge (b := 5400) h3 (by omega)), show (43200 : Int32) + nI i = nI (43200 + i) from nI_add 43200 i, if_pos (ix_nI (by omega) (by omega)), m5400, if_pos (ix_nI (by omega) (by omega)), nI_clamp (by omega), nI_clamp (by omega), kh_s hE h3, nI_1]
      exact ih (i + 1) (by omega) (by omega)
theorem keep_2 {u : MS} {E N : Nat} (hE : E < 8) (hN : N ≤ 8) (h18 : u.1 18 = nI E) (h19 : u.1 19 = nI N) : ∀ (n i : Nat), i ≤ 10940 → 10940 - i < n → f_X4_keep_2 n (nI i) (kg u E i) = some (mF (mF (kh (kg u E 10940) E 5400) 18 (nI ((E + 1) % 8))) 19 (nI (if N < 8 then N + 1 else 8))) := by
  intro n
  induction n with
  | zero => intro i h1 h2; omega
  | succ n ih =>
    intro i h1 h2
    have h18' : (kg u E i).1 18 = nI E := h18
    rw [f_X4_keep_2, h18']
    by_cases e : i = 10940
    · subst e
      rw [if_pos (show (10940 : Int32) ≤ nI 10940 by decide)]
      have := keep_41 (u := kg u E 10940) hE hN h18 h19 NF 0 (by omega) (by rw [NF_eq]; decide)
      rw [show kh (kg u E 10940) E 0 = kg u E 10940 from by unfold kh; rw [pt_0, up_id rfl]] at this
      exact this
    · have h3 : i < 10940 := by omega
      rw [if_neg (show ¬ (10940 : Int32) ≤ nI i from nI_ge (b := 10940) h3 (by omega)), show (87520 : Int32) + nI i = nI (87520 + i) from nI_add 87520 i, if_pos (ix_nI (by omega) (by omega)), m10940, if_pos (ix_nI (by omega) (by omega)), nI_clamp (by omega), nI_clamp (by omega), kg_s hE h3, nI_1]
      exact ih (i + 1) (by omega) (by omega)
theorem keep_eq {u : MS} {E N : Nat} (hE : E < 8) (hN : N ≤ 8) (h18 : u.1 18 = nI E) (h19 : u.1 19 = nI N) : f_X4_keep u = some (mF (mF (kh (kg u E 10940) E 5400) 18 (nI ((E + 1) % 8))) 19 (nI (if N < 8 then N + 1 else 8))) := by
  unfold f_X4_keep
  have := keep_2 (u := u) hE hN h18 h19 NF 0 (by omega) (by rw [NF_eq]; decide)
  rw [show kg u E 0 = u from by unfold kg; rw [pt_0, up_id rfl]] at this
  exact this
