/-! ===== the pure level: numbers ===== -/
theorem ix_nI {k n : Nat} (h : k < n) (hn : n < 2 ^ 31) : ix (nI k) n = true := by
  unfold ix
  rw [nI_clamp (by omega)]
  simp [h, nI_pos (n := k) (by omega)]
theorem ix_ex {x : Int32} {n : Nat} (h : ix x n = true) (hn : n < 2 ^ 31) : ∃ k, k < n ∧ x = nI k := vp_in_of (ix_in h) hn
theorem ma600 (r i : Nat) : (600 : Int32) * nI r + nI i = nI (600 * r + i) := by
  rw [show (600 : Int32) = nI 600 from rfl, pk_mul, nI_add]
/-- places a .. a + n - 1 hold g, the others f -/
def pt {α : Type} (f g : Nat → α) (a n : Nat) : Nat → α := fun j => if a ≤ j ∧ j < a + n then g (j - a) else f j
theorem pt_0 {α : Type} (f g : Nat → α) (a : Nat) : pt f g a 0 = f := by
  funext j
  unfold pt
  rw [if_neg (by omega)]
theorem pt_in {α : Type} {f g : Nat → α} {a n j : Nat} (h : a ≤ j) (h2 : j < a + n) : pt f g a n j = g (j - a) := if_pos ⟨h, h2⟩
theorem pt_at {α : Type} {f g : Nat → α} {a n i : Nat} (h2 : i < n) : pt f g a n (a + i) = g i := by
  rw [pt_in (by omega) (by omega), Nat.add_sub_cancel_left]
theorem pt_out {α : Type} {f g : Nat → α} {a n j : Nat} (h : j < a ∨ a + n ≤ j) : pt f g a n j = f j := if_neg (by omega)
theorem pt_s (f g : Nat → Int32) (a n : Nat) : upd (pt f g a n) (a + n) (g n) = pt f g a (n + 1) := by
  funext j
  by_cases h : j = a + n
  · subst h
    rw [pk_us, pt_in (by omega) (by omega), Nat.add_sub_cancel_left]
  · rw [pk_un h]
    by_cases h2 : a ≤ j ∧ j < a + n
    · rw [pt_in h2.1 h2.2, pt_in h2.1 (by omega)]
    · rw [pt_out (by omega), pt_out (by omega)]
theorem pt_sL (f g : Nat → Int64) (a n : Nat) : vp_updL (pt f g a n) (a + n) (g n) = pt f g a (n + 1) := by
  funext j
  by_cases h : j = a + n
  · subst h
    rw [pk_uLs, pt_in (by omega) (by omega), Nat.add_sub_cancel_left]
  · rw [pk_uLn h]
    by_cases h2 : a ≤ j ∧ j < a + n
    · rw [pt_in h2.1 h2.2, pt_in h2.1 (by omega)]
    · rw [pt_out (by omega), pt_out (by omega)]
theorem up_id {α : Type} {f : Nat → α} {k : Nat} {v : α} (h : f k = v) : va_up f k v = f := by
  funext j
  by_cases hj : j = k
  · subst hj; rw [va_up_self, h]
  · rw [va_up_ne _ _ hj]
theorem up_up {α : Type} (f : Nat → α) (k : Nat) (v w : α) : va_up (va_up f k v) k w = va_up f k w := bx_uu f k v w
/-! the model's copies: write, read -/
def wr (u : MS) (a P N : Nat) : MS := (va_up u.1 20 (nI (P + N)), va_up u.2.1 16 (pt (u.2.1 16) (u.2.1 a) P N), u.2.2)
def rd (u : MS) (a P N : Nat) : MS := (va_up u.1 20 (nI (P + N)), va_up u.2.1 a (pt (u.2.1 a) (fun j => u.2.1 16 (P + j)) 0 N), u.2.2)
theorem wr_0 {u : MS} {a P : Nat} (h : u.1 20 = nI P) : wr u a P 0 = u := by
  unfold wr
  rw [pt_0, Nat.add_zero, up_id h, up_id rfl]
theorem rd_0 {u : MS} {a P : Nat} (h : u.1 20 = nI P) : rd u a P 0 = u := by
  unfold rd
  rw [pt_0, Nat.add_zero, up_id h, up_id rfl]
theorem wr_s {u : MS} {a P i : Nat} (ha : a ≠ 16) (hP : P + i < 2 ^ 31) : mF (mA (wr u a P i) 16 ((wr u a P i).1 20).toNatClampNeg ((wr u a P i).2.1 a i)) 20 (((mA (wr u a P i) 16 ((wr u a P i).1 20).toNatClampNeg ((wr u a P i).2.1 a i)).1 20) + 1) = wr u a P (i + 1) := by
  have e1 : (wr u a P i).1 20 = nI (P + i) := by unfold wr; dsimp only; rw [va_up_self]
  have e2 : (wr u a P i).2.1 a i = u.2.1 a i := by unfold wr; dsimp only; rw [va_up_ne _ _ ha]
  have e3 : (mA (wr u a P i) 16 ((wr u a P i).1 20).toNatClampNeg ((wr u a P i).2.1 a i)).1 20 = nI (P + i) := e1
  rw [e3, e1, e2, nI_clamp hP, nI_1]
  unfold mF mA wr
  simp only [va_up_self, up_up]
  rw [pt_s]
  rfl
theorem rd_s {u : MS} {a P i : Nat} (ha : a ≠ 16) (hP : P + i < 2 ^ 31) : mF (mA (rd u a P i) a i ((rd u a P i).2.1 16 ((rd u a P i).1 20).toNatClampNeg)) 20 (((mA (rd u a P i) a i ((rd u a P i).2.1 16 ((rd u a P i).1 20).toNatClampNeg)).1 20) + 1) = rd u a P (i + 1) := by
  have e1 : (rd u a P i).1 20 = nI (P + i) := by unfold rd; dsimp only; rw [va_up_self]
  have e2 : (rd u a P i).2.1 16 (P + i) = u.2.1 16 (P + i) := by unfold rd; dsimp only; rw [va_up_ne _ _ (Ne.symm ha)]
  have e3 : (mA (rd u a P i) a i ((rd u a P i).2.1 16 ((rd u a P i).1 20).toNatClampNeg)).1 20 = nI (P + i) := e1
  rw [e3, e1, nI_clamp hP, e2, nI_1]
  unfold mF mA rd
  simp only [va_up_self, up_up]
  have h := pt_s (u.2.1 a) (fun j => u.2.1 16 (P + j)) 0 i
  rw [Nat.zero_add] at h
  rw [h]
  rfl
theorem wr_loop {F : Nat → Int32 → Int32 → MS → Option MS} {a len : Nat} (ha : a ≠ 16) (hF : ∀ n x2 x3 u, F (n + 1) x2 x3 u = (if x2 ≤ x3 then some u else (if ix x3 len = true then (if ix (u.1 20) 98460 = true then F n x2 (x3 + 1) (mF (mA u 16 (Int32.toNatClampNeg (u.1 20)) (u.2.1 a (Int32.toNatClampNeg x3))) 20 (((mA u 16 (Int32.toNatClampNeg (u.1 20)) (u.2.1 a (Int32.toNatClampNeg x3))).1 20) + 1)) else none) else none)))
    {u : MS} {P N : Nat} (hN : N ≤ len) (hl : len < 2 ^ 31) (hP : P + N ≤ 98460) : ∀ (n i : Nat), i ≤ N → N - i < n → F n (nI N) (nI i) (wr u a P i) = some (wr u a P N) := by
  intro n
  induction n with
  | zero => intro i h1 h2; omega
  | succ n ih =>
    intro i h1 h2
    rw [hF]
    by_cases h : i = N
    · subst h
      rw [if_pos (nI_le (Nat.le_refl _) (by omega))]
    · have h3 : i < N := by omega
      rw [if_neg (nI_ge h3 (by omega)), if_pos (ix_nI (by omega) hl)]
      have e1 : (wr u a P i).1 20 = nI (P + i) := by unfold wr; dsimp only; rw [va_up_self]
      rw [if_pos (by rw [e1]; exact ix_nI (by omega) (by omega)), nI_clamp (by omega), wr_s ha (by omega), nI_1]
      exact ih (i + 1) (by omega) (by omega)
theorem rd_loop {F : Nat → Int32 → Int32 → MS → Option MS} {a len : Nat} (ha : a ≠ 16) (hF : ∀ n x2 x3 u, F (n + 1) x2 x3 u = (if x2 ≤ x3 then some u else (if ix (u.1 20) 98460 = true then (if ix x3 len = true then F n x2 (x3 + 1) (mF (mA u a (Int32.toNatClampNeg x3) (u.2.1 16 (Int32.toNatClampNeg (u.1 20)))) 20 (((mA u a (Int32.toNatClampNeg x3) (u.2.1 16 (Int32.toNatClampNeg (u.1 20)))).1 20) + 1)) else none) else none)))
    {u : MS} {P N : Nat} (hN : N ≤ len) (hl : len < 2 ^ 31) (hP : P + N ≤ 98460) : ∀ (n i : Nat), i ≤ N → N - i < n → F n (nI N) (nI i) (rd u a P i) = some (rd u a P N) := by
  intro n
  induction n with
  | zero => intro i h1 h2; omega
  | succ n ih =>
    intro i h1 h2
    rw [hF]
    by_cases h : i = N
    · subst h
      rw [if_pos (nI_le (Nat.le_refl _) (by omega))]
    · have h3 : i < N := by omega
      have e1 : (rd u a P i).1 20 = nI (P + i) := by unfold rd; dsimp only; rw [va_up_self]
      rw [if_neg (nI_ge h3 (by omega)), if_pos (by rw [e1]; exact ix_nI (by omega) (by omega)), if_pos (ix_nI (by omega) hl), nI_clamp (by omega), rd_s ha (by omega), nI_1]
      exact ih (i + 1) (by omega) (by omega)

theorem p_write_2 {u : MS} {P : Nat} (h : u.1 20 = nI P) (hP : P + 8 ≤ 98460) : f_X4_write_a2 8 u = some (wr u 2 P 8) := by
  unfold f_X4_write_a2
  have := wr_loop (F := f_X4_write_a2_2) (a := 2) (len := 8) (by decide) (fun n x2 x3 u => by rw [f_X4_write_a2_2]) (u := u) (P := P) (N := 8) (Nat.le_refl _) (by decide) hP NF 0 (Nat.zero_le _) (by rw [NF_eq]; decide)
  rw [wr_0 h] at this
  exact this
theorem p_read_2 {u : MS} {P : Nat} (h : u.1 20 = nI P) (hP : P + 8 ≤ 98460) : f_X4_read_a2 8 u = some (rd u 2 P 8) := by
  unfold f_X4_read_a2
  have := rd_loop (F := f_X4_read_a2_2) (a := 2) (len := 8) (by decide) (fun n x2 x3 u => by rw [f_X4_read_a2_2]) (u := u) (P := P) (N := 8) (Nat.le_refl _) (by decide) hP NF 0 (Nat.zero_le _) (by rw [NF_eq]; decide)
  rw [rd_0 h] at this
  exact this
theorem p_write_3 {u : MS} {P : Nat} (h : u.1 20 = nI P) (hP : P + 8 ≤ 98460) : f_X4_write_a3 8 u = some (wr u 3 P 8) := by
  unfold f_X4_write_a3
  have := wr_loop (F := f_X4_write_a3_2) (a := 3) (len := 8) (by decide) (fun n x2 x3 u => by rw [f_X4_write_a3_2]) (u := u) (P := P) (N := 8) (Nat.le_refl _) (by decide) hP NF 0 (Nat.zero_le _) (by rw [NF_eq]; decide)
  rw [wr_0 h] at this
  exact this
theorem p_read_3 {u : MS} {P : Nat} (h : u.1 20 = nI P) (hP : P + 8 ≤ 98460) : f_X4_read_a3 8 u = some (rd u 3 P 8) := by
  unfold f_X4_read_a3
  have := rd_loop (F := f_X4_read_a3_2) (a := 3) (len := 8) (by decide) (fun n x2 x3 u => by rw [f_X4_read_a3_2]) (u := u) (P := P) (N := 8) (Nat.le_refl _) (by decide) hP NF 0 (Nat.zero_le _) (by rw [NF_eq]; decide)
  rw [rd_0 h] at this
  exact this
theorem p_write_4 {u : MS} {P : Nat} (h : u.1 20 = nI P) (hP : P + 8 ≤ 98460) : f_X4_write_a4 8 u = some (wr u 4 P 8) := by
  unfold f_X4_write_a4
  have := wr_loop (F := f_X4_write_a4_2) (a := 4) (len := 8) (by decide) (fun n x2 x3 u => by rw [f_X4_write_a4_2]) (u := u) (P := P) (N := 8) (Nat.le_refl _) (by decide) hP NF 0 (Nat.zero_le _) (by rw [NF_eq]; decide)
  rw [wr_0 h] at this
  exact this
theorem p_read_4 {u : MS} {P : Nat} (h : u.1 20 = nI P) (hP : P + 8 ≤ 98460) : f_X4_read_a4 8 u = some (rd u 4 P 8) := by
  unfold f_X4_read_a4
  have := rd_loop (F := f_X4_read_a4_2) (a := 4) (len := 8) (by decide) (fun n x2 x3 u => by rw [f_X4_read_a4_2]) (u := u) (P := P) (N := 8) (Nat.le_refl _) (by decide) hP NF 0 (Nat.zero_le _) (by rw [NF_eq]; decide)
  rw [rd_0 h] at this
  exact this
theorem p_write_5 {u : MS} {P : Nat} (h : u.1 20 = nI P) (hP : P + 8 ≤ 98460) : f_X4_write_a5 8 u = some (wr u 5 P 8) := by
  unfold f_X4_write_a5
  have := wr_loop (F := f_X4_write_a5_2) (a := 5) (len := 8) (by decide) (fun n x2 x3 u => by rw [f_X4_write_a5_2]) (u := u) (P := P) (N := 8) (Nat.le_refl _) (by decide) hP NF 0 (Nat.zero_le _) (by rw [NF_eq]; decide)
  rw [wr_0 h] at this
  exact this
theorem p_read_5 {u : MS} {P : Nat} (h : u.1 20 = nI P) (hP : P + 8 ≤ 98460) : f_X4_read_a5 8 u = some (rd u 5 P 8) := by
  unfold f_X4_read_a5
  have := rd_loop (F := f_X4_read_a5_2) (a := 5) (len := 8) (by decide) (fun n x2 x3 u => by rw [f_X4_read_a5_2]) (u := u) (P := P) (N := 8) (Nat.le_refl _) (by decide) hP NF 0 (Nat.zero_le _) (by rw [NF_eq]; decide)
  rw [rd_0 h] at this
  exact this
theorem p_write_6 {u : MS} {P : Nat} (h : u.1 20 = nI P) (hP : P + 8 ≤ 98460) : f_X4_write_a6 8 u = some (wr u 6 P 8) := by
  unfold f_X4_write_a6
  have := wr_loop (F := f_X4_write_a6_2) (a := 6) (len := 8) (by decide) (fun n x2 x3 u => by rw [f_X4_write_a6_2]) (u := u) (P := P) (N := 8) (Nat.le_refl _) (by decide) hP NF 0 (Nat.zero_le _) (by rw [NF_eq]; decide)
  rw [wr_0 h] at this
  exact this
theorem p_read_6 {u : MS} {P : Nat} (h : u.1 20 = nI P) (hP : P + 8 ≤ 98460) : f_X4_read_a6 8 u = some (rd u 6 P 8) := by
  unfold f_X4_read_a6
  have := rd_loop (F := f_X4_read_a6_2) (a := 6) (len := 8) (by decide) (fun n x2 x3 u => by rw [f_X4_read_a6_2]) (u := u) (P := P) (N := 8) (Nat.le_refl _) (by decide) hP NF 0 (Nat.zero_le _) (by rw [NF_eq]; decide)
  rw [rd_0 h] at this
  exact this
theorem p_write_7 {u : MS} {P : Nat} (h : u.1 20 = nI P) (hP : P + 4800 ≤ 98460) : f_X4_write_a7 4800 u = some (wr u 7 P 4800) := by
  unfold f_X4_write_a7
  have := wr_loop (F := f_X4_write_a7_2) (a := 7) (len := 4800) (by decide) (fun n x2 x3 u => by rw [f_X4_write_a7_2]) (u := u) (P := P) (N := 4800) (Nat.le_refl _) (by decide) hP NF 0 (Nat.zero_le _) (by rw [NF_eq]; decide)
  rw [wr_0 h] at this
  exact this
theorem p_read_7 {u : MS} {P : Nat} (h : u.1 20 = nI P) (hP : P + 4800 ≤ 98460) : f_X4_read_a7 4800 u = some (rd u 7 P 4800) := by
  unfold f_X4_read_a7
  have := rd_loop (F := f_X4_read_a7_2) (a := 7) (len := 4800) (by decide) (fun n x2 x3 u => by rw [f_X4_read_a7_2]) (u := u) (P := P) (N := 4800) (Nat.le_refl _) (by decide) hP NF 0 (Nat.zero_le _) (by rw [NF_eq]; decide)
  rw [rd_0 h] at this
  exact this
theorem p_write_8 {u : MS} {P : Nat} (h : u.1 20 = nI P) (hP : P + 4800 ≤ 98460) : f_X4_write_a8 4800 u = some (wr u 8 P 4800) := by
  unfold f_X4_write_a8
  have := wr_loop (F := f_X4_write_a8_2) (a := 8) (len := 4800) (by decide) (fun n x2 x3 u => by rw [f_X4_write_a8_2]) (u := u) (P := P) (N := 4800) (Nat.le_refl _) (by decide) hP NF 0 (Nat.zero_le _) (by rw [NF_eq]; decide)
  rw [wr_0 h] at this
  exact this
theorem p_read_8 {u : MS} {P : Nat} (h : u.1 20 = nI P) (hP : P + 4800 ≤ 98460) : f_X4_read_a8 4800 u = some (rd u 8 P 4800) := by
  unfold f_X4_read_a8
  have := rd_loop (F := f_X4_read_a8_2) (a := 8) (len := 4800) (by decide) (fun n x2 x3 u => by rw [f_X4_read_a8_2]) (u := u) (P := P) (N := 4800) (Nat.le_refl _) (by decide) hP NF 0 (Nat.zero_le _) (by rw [NF_eq]; decide)
  rw [rd_0 h] at this
  exact this
theorem p_write_11 {u : MS} {P : Nat} (h : u.1 20 = nI P) (hP : P + 600 ≤ 98460) : f_X4_write_a11 600 u = some (wr u 11 P 600) := by
  unfold f_X4_write_a11
  have := wr_loop (F := f_X4_write_a11_2) (a := 11) (len := 600) (by decide) (fun n x2 x3 u => by rw [f_X4_write_a11_2]) (u := u) (P := P) (N := 600) (Nat.le_refl _) (by decide) hP NF 0 (Nat.zero_le _) (by rw [NF_eq]; decide)
  rw [wr_0 h] at this
  exact this
theorem p_read_11 {u : MS} {P : Nat} (h : u.1 20 = nI P) (hP : P + 600 ≤ 98460) : f_X4_read_a11 600 u = some (rd u 11 P 600) := by
  unfold f_X4_read_a11
  have := rd_loop (F := f_X4_read_a11_2) (a := 11) (len := 600) (by decide) (fun n x2 x3 u => by rw [f_X4_read_a11_2]) (u := u) (P := P) (N := 600) (Nat.le_refl _) (by decide) hP NF 0 (Nat.zero_le _) (by rw [NF_eq]; decide)
  rw [rd_0 h] at this
  exact this
theorem p_write_12 {u : MS} {P : Nat} (h : u.1 20 = nI P) (hP : P + 20 ≤ 98460) : f_X4_write_a12 20 u = some (wr u 12 P 20) := by
  unfold f_X4_write_a12
  have := wr_loop (F := f_X4_write_a12_2) (a := 12) (len := 20) (by decide) (fun n x2 x3 u => by rw [f_X4_write_a12_2]) (u := u) (P := P) (N := 20) (Nat.le_refl _) (by decide) hP NF 0 (Nat.zero_le _) (by rw [NF_eq]; decide)
  rw [wr_0 h] at this
  exact this
theorem p_read_12 {u : MS} {P : Nat} (h : u.1 20 = nI P) (hP : P + 20 ≤ 98460) : f_X4_read_a12 20 u = some (rd u 12 P 20) := by
  unfold f_X4_read_a12
  have := rd_loop (F := f_X4_read_a12_2) (a := 12) (len := 20) (by decide) (fun n x2 x3 u => by rw [f_X4_read_a12_2]) (u := u) (P := P) (N := 20) (Nat.le_refl _) (by decide) hP NF 0 (Nat.zero_le _) (by rw [NF_eq]; decide)
  rw [rd_0 h] at this
  exact this
theorem p_write_13 {u : MS} {P : Nat} (h : u.1 20 = nI P) (hP : P + 20 ≤ 98460) : f_X4_write_a13 20 u = some (wr u 13 P 20) := by
  unfold f_X4_write_a13
  have := wr_loop (F := f_X4_write_a13_2) (a := 13) (len := 20) (by decide) (fun n x2 x3 u => by rw [f_X4_write_a13_2]) (u := u) (P := P) (N := 20) (Nat.le_refl _) (by decide) hP NF 0 (Nat.zero_le _) (by rw [NF_eq]; decide)
  rw [wr_0 h] at this
  exact this
theorem p_read_13 {u : MS} {P : Nat} (h : u.1 20 = nI P) (hP : P + 20 ≤ 98460) : f_X4_read_a13 20 u = some (rd u 13 P 20) := by
  unfold f_X4_read_a13
  have := rd_loop (F := f_X4_read_a13_2) (a := 13) (len := 20) (by decide) (fun n x2 x3 u => by rw [f_X4_read_a13_2]) (u := u) (P := P) (N := 20) (Nat.le_refl _) (by decide) hP NF 0 (Nat.zero_le _) (by rw [NF_eq]; decide)
  rw [rd_0 h] at this
  exact this
theorem p_write_14 {u : MS} {P : Nat} (h : u.1 20 = nI P) (hP : P + 20 ≤ 98460) : f_X4_write_a14 20 u = some (wr u 14 P 20) := by
  unfold f_X4_write_a14
  have := wr_loop (F := f_X4_write_a14_2) (a := 14) (len := 20) (by decide) (fun n x2 x3 u => by rw [f_X4_write_a14_2]) (u := u) (P := P) (N := 20) (Nat.le_refl _) (by decide) hP NF 0 (Nat.zero_le _) (by rw [NF_eq]; decide)
  rw [wr_0 h] at this
  exact this
theorem p_read_14 {u : MS} {P : Nat} (h : u.1 20 = nI P) (hP : P + 20 ≤ 98460) : f_X4_read_a14 20 u = some (rd u 14 P 20) := by
  unfold f_X4_read_a14
  have := rd_loop (F := f_X4_read_a14_2) (a := 14) (len := 20) (by decide) (fun n x2 x3 u => by rw [f_X4_read_a14_2]) (u := u) (P := P) (N := 20) (Nat.le_refl _) (by decide) hP NF 0 (Nat.zero_le _) (by rw [NF_eq]; decide)
  rw [rd_0 h] at this
  exact this
