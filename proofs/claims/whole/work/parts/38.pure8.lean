/-! ===== what is alike holds the same; undo ===== -/
theorem bl_len {x : XS} {r : Nat} (h : ∀ b ∈ xb x r, b.2 ≠ []) : (xb x r).length ≤ (sq x r).length := by
  unfold sq idl
  generalize xb x r = B at h
  induction B with
  | nil => exact Nat.le_refl 0
  | cons b B ih =>
    have h1 := ih (fun c hc => h c (List.mem_cons_of_mem _ hc))
    have h2 : b.2.length ≠ 0 := fun q => h b List.mem_cons_self (List.length_eq_zero_iff.mp q)
    simp only [List.map_cons, List.flatten_cons, List.length_append, List.length_cons] at *
    omega
theorem bl_ne {T : Nat} {x : XS} (hI : Inv T x) {r : Nat} (hr : r < 8) : ∀ b ∈ xb x r, b.2 ≠ [] := by
  rcases hI.2.1 r hr with ⟨-, h1, -⟩ | ⟨-, w, -, -, -, -, h, -⟩
  · intro b hb; rw [h1] at hb; exact absurd hb List.not_mem_nil
  · exact fun b hb => (h b hb).2
theorem mem_sq {x : XS} {r d : Nat} {b : Nat × List Nat} (hb : b ∈ xb x r) (hd : d ∈ b.2) : d ∈ sq x r := by
  unfold sq idl
  exact List.mem_flatten.mpr ⟨b.2, List.mem_map.mpr ⟨b, hb, rfl⟩, hd⟩
theorem MA_CQ {T : Nat} {x : XS} {c c' : MC} (hI : Inv T x) (h : CQ c c') (hM : MA c' x) : MA c x := by
  obtain ⟨q2, q3, q4, q5, q6, q7, q8, q11, q12, q13, q14, q9, q10, qr⟩ := h
  obtain ⟨m1, m2, m3, m4, m5, m6, m7, m8⟩ := hM
  refine ⟨fun r hr => ⟨by rw [q2 r hr]; exact (m1 r hr).1, by rw [q3 r hr]; exact (m1 r hr).2.1, by rw [q5 r hr]; exact (m1 r hr).2.2⟩, fun r hr => by rw [q4 r hr]; exact m2 r hr, fun r hr i hi => ?_, fun r hr hk b hb d hd => ?_, fun r hr hk => ⟨by rw [q6 r hr]; exact (m5 r hr hk).1, fun k hk2 => ?_⟩, fun r hr hk d hd => ?_, fun m hm => ⟨by rw [q12 m hm]; exact (m7 m hm).1, by rw [q13 m hm]; exact (m7 m hm).2.1, by rw [q14 m hm]; exact (m7 m hm).2.2⟩, by rw [qr]; exact m8⟩
  · have := len600 hI hr
    rw [q7 _ (by omega)]; exact m3 r hr i hi
  · rw [q10 d (sq_lt hI hr (mem_sq hb hd))]; exact m4 r hr hk b hb d hd
  · have h1 := len600 hI hr
    have h2 := bl_len (bl_ne hI hr)
    rw [q8 _ (by omega), q9 _ (by omega)]; exact (m5 r hr hk).2 k hk2
  · rw [q11 d (sq_lt hI hr hd)]; exact m6 r hr hk d hd
theorem ST_CQ {T : Nat} {a : SS} {c c' : MC} (h : CQ c c') (hs : ST T a c') : ST T a c := by
  obtain ⟨x, h1, h2, h3, h4⟩ := hs
  exact ⟨x, h1, MA_CQ h3 h h2, h3, h4⟩
theorem Inv_mono {T T' : Nat} {x : XS} (h : T ≤ T') (hT : T' ≤ 300) (hI : Inv T x) : Inv T' x := by
  obtain ⟨a1, a2, a3, a4, a5, a6, a7⟩ := hI
  exact ⟨hT, a2, a3, a4, fun r hr d hd => by have := a5 r hr d hd; omega, a6, a7⟩
theorem ST_mono {T T' : Nat} {a : SS} {c : MC} (h : T ≤ T') (hT : T' ≤ 300) (hs : ST T a c) : ST T' a c := by
  obtain ⟨x, h1, h2, h3, h4⟩ := hs
  exact ⟨x, h1, h2, Inv_mono h hT h3, h4⟩
theorem CQ.trans {a b c : MC} (h1 : CQ a b) (h2 : CQ b c) : CQ a c := by
  obtain ⟨a2, a3, a4, a5, a6, a7, a8, a11, a12, a13, a14, a9, a10, ar⟩ := h1
  obtain ⟨b2, b3, b4, b5, b6, b7, b8, b11, b12, b13, b14, b9, b10, br⟩ := h2
  exact ⟨fun i h => (a2 i h).trans (b2 i h), fun i h => (a3 i h).trans (b3 i h), fun i h => (a4 i h).trans (b4 i h), fun i h => (a5 i h).trans (b5 i h), fun i h => (a6 i h).trans (b6 i h), fun i h => (a7 i h).trans (b7 i h), fun i h => (a8 i h).trans (b8 i h), fun i h => (a11 i h).trans (b11 i h), fun i h => (a12 i h).trans (b12 i h), fun i h => (a13 i h).trans (b13 i h), fun i h => (a14 i h).trans (b14 i h), fun i h => (a9 i h).trans (b9 i h), fun i h => (a10 i h).trans (b10 i h), ar.trans br⟩
