/-! a race is copied -/
theorem mm_w_ap (σ : mm_M) (r t n : Nat) (g : Nat → Int32) (r1 t1 n1 : Nat) : mm_w σ r t n g r1 t1 n1 = if r1 = r ∧ t1 = t ∧ n1 = n then g else σ r1 t1 n1 := rfl
theorem cpy_at {f g : Nat → Int32} {N k : Nat} (h : k < N) : va_cpy f g (0 : Int32).toNatClampNeg (0 : Int32).toNatClampNeg N k = f k := by
  show (if 0 ≤ k ∧ k < 0 + N then f (0 + (k - 0)) else g k) = f k
  rw [if_pos ⟨Nat.zero_le _, by omega⟩]
  congr 1
  omega
def C3 (r0 r1 n : Nat) (σ σ1 : mm_M) : Prop := (∀ k, 2 ≤ k → k < 9 → σ1 r0 6 n k = σ r1 6 n k) ∧ (∀ j, j < 5 → σ1 r0 7 n j = σ r1 7 n j) ∧ ∀ j, j < 5 → σ1 r0 8 n j = σ r1 8 n j
theorem copy3 {r0 r1 n : Nat} {σ : mm_M} (h : r0 ≠ r1) : ∃ σ1, fx_X3_copyFrom r0 n r1 n σ = some (0, σ1) ∧ C3 r0 r1 n σ σ1 ∧ ∀ q t m i, (q ≠ r0 ∨ m ≠ n ∨ t < 6) → σ1 q t m i = σ q t m i := by
  have h2 : ¬ r1 = r0 := fun z => h z.symm
  refine ⟨_, rfl, ⟨fun k a b => ?_, fun j hj => ?_, fun j hj => ?_⟩, fun q t m i hh => ?_⟩
  · rcases (show k = 2 ∨ k = 3 ∨ k = 4 ∨ k = 5 ∨ k = 6 ∨ k = 7 ∨ k = 8 by omega) with rfl | rfl | rfl | rfl | rfl | rfl | rfl <;> simp [mm_u_ap, mm_w_ap, h2]
  · simp only [mm_u_ap, mm_w_ap]
    simp [h2]
    exact cpy_at (N := 5) hj
  · simp only [mm_u_ap, mm_w_ap]
    simp [h2]
    exact cpy_at (N := 5) hj
  · simp only [mm_u_ap, mm_w_ap]
    rw [if_neg (by omega), if_neg (by omega), if_neg (by omega), if_neg (by omega), if_neg (by omega), if_neg (by omega), if_neg (by omega), if_neg (by omega), if_neg (by omega)]
def C1 (r0 r1 : Nat) (σ σ1 : mm_M) : Prop := σ1 r0 1 0 3 = σ r1 1 0 3 ∧ (∀ k, k < 64 → σ1 r0 2 0 k = σ r1 2 0 k) ∧ (∀ k, k < 64 → σ1 r0 3 0 k = σ r1 3 0 k) ∧ ∀ k, k < 4 → σ1 r0 4 0 k = σ r1 4 0 k
theorem copy1 {r0 r1 : Nat} {σ : mm_M} (h : r0 ≠ r1) : ∃ σ1, fx_X1_copyFrom r0 r1 σ = some (0, σ1) ∧ C1 r0 r1 σ σ1 ∧ ∀ q t m i, (q ≠ r0 ∨ t = 0 ∨ 5 < t) → σ1 q t m i = σ q t m i := by
  have h2 : ¬ r1 = r0 := fun z => h z.symm
  refine ⟨_, rfl, ⟨?_, fun k hk => ?_, fun k hk => ?_, fun k hk => ?_⟩, fun q t m i hh => ?_⟩
  · simp [mm_u_ap, mm_w_ap, h2]
  · simp only [mm_u_ap, mm_w_ap]
    simp [h2]
    exact cpy_at (N := 64) hk
  · simp only [mm_u_ap, mm_w_ap]
    simp [h2]
    exact cpy_at (N := 64) hk
  · simp only [mm_u_ap, mm_w_ap]
    simp [h2]
    exact cpy_at (N := 4) hk
  · simp only [mm_u_ap, mm_w_ap]
    rw [if_neg (by omega), if_neg (by omega), if_neg (by omega), if_neg (by omega)]
def C0 (r0 r1 : Nat) (σ σ1 : mm_M) : Prop := (∀ k, 2 ≤ k → k < 8 → σ1 r0 0 0 k = σ r1 0 0 k) ∧ C1 r0 r1 σ σ1 ∧ ∀ n, n < 4 → C3 r0 r1 n σ σ1
theorem copy_L {r0 r1 : Nat} (h : r0 ≠ r1) : ∀ (e k fu : Nat) (σ : mm_M), k + e = 4 → e < fu → ∃ σ1, fx_X8_copyFrom_L13 r0 r1 fu (nI k) σ = some (0, σ1) ∧ (∀ i, 2 ≤ i → i < 8 → σ1 r0 0 0 i = σ r1 0 0 i) ∧ (∀ n, k ≤ n → n < 4 → C3 r0 r1 n σ σ1) ∧ (∀ t n i, 0 < t → (t < 6 ∨ n < k) → σ1 r0 t n i = σ r0 t n i) ∧ ∀ q t n i, q ≠ r0 → σ1 q t n i = σ q t n i := by
  have h2 : ¬ r1 = r0 := fun z => h z.symm
  intro e
  induction e with
  | zero =>
    intro k fu σ hk hf
    obtain ⟨g, rfl⟩ : ∃ g, fu = g + 1 := ⟨fu - 1, by omega⟩
    have : k = 4 := by omega
    subst this
    rw [fx_X8_copyFrom_L13, if_pos (show (4 : Int32) ≤ nI 4 by decide)]
    refine ⟨_, rfl, fun i a b => ?_, fun n a b => absurd b (by omega), fun t n i a b => ?_, fun q t n i a => ?_⟩
    · rcases (show i = 2 ∨ i = 3 ∨ i = 4 ∨ i = 5 ∨ i = 6 ∨ i = 7 by omega) with rfl | rfl | rfl | rfl | rfl | rfl <;> simp [mm_u_ap, h2]
    · simp only [mm_u_ap]
      rw [if_neg (by omega), if_neg (by omega), if_neg (by omega), if_neg (by omega), if_neg (by omega), if_neg (by omega)]
    · simp only [mm_u_ap]
      rw [if_neg (by omega), if_neg (by omega), if_neg (by omega), if_neg (by omega), if_neg (by omega), if_neg (by omega)]
  | succ e ih =>
    intro k fu σ hk hf
    obtain ⟨g, rfl⟩ : ∃ g, fu = g + 1 := ⟨fu - 1, by omega⟩
    obtain ⟨σ1, e1, c1, d1⟩ := copy3 (n := k) (σ := σ) h
    rw [fx_X8_copyFrom_L13, if_neg (show ¬ (4 : Int32) ≤ nI k from nle_lit (x := 4) (b := 4) rfl (by omega) (by omega)), mm_gd_t (mm_ix_n (by omega) (by omega)), mm_gd_t (mm_ix_n (by omega) (by omega)), nI_cl (by omega), e1, mm_bd_some, mm_li_e, nI_1]
    obtain ⟨σ2, e2, a1, a2, a3, a4⟩ := ih (k + 1) g σ1 (by omega) (by omega)
    refine ⟨σ2, e2, fun i a b => (a1 i a b).trans (d1 _ _ _ _ (Or.inl h2)), fun n a b => ?_, fun t n i a b => (a3 t n i a (by omega)).trans (d1 _ _ _ _ (by omega)), fun q t n i a => (a4 q t n i a).trans (d1 _ _ _ _ (Or.inl a))⟩
    by_cases hnk : n = k
    · subst hnk
      exact ⟨fun i x y => (a3 6 n i (by omega) (by omega)).trans (c1.1 i x y), fun j hj => (a3 7 n j (by omega) (by omega)).trans (c1.2.1 j hj), fun j hj => (a3 8 n j (by omega) (by omega)).trans (c1.2.2 j hj)⟩
    · obtain ⟨b1, b2, b3⟩ := a2 n (by omega) b
      exact ⟨fun i x y => (b1 i x y).trans (d1 _ _ _ _ (Or.inl h2)), fun j hj => (b2 j hj).trans (d1 _ _ _ _ (Or.inl h2)), fun j hj => (b3 j hj).trans (d1 _ _ _ _ (Or.inl h2))⟩
theorem copy0 {r0 r1 : Nat} {σ : mm_M} (h : r0 ≠ r1) : ∃ σ1, fx_X8_copyFrom r0 r1 σ = some (0, σ1) ∧ C0 r0 r1 σ σ1 ∧ ∀ q t n i, q ≠ r0 → σ1 q t n i = σ q t n i := by
  have h2 : ¬ r1 = r0 := fun z => h z.symm
  obtain ⟨σ1, e1, c1, d1⟩ := copy1 (σ := σ) h
  obtain ⟨σ2, e2, a1, a2, a3, a4⟩ := copy_L h 4 0 mm_FU σ1 (by omega) (by unfold mm_FU; omega)
  rw [fx_X8_copyFrom, e1, mm_bd_some]
  refine ⟨σ2, e2, ⟨fun k x y => (a1 k x y).trans (d1 _ _ _ _ (Or.inl h2)), ?_, fun n hn => ?_⟩, fun q t n i a => (a4 q t n i a).trans (d1 _ _ _ _ (Or.inl a))⟩
  · exact ⟨(a3 1 0 3 (by omega) (by omega)).trans c1.1, fun k hk => (a3 2 0 k (by omega) (by omega)).trans (c1.2.1 k hk), fun k hk => (a3 3 0 k (by omega) (by omega)).trans (c1.2.2.1 k hk), fun k hk => (a3 4 0 k (by omega) (by omega)).trans (c1.2.2.2 k hk)⟩
  · obtain ⟨b1, b2, b3⟩ := a2 n (by omega) hn
    exact ⟨fun i x y => (b1 i x y).trans (d1 _ _ _ _ (Or.inl h2)), fun j hj => (b2 j hj).trans (d1 _ _ _ _ (Or.inl h2)), fun j hj => (b3 j hj).trans (d1 _ _ _ _ (Or.inl h2))⟩
theorem RS.copy {c f r0 r1 : Nat} {σ σ1 : mm_M} {S : Nat → Int32} (h : RS c f σ r1 S) (hc : c ≤ 4) (hf : f ≤ 4) (hC : C0 r0 r1 σ σ1) : RS c f σ1 r0 S := by
  obtain ⟨c0, ⟨c1, c2, c3, c4⟩, c5⟩ := hC
  obtain ⟨h1, h2, h3, h4, h5, h6, h7, h8, h9, h10, h11, h12⟩ := h
  refine ⟨(c0 2 (by omega) (by omega)).trans h1, (c0 3 (by omega) (by omega)).trans h2, (c0 4 (by omega) (by omega)).trans h3, (c0 5 (by omega) (by omega)).trans h4, (c0 6 (by omega) (by omega)).trans h5, (c0 7 (by omega) (by omega)).trans h6, c1.trans h7, fun k hk => (c2 k hk).trans (h8 k hk), fun k hk => (c3 k hk).trans (h9 k hk), fun k hk => (c4 k (by omega)).trans (h10 k hk), fun n hn => ?_, fun n hn hn4 => ?_⟩
  · obtain ⟨b1, b2, b3⟩ := c5 n (by omega)
    obtain ⟨g1, g2⟩ := h11 n hn
    exact ⟨fun k hk => (b1 (k + 2) (by omega) (by omega)).trans (g1 k hk), fun j hj => ⟨(b3 j hj).trans (g2 j hj).1, fun z => (b2 j hj).trans ((g2 j hj).2 z)⟩⟩
  · obtain ⟨b1, b2, b3⟩ := c5 n hn4
    obtain ⟨g1, g2⟩ := h12 n hn hn4
    exact ⟨fun k a b => (b1 (k + 2) (by omega) (by omega)).trans (g1 k a b), fun j hj => (b3 j hj).trans (g2 j hj)⟩
