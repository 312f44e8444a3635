theorem ix_ne {n m k j : Nat} (hk : k < 17) (hj : j < 17) (h : ¬ (m = n ∧ j = k)) : 139 + 17 * m + j ≠ 139 + 17 * n + k := by
  rcases Nat.lt_trichotomy m n with q | q | q
  · omega
  · subst q
    omega
  · omega
/-! the model's row of numbers S; what is true of it; how a race of the class holds the same -/
def WC (B f : Nat) (S : Nat → Int32) (n : Nat) : Prop :=
  isN (S (139 + 17 * n + 0)) 64 ∧ (S (139 + 17 * n + 1) = -1 ∨ isN (S (139 + 17 * n + 1)) 64) ∧ isN (S (139 + 17 * n + 2)) 4 ∧ isN (S (139 + 17 * n + 3)) 10 ∧ isN (S (139 + 17 * n + 4)) (f + 1) ∧ isN (S (139 + 17 * n + 5)) (B + 1) ∧ (S (139 + 17 * n + 1) = -1 ∨ isN (S (139 + 17 * n + 5)) B) ∧
  ∀ j, j < 5 → isN (S (139 + 17 * n + (8 + 2 * j))) 1000 ∧ (S (139 + 17 * n + (8 + 2 * j)) = 0 ∨ isN (S (139 + 17 * n + (7 + 2 * j))) 7)
def WF (B c f : Nat) (S : Nat → Int32) : Prop :=
  c ≤ 4 ∧ f ≤ 4 ∧ S 0 = nI c ∧ S 3 = nI f ∧ (S 4 = -1 ∨ isN (S 4) 4) ∧ (∀ k, k < f → isN (S (7 + k)) 64) ∧ (∀ k, k < 64 → isN (S (11 + k)) 9) ∧ (∀ n, n < c → WC B f S n) ∧
  ∀ n m, n < c → m < c → n ≠ m → S (139 + 17 * n + 1) = S (139 + 17 * m + 1) → S (139 + 17 * n + 1) = -1
def RC (σ : mm_M) (r : Nat) (S : Nat → Int32) (n : Nat) : Prop :=
  (∀ k, k < 7 → σ r 6 n (k + 2) = S (139 + 17 * n + k)) ∧ ∀ j, j < 5 → σ r 8 n j = S (139 + 17 * n + (8 + 2 * j)) ∧ (S (139 + 17 * n + (8 + 2 * j)) ≠ 0 → σ r 7 n j = S (139 + 17 * n + (7 + 2 * j)))
def RS (c f : Nat) (σ : mm_M) (r : Nat) (S : Nat → Int32) : Prop :=
  σ r 0 0 2 = S 0 ∧ σ r 0 0 3 = S 1 ∧ σ r 0 0 4 = S 2 ∧ σ r 0 0 5 = S 5 ∧ σ r 0 0 6 = S 6 ∧ σ r 0 0 7 = S 4 ∧ σ r 1 0 3 = S 3 ∧ (∀ k, k < 64 → σ r 2 0 k = S (11 + k)) ∧ (∀ k, k < 64 → σ r 3 0 k = S (75 + k)) ∧ (∀ k, k < f → σ r 4 0 k = S (7 + k)) ∧ (∀ n, n < c → RC σ r S n) ∧
  ∀ n, c ≤ n → n < 4 → (∀ k, 3 ≤ k → k < 7 → σ r 6 n (k + 2) = 0) ∧ ∀ j, j < 5 → σ r 8 n j = 0
theorem WF.c4 {B c f : Nat} {S : Nat → Int32} (h : WF B c f S) : c ≤ 4 := h.1
theorem WF.f4 {B c f : Nat} {S : Nat → Int32} (h : WF B c f S) : f ≤ 4 := h.2.1
theorem WF.s0 {B c f : Nat} {S : Nat → Int32} (h : WF B c f S) : S 0 = nI c := h.2.2.1
theorem WF.s3 {B c f : Nat} {S : Nat → Int32} (h : WF B c f S) : S 3 = nI f := h.2.2.2.1
theorem WF.kd {B c f : Nat} {S : Nat → Int32} (h : WF B c f S) {k : Nat} (hk : k < 64) : isN (S (11 + k)) 9 := h.2.2.2.2.2.2.1 k hk
theorem WF.ct {B c f : Nat} {S : Nat → Int32} (h : WF B c f S) {n : Nat} (hn : n < c) : WC B f S n := h.2.2.2.2.2.2.2.1 n hn
theorem WF.ap {B c f : Nat} {S : Nat → Int32} (h : WF B c f S) {n m : Nat} (hn : n < c) (hm : m < c) (hne : n ≠ m) (e : S (139 + 17 * n + 1) = S (139 + 17 * m + 1)) : S (139 + 17 * n + 1) = -1 := h.2.2.2.2.2.2.2.2 n m hn hm hne e
theorem WC.cell {B f : Nat} {S : Nat → Int32} {n : Nat} (h : WC B f S n) : S (139 + 17 * n + 1) = -1 ∨ ∃ q, q < 64 ∧ S (139 + 17 * n + 1) = nI q := h.2.1
theorem RS.s0 {c f r : Nat} {σ : mm_M} {S : Nat → Int32} (h : RS c f σ r S) : σ r 0 0 2 = S 0 := h.1
theorem RS.ph {c f r : Nat} {σ : mm_M} {S : Nat → Int32} (h : RS c f σ r S) : σ r 0 0 3 = S 1 := h.2.1
theorem RS.fc {c f r : Nat} {σ : mm_M} {S : Nat → Int32} (h : RS c f σ r S) : σ r 1 0 3 = S 3 := h.2.2.2.2.2.2.1
theorem RS.kd {c f r : Nat} {σ : mm_M} {S : Nat → Int32} (h : RS c f σ r S) {k : Nat} (hk : k < 64) : σ r 2 0 k = S (11 + k) := h.2.2.2.2.2.2.2.1 k hk
theorem RS.wl {c f r : Nat} {σ : mm_M} {S : Nat → Int32} (h : RS c f σ r S) {k : Nat} (hk : k < 64) : σ r 3 0 k = S (75 + k) := h.2.2.2.2.2.2.2.2.1 k hk
theorem RS.fl {c f r : Nat} {σ : mm_M} {S : Nat → Int32} (h : RS c f σ r S) {k : Nat} (hk : k < f) : σ r 4 0 k = S (7 + k) := h.2.2.2.2.2.2.2.2.2.1 k hk
theorem RS.ct {c f r : Nat} {σ : mm_M} {S : Nat → Int32} (h : RS c f σ r S) {n : Nat} (hn : n < c) {k : Nat} (hk : k < 7) : σ r 6 n (k + 2) = S (139 + 17 * n + k) := (h.2.2.2.2.2.2.2.2.2.2.1 n hn).1 k hk
theorem RS.rk {c f r : Nat} {σ : mm_M} {S : Nat → Int32} (h : RS c f σ r S) {n : Nat} (hn : n < c) {j : Nat} (hj : j < 5) : σ r 8 n j = S (139 + 17 * n + (8 + 2 * j)) := ((h.2.2.2.2.2.2.2.2.2.2.1 n hn).2 j hj).1
theorem RS.mv {c f r : Nat} {σ : mm_M} {S : Nat → Int32} (h : RS c f σ r S) {n : Nat} (hn : n < c) {j : Nat} (hj : j < 5) (h0 : S (139 + 17 * n + (8 + 2 * j)) ≠ 0) : σ r 7 n j = S (139 + 17 * n + (7 + 2 * j)) := ((h.2.2.2.2.2.2.2.2.2.2.1 n hn).2 j hj).2 h0
theorem RS.congr {c f r r2 : Nat} {σ σ2 : mm_M} {S : Nat → Int32} (h : RS c f σ r S) (e : ∀ t n i, t < 9 → σ2 r2 t n i = σ r t n i) : RS c f σ2 r2 S := by
  obtain ⟨h1, h2, h3, h4, h5, h6, h7, h8, h9, h10, h11, h12⟩ := h
  refine ⟨?_, ?_, ?_, ?_, ?_, ?_, ?_, fun k hk => ?_, fun k hk => ?_, fun k hk => ?_, fun n hn => ⟨fun k hk => ?_, fun j hj => ⟨?_, fun h0 => ?_⟩⟩, fun n hn hn4 => ⟨fun k a b => ?_, fun j hj => ?_⟩⟩
  · rw [e _ _ _ (by omega)]; exact h1
  · rw [e _ _ _ (by omega)]; exact h2
  · rw [e _ _ _ (by omega)]; exact h3
  · rw [e _ _ _ (by omega)]; exact h4
  · rw [e _ _ _ (by omega)]; exact h5
  · rw [e _ _ _ (by omega)]; exact h6
  · rw [e _ _ _ (by omega)]; exact h7
  · rw [e _ _ _ (by omega)]; exact h8 k hk
  · rw [e _ _ _ (by omega)]; exact h9 k hk
  · rw [e _ _ _ (by omega)]; exact h10 k hk
  · rw [e _ _ _ (by omega)]; exact (h11 n hn).1 k hk
  · rw [e _ _ _ (by omega)]; exact ((h11 n hn).2 j hj).1
  · rw [e _ _ _ (by omega)]; exact ((h11 n hn).2 j hj).2 h0
  · rw [e _ _ _ (by omega)]; exact (h12 n hn hn4).1 k a b
  · rw [e _ _ _ (by omega)]; exact (h12 n hn hn4).2 j hj
/-- S may differ where nobody looks -/
theorem RS.same {c f r : Nat} {σ : mm_M} {S T : Nat → Int32} (h : RS c f σ r S) (hc : c ≤ 4) (hf : f ≤ 4) (e : ∀ k, k < 207 → T k = S k) : RS c f σ r T := by
  obtain ⟨h1, h2, h3, h4, h5, h6, h7, h8, h9, h10, h11, h12⟩ := h
  refine ⟨?_, ?_, ?_, ?_, ?_, ?_, ?_, fun k hk => ?_, fun k hk => ?_, fun k hk => ?_, fun n hn => ⟨fun k hk => ?_, fun j hj => ⟨?_, fun h0 => ?_⟩⟩, h12⟩
  · rw [e _ (by omega)]; exact h1
  · rw [e _ (by omega)]; exact h2
  · rw [e _ (by omega)]; exact h3
  · rw [e _ (by omega)]; exact h4
  · rw [e _ (by omega)]; exact h5
  · rw [e _ (by omega)]; exact h6
  · rw [e _ (by omega)]; exact h7
  · rw [e _ (by omega)]; exact h8 k hk
  · rw [e _ (by omega)]; exact h9 k hk
  · rw [e _ (by omega)]; exact h10 k hk
  · rw [e _ (by omega)]; exact (h11 n hn).1 k hk
  · rw [e _ (by omega)]; exact ((h11 n hn).2 j hj).1
  · rw [e _ (by omega)] at h0 ⊢; exact ((h11 n hn).2 j hj).2 h0
theorem WC.same {B f : Nat} {S T : Nat → Int32} {n : Nat} (h : WC B f S n) (hn : n < 4) (e : ∀ k, k < 17 → T (139 + 17 * n + k) = S (139 + 17 * n + k)) : WC B f T n := by
  obtain ⟨h1, h2, h3, h4, h5, h6, h7, h8⟩ := h
  refine ⟨?_, ?_, ?_, ?_, ?_, ?_, ?_, fun j hj => ⟨?_, ?_⟩⟩
  · rw [e _ (by omega)]; exact h1
  · rw [e _ (by omega)]; exact h2
  · rw [e _ (by omega)]; exact h3
  · rw [e _ (by omega)]; exact h4
  · rw [e _ (by omega)]; exact h5
  · rw [e _ (by omega)]; exact h6
  · rw [e _ (by omega), e _ (by omega)]; exact h7
  · rw [e _ (by omega)]; exact (h8 j hj).1
  · rw [e _ (by omega), e _ (by omega)]; exact (h8 j hj).2
theorem WF.same {B c f : Nat} {S T : Nat → Int32} (h : WF B c f S) (e : ∀ k, k < 207 → T k = S k) : WF B c f T := by
  obtain ⟨h1, h2, h3, h4, h5, h6, h7, h8, h9⟩ := h
  refine ⟨h1, h2, ?_, ?_, ?_, fun k hk => ?_, fun k hk => ?_, fun n hn => ?_, fun n m hn hm hne => ?_⟩
  · rw [e _ (by omega)]; exact h3
  · rw [e _ (by omega)]; exact h4
  · rw [e _ (by omega)]; exact h5
  · rw [e _ (by omega)]; exact h6 k hk
  · rw [e _ (by omega)]; exact h7 k hk
  · exact (h8 n hn).same (by omega) (fun k hk => e _ (by omega))
  · rw [e _ (by omega), e _ (by omega)]; exact h9 n m hn hm hne
theorem WF.mono {B B2 c f : Nat} {S : Nat → Int32} (h : WF B c f S) (hB : B ≤ B2) : WF B2 c f S := by
  obtain ⟨h1, h2, h3, h4, h5, h6, h7, h8, h9⟩ := h
  refine ⟨h1, h2, h3, h4, h5, h6, h7, fun n hn => ?_, h9⟩
  obtain ⟨a1, a2, a3, a4, a5, a6, a7, a8⟩ := h8 n hn
  have w : ∀ (x : Int32) (N M : Nat), N ≤ M → isN x N → isN x M := fun x N M hNM ⟨k, hk, e⟩ => ⟨k, by omega, e⟩
  exact ⟨a1, a2, a3, a4, a5, w _ _ _ (by omega) a6, a7.elim Or.inl (fun z => Or.inr (w _ _ _ hB z)), a8⟩
/-- a number of a cart is set -/
theorem RS.cart {c f r n k : Nat} {σ : mm_M} {S : Nat → Int32} (h : RS c f σ r S) (hc : c ≤ 4) (hf : f ≤ 4) (hn : n < c) (hk : k < 7) (v : Int32) : RS c f (mm_u σ r 6 n (k + 2) v) r (upd S (139 + 17 * n + k) v) := by
  have U : ∀ t1 n1 i1, ¬ (t1 = 6 ∧ n1 = n ∧ i1 = k + 2) → mm_u σ r 6 n (k + 2) v r t1 n1 i1 = σ r t1 n1 i1 := fun t1 n1 i1 hh => by rw [mm_u_ap, if_neg (by omega)]
  have V : ∀ i, i ≠ 139 + 17 * n + k → upd S (139 + 17 * n + k) v i = S i := fun i hh => pk_un hh
  obtain ⟨h1, h2, h3, h4, h5, h6, h7, h8, h9, h10, h11, h12⟩ := h
  refine ⟨?_, ?_, ?_, ?_, ?_, ?_, ?_, fun k hk => ?_, fun k hk => ?_, fun k hk => ?_, fun m hm => ⟨fun k2 hk2 => ?_, fun j hj => ⟨?_, fun h0 => ?_⟩⟩, fun m hm hm4 => ⟨fun k a b => ?_, fun j hj => ?_⟩⟩
  · rw [U _ _ _ (by omega), V _ (by omega)]; exact h1
  · rw [U _ _ _ (by omega), V _ (by omega)]; exact h2
  · rw [U _ _ _ (by omega), V _ (by omega)]; exact h3
  · rw [U _ _ _ (by omega), V _ (by omega)]; exact h4
  · rw [U _ _ _ (by omega), V _ (by omega)]; exact h5
  · rw [U _ _ _ (by omega), V _ (by omega)]; exact h6
  · rw [U _ _ _ (by omega), V _ (by omega)]; exact h7
  · rw [U _ _ _ (by omega), V _ (by omega)]; exact h8 k hk
  · rw [U _ _ _ (by omega), V _ (by omega)]; exact h9 k hk
  · rw [U _ _ _ (by omega), V _ (by omega)]; exact h10 k hk
  · by_cases hh : m = n ∧ k2 = k
    · obtain ⟨rfl, rfl⟩ := hh
      rw [mm_u_ap, if_pos ⟨rfl, rfl, rfl, rfl⟩, pk_us]
    · rw [U _ _ _ (by omega), V _ (by omega)]; exact (h11 m hm).1 k2 hk2
  · rw [U _ _ _ (by omega), V _ (ix_ne (by omega) (by omega) (by omega))]; exact ((h11 m hm).2 j hj).1
  · rw [V _ (ix_ne (by omega) (by omega) (by omega))] at h0
    rw [U _ _ _ (by omega), V _ (ix_ne (by omega) (by omega) (by omega))]; exact ((h11 m hm).2 j hj).2 h0
  · rw [U _ _ _ (by omega)]; exact (h12 m hm hm4).1 k a b
  · rw [U _ _ _ (by omega)]; exact (h12 m hm hm4).2 j hj
/-- a number of the race's own is set: its place in S, its slot -/
theorem RS.glob {c f r : Nat} {σ : mm_M} {S : Nat → Int32} (h : RS c f σ r S) (hc : c ≤ 4) (hf : f ≤ 4) {a b : Nat} (hab : (a = 1 ∧ b = 3) ∨ (a = 2 ∧ b = 4) ∨ (a = 5 ∧ b = 5) ∨ (a = 6 ∧ b = 6) ∨ (a = 4 ∧ b = 7)) (v : Int32) : RS c f (mm_u σ r 0 0 b v) r (upd S a v) := by
  have U : ∀ t1 n1 i1, ¬ (t1 = 0 ∧ n1 = 0 ∧ i1 = b) → mm_u σ r 0 0 b v r t1 n1 i1 = σ r t1 n1 i1 := fun t1 n1 i1 hh => by rw [mm_u_ap, if_neg (by omega)]
  have V : ∀ i, i ≠ a → upd S a v i = S i := fun i hh => pk_un hh
  have G : ∀ x y, (x = 0 ∧ y = 2) ∨ (x = 1 ∧ y = 3) ∨ (x = 2 ∧ y = 4) ∨ (x = 5 ∧ y = 5) ∨ (x = 6 ∧ y = 6) ∨ (x = 4 ∧ y = 7) → σ r 0 0 y = S x → mm_u σ r 0 0 b v r 0 0 y = upd S a v x := by
    intro x y hxy e
    by_cases hh : x = a
    · have hy : y = b := by omega
      subst hh; subst hy
      rw [mm_u_ap, if_pos ⟨rfl, rfl, rfl, rfl⟩, pk_us]
    · rw [U _ _ _ (by omega), V _ hh]; exact e
  obtain ⟨h1, h2, h3, h4, h5, h6, h7, h8, h9, h10, h11, h12⟩ := h
  refine ⟨G _ _ (by omega) h1, G _ _ (by omega) h2, G _ _ (by omega) h3, G _ _ (by omega) h4, G _ _ (by omega) h5, G _ _ (by omega) h6, ?_, fun k hk => ?_, fun k hk => ?_, fun k hk => ?_, fun m hm => ⟨fun k2 hk2 => ?_, fun j hj => ⟨?_, fun h0 => ?_⟩⟩, fun m hm hm4 => ⟨fun k a b => ?_, fun j hj => ?_⟩⟩
  · rw [U _ _ _ (by omega), V _ (by omega)]; exact h7
  · rw [U _ _ _ (by omega), V _ (by omega)]; exact h8 k hk
  · rw [U _ _ _ (by omega), V _ (by omega)]; exact h9 k hk
  · rw [U _ _ _ (by omega), V _ (by omega)]; exact h10 k hk
  · rw [U _ _ _ (by omega), V _ (by omega)]; exact (h11 m hm).1 k2 hk2
  · rw [U _ _ _ (by omega), V _ (by omega)]; exact ((h11 m hm).2 j hj).1
  · rw [V _ (by omega)] at h0
    rw [U _ _ _ (by omega), V _ (by omega)]; exact ((h11 m hm).2 j hj).2 h0
  · rw [U _ _ _ (by omega)]; exact (h12 m hm hm4).1 k a b
  · rw [U _ _ _ (by omega)]; exact (h12 m hm hm4).2 j hj
theorem WF.glob {B c f a : Nat} {S : Nat → Int32} (h : WF B c f S) (ha : a = 1 ∨ a = 2 ∨ a = 5 ∨ a = 6) (v : Int32) : WF B c f (upd S a v) := by
  have V : ∀ i, i ≠ a → upd S a v i = S i := fun i hh => pk_un hh
  obtain ⟨h1, h2, h3, h4, h5, h6, h7, h8, h9⟩ := h
  refine ⟨h1, h2, ?_, ?_, ?_, fun k hk => ?_, fun k hk => ?_, fun n hn => ?_, fun n m hn hm hne => ?_⟩
  · rw [V _ (by omega)]; exact h3
  · rw [V _ (by omega)]; exact h4
  · rw [V _ (by omega)]; exact h5
  · rw [V _ (by omega)]; exact h6 k hk
  · rw [V _ (by omega)]; exact h7 k hk
  · exact (h8 n hn).same (by omega) (fun k hk => V _ (by omega))
  · rw [V _ (by omega), V _ (by omega)]; exact h9 n m hn hm hne
theorem WF.first {B c f : Nat} {S : Nat → Int32} (h : WF B c f S) {v : Int32} (hv : v = -1 ∨ isN v 4) : WF B c f (upd S 4 v) := by
  have V : ∀ i, i ≠ 4 → upd S 4 v i = S i := fun i hh => pk_un hh
  obtain ⟨h1, h2, h3, h4, h5, h6, h7, h8, h9⟩ := h
  refine ⟨h1, h2, ?_, ?_, ?_, fun k hk => ?_, fun k hk => ?_, fun n hn => ?_, fun n m hn hm hne => ?_⟩
  · rw [V _ (by omega)]; exact h3
  · rw [V _ (by omega)]; exact h4
  · rw [pk_us]; exact hv
  · rw [V _ (by omega)]; exact h6 k hk
  · rw [V _ (by omega)]; exact h7 k hk
  · exact (h8 n hn).same (by omega) (fun k hk => V _ (by omega))
  · rw [V _ (by omega), V _ (by omega)]; exact h9 n m hn hm hne
/-- a number of a cart's, not its cell -/
theorem WF.cart {B c f n k : Nat} {S : Nat → Int32} (h : WF B c f S) (hn : n < c) (hk : k < 7) (hk1 : k ≠ 1) {v : Int32} (v0 : k = 0 → isN v 64) (v2 : k = 2 → isN v 4) (v3 : k = 3 → isN v 10) (v4 : k = 4 → isN v (f + 1)) (v5 : k = 5 → isN v (B + 1) ∧ (S (139 + 17 * n + 1) = -1 ∨ isN v B)) : WF B c f (upd S (139 + 17 * n + k) v) := by
  have V : ∀ i, i ≠ 139 + 17 * n + k → upd S (139 + 17 * n + k) v i = S i := fun i hh => pk_un hh
  obtain ⟨h1, h2, h3, h4, h5, h6, h7, h8, h9⟩ := h
  refine ⟨h1, h2, ?_, ?_, ?_, fun k hk => ?_, fun k hk => ?_, fun m hm => ?_, fun i m hi hm hne => ?_⟩
  · rw [V _ (by omega)]; exact h3
  · rw [V _ (by omega)]; exact h4
  · rw [V _ (by omega)]; exact h5
  · rw [V _ (by omega)]; exact h6 k hk
  · rw [V _ (by omega)]; exact h7 k hk
  · by_cases hmn : m = n
    · subst hmn
      obtain ⟨a1, a2, a3, a4, a5, a6, a7, a8⟩ := h8 m hm
      have G : ∀ (i : Nat) (N : Nat), i < 7 → (k = i → isN v N) → isN (S (139 + 17 * m + i)) N → isN (upd S (139 + 17 * m + k) v (139 + 17 * m + i)) N := by
        intro i N hi hv ho
        by_cases hik : k = i
        · subst hik; rw [pk_us]; exact hv rfl
        · rw [V _ (by omega)]; exact ho
      refine ⟨G 0 _ (by omega) v0 a1, ?_, G 2 _ (by omega) v2 a3, G 3 _ (by omega) v3 a4, G 4 _ (by omega) v4 a5, G 5 _ (by omega) (fun z => (v5 z).1) a6, ?_, fun j hj => ⟨?_, ?_⟩⟩
      · rw [V _ (by omega)]; exact a2
      · rw [V (139 + 17 * m + 1) (by omega)]
        by_cases h55 : k = 5
        · subst h55; rw [pk_us]; exact (v5 rfl).2
        · rw [V _ (by omega)]; exact a7
      · rw [V _ (by omega)]; exact (a8 j hj).1
      · rw [V _ (by omega), V _ (by omega)]; exact (a8 j hj).2
    · exact (h8 m hm).same (by omega) (fun i hi => V _ (by omega))
  · rw [V _ (by omega), V _ (by omega)]; exact h9 i m hi hm hne
/-- a cart's cell -/
theorem WF.cell {B c f n : Nat} {S : Nat → Int32} (h : WF B c f S) (hn : n < c) {v : Int32} (hv : v = -1 ∨ (isN v 64 ∧ isN (S (139 + 17 * n + 5)) B ∧ ∀ m, m < c → m ≠ n → S (139 + 17 * m + 1) ≠ v)) : WF B c f (upd S (139 + 17 * n + 1) v) := by
  have V : ∀ i, i ≠ 139 + 17 * n + 1 → upd S (139 + 17 * n + 1) v i = S i := fun i hh => pk_un hh
  obtain ⟨h1, h2, h3, h4, h5, h6, h7, h8, h9⟩ := h
  refine ⟨h1, h2, ?_, ?_, ?_, fun k hk => ?_, fun k hk => ?_, fun m hm => ?_, fun i m hi hm hne e => ?_⟩
  · rw [V _ (by omega)]; exact h3
  · rw [V _ (by omega)]; exact h4
  · rw [V _ (by omega)]; exact h5
  · rw [V _ (by omega)]; exact h6 k hk
  · rw [V _ (by omega)]; exact h7 k hk
  · by_cases hmn : m = n
    · subst hmn
      obtain ⟨a1, a2, a3, a4, a5, a6, a7, a8⟩ := h8 m hm
      refine ⟨?_, ?_, ?_, ?_, ?_, ?_, ?_, fun j hj => ⟨?_, ?_⟩⟩
      · rw [V _ (by omega)]; exact a1
      · rw [pk_us]; exact hv.elim Or.inl (fun z => Or.inr z.1)
      · rw [V _ (by omega)]; exact a3
      · rw [V _ (by omega)]; exact a4
      · rw [V _ (by omega)]; exact a5
      · rw [V _ (by omega)]; exact a6
      · rw [pk_us, V _ (by omega)]; exact hv.elim Or.inl (fun z => Or.inr z.2.1)
      · rw [V _ (by omega)]; exact (a8 j hj).1
      · rw [V _ (by omega), V _ (by omega)]; exact (a8 j hj).2
    · exact (h8 m hm).same (by omega) (fun i hi => V _ (by omega))
  · by_cases hin : i = n
    · subst hin
      rw [pk_us] at e ⊢
      rw [V _ (by omega)] at e
      rcases hv with hv | hv
      · exact hv
      · exact absurd e.symm (hv.2.2 m hm (by omega))
    · rw [V _ (by omega)] at e ⊢
      by_cases hmn : m = n
      · subst hmn
        rw [pk_us] at e
        rcases hv with hv | hv
        · rw [e]; exact hv
        · exact absurd e (hv.2.2 i hi hin)
      · rw [V _ (by omega)] at e
        exact h9 i m hi hm hne e
theorem out_iff {B f : Nat} {S : Nat → Int32} {n : Nat} (h : WC B f S n) : S (139 + 17 * n + 1) < 0 ↔ S (139 + 17 * n + 1) = -1 := by
  rcases h.cell with e | ⟨q, hq, e⟩
  · rw [e]; exact ⟨fun _ => rfl, fun _ => m1_lt0⟩
  · rw [e]; exact ⟨fun z => absurd z (nI_pos (by omega)), fun z => absurd z (nI_m1 (by omega))⟩
