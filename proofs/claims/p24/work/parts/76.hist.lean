/-! the history: what is kept, what is taken back -/
theorem GS.congr {B r r2 : Nat} {σ σ2 : mm_M} {S T : Nat → Int32} (h : GS B σ r S) (e : ∀ t n i, t < 9 → σ2 r2 t n i = σ r t n i) (eT : ∀ i, i < 207 → T i = S i) : GS B σ2 r2 T := by
  obtain ⟨c, f, ph, hW, hR, hp, hph, hX⟩ := h
  have hc4 := hW.c4
  exact ⟨c, f, ph, hW.same eT, (hR.congr e).same hW.c4 hW.f4 eT, (eT 1 (by omega)).trans hp, hph, hX.cg (fun i hi => eT i (by omega)) (fun n hn => eT _ (by omega)) (fun n hn => eT _ (by omega))⟩
theorem GS.mono {B B2 r : Nat} {σ : mm_M} {S : Nat → Int32} (h : GS B σ r S) (hB : B ≤ B2) : GS B2 σ r S := by
  obtain ⟨c, f, ph, hW, hR, hp, hph, hX⟩ := h
  exact ⟨c, f, ph, hW.mono hB, hR, hp, hph, hX.mono hB⟩
theorem GS.copy {B r0 r1 : Nat} {σ σ1 : mm_M} {S : Nat → Int32} (h : GS B σ r1 S) (hC : C0 r0 r1 σ σ1) : GS B σ1 r0 S := by
  obtain ⟨c, f, ph, hW, hR, hp, hph, hX⟩ := h
  exact ⟨c, f, ph, hW, hR.copy hW.c4 hW.f4 hC, hp, hph, hX⟩
def PM (σ : mm_M) (p : Nat → Nat) : Prop := (∀ i, i < 4 → p i < 4 ∧ σ 6 11 0 i = nI (2 + p i)) ∧ ∀ i j, i < 4 → j < 4 → p i = p j → i = j
def HC (B : Nat) (σ : mm_M) (N : Nat) (R : Nat → Nat → Int32) : Prop := N ≤ 4 ∧ σ 6 10 0 1 = nI N ∧ ∃ p, PM σ p ∧ ∀ i, i < N → GS B σ (2 + p i) (R i)
def pN (N : Nat) : Nat := if N = 4 then 4 else N + 1
def pR (N : Nat) (R : Nat → Nat → Int32) (S : Nat → Int32) : Nat → Nat → Int32 := fun i => if N = 4 then (if i < 3 then R (i + 1) else S) else (if i = N then S else R i)
theorem HC.mono {B B2 N : Nat} {σ : mm_M} {R : Nat → Nat → Int32} (h : HC B σ N R) (hB : B ≤ B2) : HC B2 σ N R := by
  obtain ⟨h1, h2, p, h3, h4⟩ := h
  exact ⟨h1, h2, p, h3, fun i hi => (h4 i hi).mono hB⟩
theorem HC.congr {B N : Nat} {σ σ2 : mm_M} {R : Nat → Nat → Int32} (h : HC B σ N R) (e : ∀ q t n i, 2 ≤ q → q < 7 → σ2 q t n i = σ q t n i) : HC B σ2 N R := by
  obtain ⟨h1, h2, p, h3, h4⟩ := h
  refine ⟨h1, (e _ _ _ _ (by omega) (by omega)).trans h2, p, ⟨fun i hi => ⟨(h3.1 i hi).1, (e _ _ _ _ (by omega) (by omega)).trans (h3.1 i hi).2⟩, h3.2⟩, fun i hi => (h4 i hi).congr (fun t n j ht => e _ _ _ _ (by omega) ?_) (fun _ _ => rfl)⟩
  have := (h3.1 i (by omega)).1
  omega
/-- the oldest goes -/
theorem drop_cc {σ : mm_M} {p : Nat → Nat} (hp : PM σ p) : ∃ σ1, fx_X4_dropOldest σ = some (0, σ1) ∧ σ1 6 10 0 1 = nI 3 ∧ PM σ1 (fun i => if i < 3 then p (i + 1) else p 0) ∧ ∀ q t n i, q ≠ 6 → σ1 q t n i = σ q t n i := by
  obtain ⟨p0, e0⟩ := hp.1 0 (by omega)
  obtain ⟨p1, e1⟩ := hp.1 1 (by omega)
  obtain ⟨p2, e2⟩ := hp.1 2 (by omega)
  obtain ⟨p3, e3⟩ := hp.1 3 (by omega)
  have c : ∀ i, i < 4 → (nI (2 + p i)).toNatClampNeg = 2 + p i := fun i hi => nI_cl (by have := (hp.1 i hi).1; omega)
  have s1 : σ 6 11 0 (1 : Int32).toNatClampNeg = nI (2 + p 1) := e1
  refine ⟨mm_u (mm_u (mm_u (mm_u (mm_u σ 6 11 0 0 (nI (2 + p 1))) 6 11 0 1 (nI (2 + p 2))) 6 11 0 2 (nI (2 + p 3))) 6 11 0 3 (nI (2 + p 0))) 6 10 0 1 3, ?_, ?_, ⟨fun i hi => ?_, fun i j hi hj e => ?_⟩, fun q t n i hq => ?_⟩
  · have f0 : σ 6 11 0 (0 : Int32).toNatClampNeg = nI (2 + p 0) := e0
    rw [fx_X4_dropOldest, f0, c 0 (by omega), mm_gd_t (by omega)]
    unfold mm_FU
    have f1 : σ 6 11 0 (1 : Int32).toNatClampNeg = nI (2 + p 1) := e1
    rw [fx_X4_dropOldest_L9, if_neg (show ¬ (4 : Int32) ≤ 1 by decide), mm_gd_t (by decide), f1, c 1 (by omega), mm_gd_t (by omega), mm_gd_t (by decide), mm_lt_e, mm_li_e, show (1 : Int32) + 1 = 2 by decide, show ((1 : Int32) - 1).toNatClampNeg = 0 by decide]
    have f2 : mm_u σ 6 11 0 0 (nI (2 + p 1)) 6 11 0 (2 : Int32).toNatClampNeg = nI (2 + p 2) := by
      show mm_u σ 6 11 0 0 (nI (2 + p 1)) 6 11 0 2 = _
      rw [mm_u_ap, if_neg (by omega)]; exact e2
    rw [fx_X4_dropOldest_L9, if_neg (show ¬ (4 : Int32) ≤ 2 by decide), mm_gd_t (by decide), f2, c 2 (by omega), mm_gd_t (by omega), mm_gd_t (by decide), mm_lt_e, mm_li_e, show (2 : Int32) + 1 = 3 by decide, show ((2 : Int32) - 1).toNatClampNeg = 1 by decide]
    have f3 : mm_u (mm_u σ 6 11 0 0 (nI (2 + p 1))) 6 11 0 1 (nI (2 + p 2)) 6 11 0 (3 : Int32).toNatClampNeg = nI (2 + p 3) := by
      show mm_u (mm_u σ 6 11 0 0 (nI (2 + p 1))) 6 11 0 1 (nI (2 + p 2)) 6 11 0 3 = _
      rw [mm_u_ap, if_neg (by omega), mm_u_ap, if_neg (by omega)]; exact e3
    rw [fx_X4_dropOldest_L9, if_neg (show ¬ (4 : Int32) ≤ 3 by decide), mm_gd_t (by decide), f3, c 3 (by omega), mm_gd_t (by omega), mm_gd_t (by decide), mm_lt_e, mm_li_e, show (3 : Int32) + 1 = 4 by decide, show ((3 : Int32) - 1).toNatClampNeg = 2 by decide]
    rw [fx_X4_dropOldest_L9, if_pos (show (4 : Int32) ≤ 4 by decide), mm_lt_e, mm_lt_e]
    rfl
  · rw [mm_u_ap, if_pos ⟨rfl, rfl, rfl, rfl⟩]
    rfl
  · rcases (show i = 0 ∨ i = 1 ∨ i = 2 ∨ i = 3 by omega) with rfl | rfl | rfl | rfl
    · exact ⟨p1, by simp [mm_u_ap]⟩
    · exact ⟨p2, by simp [mm_u_ap]⟩
    · exact ⟨p3, by simp [mm_u_ap]⟩
    · exact ⟨p0, by simp [mm_u_ap]⟩
  · have k := fun a b ha hb => hp.2 a b ha hb
    by_cases hi3 : i < 3
    · by_cases hj3 : j < 3
      · rw [show (fun i => if i < 3 then p (i + 1) else p 0) i = p (i + 1) from if_pos hi3, show (fun i => if i < 3 then p (i + 1) else p 0) j = p (j + 1) from if_pos hj3] at e
        have := k _ _ (by omega) (by omega) e
        omega
      · rw [show (fun i => if i < 3 then p (i + 1) else p 0) i = p (i + 1) from if_pos hi3, show (fun i => if i < 3 then p (i + 1) else p 0) j = p 0 from if_neg hj3] at e
        have := k _ _ (by omega) (by omega) e
        omega
    · by_cases hj3 : j < 3
      · rw [show (fun i => if i < 3 then p (i + 1) else p 0) i = p 0 from if_neg hi3, show (fun i => if i < 3 then p (i + 1) else p 0) j = p (j + 1) from if_pos hj3] at e
        have := k _ _ (by omega) (by omega) e
        omega
      · omega
  · rw [mm_u_ap, if_neg (by omega), mm_u_ap, if_neg (by omega), mm_u_ap, if_neg (by omega), mm_u_ap, if_neg (by omega), mm_u_ap, if_neg (by omega)]
theorem add_J {B N : Nat} {σ : mm_M} {p : Nat → Nat} {R : Nat → Nat → Int32} {S : Nat → Int32} (hN : N < 4) (h1 : σ 6 10 0 1 = nI N) (hp : PM σ p) (hR : ∀ i, i < N → GS B σ (2 + p i) (R i)) (h0 : GS B σ 0 S) : ∃ σ1, fx_X4_add_J12 0 σ = some (0, σ1) ∧ σ1 6 10 0 1 = nI (N + 1) ∧ PM σ1 p ∧ (∀ i, i < N + 1 → GS B σ1 (2 + p i) (if i = N then S else R i)) ∧ ∀ q t n i, (q < 2 ∨ 6 < q) → σ1 q t n i = σ q t n i := by
  obtain ⟨pN, eN⟩ := hp.1 N hN
  obtain ⟨σ1, e1, c1, f1⟩ := copy0 (r0 := 2 + p N) (r1 := 0) (σ := σ) (by omega)
  have s6 : σ1 6 10 0 1 = nI N := (f1 6 10 0 1 (by omega)).trans h1
  refine ⟨mm_u σ1 6 10 0 1 (nI (N + 1)), ?_, ?_, ⟨fun i hi => ⟨(hp.1 i hi).1, ?_⟩, hp.2⟩, fun i hi => ?_, fun q t n i hq => ?_⟩
  · rw [fx_X4_add_J12, h1, mm_gd_t (mm_ix_n (by omega) (by omega)), nI_cl (by omega), eN, nI_cl (by omega), mm_gd_t (by omega), e1, mm_bd_some, mm_lt_e, s6, nI_1]
  · rw [mm_u_ap, if_pos ⟨rfl, rfl, rfl, rfl⟩]
  · rw [mm_u_ap, if_neg (by omega), f1 6 11 0 i (by omega)]
    exact (hp.1 i hi).2
  · by_cases hiN : i = N
    · subst hiN
      rw [if_pos rfl]
      exact (h0.copy c1).congr (fun t n j ht => by rw [mm_u_ap, if_neg (by omega)]) (fun _ _ => rfl)
    · rw [if_neg hiN]
      have hne : p i ≠ p N := fun z => hiN (hp.2 i N (by omega) hN z)
      have hpi := (hp.1 i (by omega)).1
      exact (hR i (by omega)).congr (fun t n j ht => by rw [mm_u_ap, if_neg (by omega), f1 _ _ _ _ (by omega)]) (fun _ _ => rfl)
  · rw [mm_u_ap, if_neg (by omega), f1 _ _ _ _ (by omega)]
theorem add_cc {B N : Nat} {σ : mm_M} {R : Nat → Nat → Int32} {S : Nat → Int32} (h : HC B σ N R) (h0 : GS B σ 0 S) : ∃ σ1, fx_X4_add 0 σ = some (0, σ1) ∧ HC B σ1 (pN N) (pR N R S) ∧ ∀ q t n i, (q < 2 ∨ 6 < q) → σ1 q t n i = σ q t n i := by
  obtain ⟨h1, h2, p, h3, h4⟩ := h
  rw [fx_X4_add, h2]
  by_cases hN : N = 4
  · subst hN
    obtain ⟨σ1, e1, s1, hp1, f1⟩ := drop_cc h3
    obtain ⟨σ2, e2, s2, hp2, g2, f2⟩ := add_J (R := fun i => R (i + 1)) (S := S) (B := B) (N := 3) (by omega) s1 hp1 (fun i hi => by
      rw [if_pos hi]
      have := (h3.1 (i + 1) (by omega)).1
      exact (h4 (i + 1) (by omega)).congr (fun t n j ht => f1 _ _ _ _ (by omega)) (fun _ _ => rfl)) (h0.congr (fun t n j ht => f1 _ _ _ _ (by omega)) (fun _ _ => rfl))
    rw [if_pos (show nI 4 = (4 : Int32) from rfl), e1, mm_bd_some]
    refine ⟨σ2, e2, ⟨by decide, s2, _, hp2, fun i hi => ?_⟩, fun q t n i hq => (f2 q t n i hq).trans (f1 q t n i (by omega))⟩
    have := g2 i hi
    unfold pR
    rw [if_pos rfl]
    have hi4 : i < 4 := hi
    by_cases hi3 : i = 3
    · rw [if_pos hi3] at this
      rw [if_neg (show ¬ i < 3 by omega)] at this ⊢
      rw [if_neg (show ¬ i < 3 by omega)]
      exact this
    · rw [if_neg hi3] at this
      rw [if_pos (show i < 3 by omega)] at this ⊢
      rw [if_pos (show i < 3 by omega)]
      exact this
  · obtain ⟨σ2, e2, s2, hp2, g2, f2⟩ := add_J (S := S) (by omega) h2 h3 h4 h0
    rw [if_neg (ne_lit (a := N) (b := 4) (x := 4) rfl hN (by omega) (by omega))]
    have en : pN N = N + 1 := if_neg hN
    refine ⟨σ2, e2, ⟨by omega, by rw [en]; exact s2, p, hp2, fun i hi => ?_⟩, f2⟩
    have := g2 i (by omega)
    unfold pR
    rw [if_neg hN]
    split at this
    · next z => rw [if_pos z]; exact this
    · next z => rw [if_neg z]; exact this
theorem keep_ok {B N t : Nat} {σ : mm_M} {R : Nat → Nat → Int32} {S S1 : Nat → Int32} (ht : t < 1000000) (h : HC B σ N R) (h0 : GS B σ 0 S) (h1 : GS B σ 1 S1) : ∃ σ1, fx_X10_keep (nI t) σ = some (nI t, σ1) ∧ HC B σ1 (pN N) (pR N R S) ∧ GS B σ1 0 S1 ∧ ∀ q t n i, 6 < q → σ1 q t n i = σ q t n i := by
  obtain ⟨σ1, e1, hC, f1⟩ := add_cc h h0
  obtain ⟨σ2, e2, c2, f2⟩ := copy0 (r0 := 0) (r1 := 1) (σ := σ1) (by omega)
  refine ⟨σ2, ?_, hC.congr (fun q t n i a b => f2 q t n i (by omega)), (h1.congr (fun t n i ht => f1 _ _ _ _ (by omega)) (fun _ _ => rfl)).copy c2, fun q t n i hq => (f2 q t n i (by omega)).trans (f1 q t n i (by omega))⟩
  rw [fx_X10_keep, fx_X10_isError, if_pos (nI_pos' (by omega)), mm_bd_some, if_pos rfl, e1, mm_bd_some, e2, mm_bd_some]
theorem keep_er {v : Int32} {σ : mm_M} (h : er v) : fx_X10_keep v σ = some (v, σ) := by
  rcases h with rfl | rfl | rfl
  · rw [fx_X10_keep, fx_X10_isError, if_neg (by decide), mm_bd_some, if_neg (by decide)]
  · rw [fx_X10_keep, fx_X10_isError, if_neg (by decide), mm_bd_some, if_neg (by decide)]
  · rw [fx_X10_keep, fx_X10_isError, if_neg (by decide), mm_bd_some, if_neg (by decide)]
