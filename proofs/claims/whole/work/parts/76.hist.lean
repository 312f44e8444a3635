/-! the history: what is kept, what is taken back -/
theorem GS.congr {B r r2 : Nat} {σ σ2 : mm_M} {S T : Nat → Int32} (h : GS B σ r S) (e : ∀ t n i, t < 9 → σ2 r2 t n i = σ r t n i) (eT : ∀ i, i < 207 → T i = S i) : GS B σ2 r2 T := by
  obtain ⟨c, f, ph, hW, hR, hp, hph⟩ := h
  exact ⟨c, f, ph, hW.same eT, (hR.congr e).same hW.c4 hW.f4 eT, (eT 1 (by omega)).trans hp, hph⟩
theorem GS.mono {B B2 r : Nat} {σ : mm_M} {S : Nat → Int32} (h : GS B σ r S) (hB : B ≤ B2) : GS B2 σ r S := by
  obtain ⟨c, f, ph, hW, hR, hp, hph⟩ := h
  exact ⟨c, f, ph, hW.mono hB, hR, hp, hph⟩
theorem GS.copy {B r0 r1 : Nat} {σ σ1 : mm_M} {S : Nat → Int32} (h : GS B σ r1 S) (hC : C0 r0 r1 σ σ1) : GS B σ1 r0 S := by
  obtain ⟨c, f, ph, hW, hR, hp, hph⟩ := h
  exact ⟨c, f, ph, hW, hR.copy hW.c4 hW.f4 hC, hp, hph⟩
def PM (σ : mm_M) (p : Nat → Nat) : Prop := (∀ i, i < 4 → p i < 4 ∧ σ 6 11 0 i = nI (2 + p i)) ∧ ∀ i j, i < 4 → j < 4 → p i = p j → i = j
def HC (B : Nat) (σ : mm_M) (N : Nat) (R : Nat → Nat → Int32) : Prop := N ≤ 4 ∧ σ 6 10 0 1 = nI N ∧ ∃ p, PM σ p ∧ ∀ i, i < N → GS B σ (2 + p i) (R i)
def HM (μ : mm_M) (N : Nat) (R : Nat → Nat → Int32) : Prop := N ≤ 4 ∧ μ 10 30 0 4 = nI N ∧ ∀ i, i < N → ∀ v, v < 207 → μ 10 34 0 (207 * i + v) = R i v
def pN (N : Nat) : Nat := if N = 4 then 4 else N + 1
def pR (N : Nat) (R : Nat → Nat → Int32) (S : Nat → Int32) : Nat → Nat → Int32 := fun i => if N = 4 then (if i < 3 then R (i + 1) else S) else (if i = N then S else R i)
theorem HC.mono {B B2 N : Nat} {σ : mm_M} {R : Nat → Nat → Int32} (h : HC B σ N R) (hB : B ≤ B2) : HC B2 σ N R := by
  obtain ⟨h1, h2, p, h3, h4⟩ := h
  exact ⟨h1, h2, p, h3, fun i hi => (h4 i hi).mono hB⟩
theorem HC.congr {B N : Nat} {σ σ2 : mm_M} {R : Nat → Nat → Int32} (h : HC B σ N R) (e : ∀ q t n i, 2 ≤ q → q < 7 → σ2 q t n i = σ q t n i) : HC B σ2 N R := by
  obtain ⟨h1, h2, p, h3, h4⟩ := h
  refine ⟨h1, (e _ _ _ _ (by omega) (by omega)).trans h2, p, ⟨fun i hi => ⟨(h3.1 i hi).1, (e _ _ _ _ (by omega) (by omega)).trans (h3.1 i hi).2⟩, h3.2⟩, fun i hi => (h4 i hi).congr (fun t n j ht => e _ _ _ _ (by omega) ?_) (fun _ _ => rfl)⟩
  have := (h3.1 i (by omega)).1
  omega
/-- the oldest goes -/
theorem drop_cc {σ : mm_M} {p : Nat → Nat} (hp : PM σ p) : ∃ σ1, fx_X4_dropOldest σ = some (0, σ1) ∧ σ1 6 10 0 1 = nI 3 ∧ PM σ1 (fun i => if i < 3 then p (i + 1) else p 0) ∧ ∀ q t n i, q ≠ 6 → σ1 q t n i = σ q t n i := by
  obtain ⟨p0, e0⟩ := hp.1 0 (by omega)
  obtain ⟨p1, e1⟩ := hp.1 1 (by omega)
  obtain ⟨p2, e2⟩ := hp.1 2 (by omega)
  obtain ⟨p3, e3⟩ := hp.1 3 (by omega)
  have c : ∀ i, i < 4 → (nI (2 + p i)).toNatClampNeg = 2 + p i := fun i hi => nI_cl (by have := (hp.1 i hi).1; omega)
  have s1 : σ 6 11 0 (1 : Int32).toNatClampNeg = nI (2 + p 1) := e1
  refine ⟨mm_u (mm_u (mm_u (mm_u (mm_u σ 6 11 0 0 (nI (2 + p 1))) 6 11 0 1 (nI (2 + p 2))) 6 11 0 2 (nI (2 + p 3))) 6 11 0 3 (nI (2 + p 0))) 6 10 0 1 3, ?_, ?_, ⟨fun i hi => ?_, fun i j hi hj e => ?_⟩, fun q t n i hq => ?_⟩
  · have f0 : σ 6 11 0 (0 : Int32).toNatClampNeg = nI (2 + p 0) := e0
    rw [fx_X4_dropOldest, f0, c 0 (by omega), mm_gd_t (by omega)]
    unfold mm_FU
    have f1 : σ 6 11 0 (1 : Int32).toNatClampNeg = nI (2 + p 1) := e1
    rw [fx_X4_dropOldest_L9, if_neg (show ¬ (4 : Int32) ≤ 1 by decide), mm_gd_t (by decide), f1, c 1 (by omega), mm_gd_t (by omega), mm_gd_t (by decide), mm_lt_e, mm_li_e, show (1 : Int32) + 1 = 2 by decide, show ((1 : Int32) - 1).toNatClampNeg = 0 by decide]
    have f2 : mm_u σ 6 11 0 0 (nI (2 + p 1)) 6 11 0 (2 : Int32).toNatClampNeg = nI (2 + p 2) := by
      show mm_u σ 6 11 0 0 (nI (2 + p 1)) 6 11 0 2 = _
      rw [mm_u_ap, if_neg (by omega)]; exact e2
    rw [fx_X4_dropOldest_L9, if_neg (show ¬ (4 : Int32) ≤ 2 by decide), mm_gd_t (by decide), f2, c 2 (by omega), mm_gd_t (by omega), mm_gd_t (by decide), mm_lt_e, mm_li_e, show (2 : Int32) + 1 = 3 by decide, show ((2 : Int32) - 1).toNatClampNeg = 1 by decide]
    have f3 : mm_u (mm_u σ 6 11 0 0 (nI (2 + p 1))) 6 11 0 1 (nI (2 + p 2)) 6 11 0 (3 : Int32).toNatClampNeg = nI (2 + p 3) := by
      show mm_u (mm_u σ 6 11 0 0 (nI (2 + p 1))) 6 11 0 1 (nI (2 + p 2)) 6 11 0 3 = _
      rw [mm_u_ap, if_neg (by omega), mm_u_ap, if_neg (by omega)]; exact e3
    rw [fx_X4_dropOldest_L9, if_neg (show ¬ (4 : Int32) ≤ 3 by decide), mm_gd_t (by decide), f3, c 3 (by omega), mm_gd_t (by omega), mm_gd_t (by decide), mm_lt_e, mm_li_e, show (3 : Int32) + 1 = 4 by decide, show ((3 : Int32) - 1).toNatClampNeg = 2 by decide]
    rw [fx_X4_dropOldest_L9, if_pos (show (4 : Int32) ≤ 4 by decide), mm_lt_e, mm_lt_e]
    rfl
  · rw [mm_u_ap, if_pos ⟨rfl, rfl, rfl, rfl⟩]
    rfl
  · rcases (show i = 0 ∨ i = 1 ∨ i = 2 ∨ i = 3 by omega) with rfl | rfl | rfl | rfl
    · exact ⟨p1, by simp [mm_u_ap]⟩
    · exact ⟨p2, by simp [mm_u_ap]⟩
    · exact ⟨p3, by simp [mm_u_ap]⟩
    · exact ⟨p0, by simp [mm_u_ap]⟩
  · have k := fun a b ha hb => hp.2 a b ha hb
    by_cases hi3 : i < 3
    · by_cases hj3 : j < 3
      · rw [show (fun i => if i < 3 then p (i + 1) else p 0) i = p (i + 1) from if_pos hi3, show (fun i => if i < 3 then p (i + 1) else p 0) j = p (j + 1) from if_pos hj3] at e
        have := k _ _ (by omega) (by omega) e
        omega
      · rw [show (fun i => if i < 3 then p (i + 1) else p 0) i = p (i + 1) from if_pos hi3, show (fun i => if i < 3 then p (i + 1) else p 0) j = p 0 from if_neg hj3] at e
        have := k _ _ (by omega) (by omega) e
        omega
    · by_cases hj3 : j < 3
      · rw [show (fun i => if i < 3 then p (i + 1) else p 0) i = p 0 from if_neg hi3, show (fun i => if i < 3 then p (i + 1) else p 0) j = p (j + 1) from if_pos hj3] at e
        have := k _ _ (by omega) (by omega) e
        omega
      · omega
  · rw [mm_u_ap, if_neg (by omega), mm_u_ap, if_neg (by omega), mm_u_ap, if_neg (by omega), mm_u_ap, if_neg (by omega), mm_u_ap, if_neg (by omega)]
theorem add_J {B N : Nat} {σ : mm_M} {p : Nat → Nat} {R : Nat → Nat → Int32} {S : Nat → Int32} (hN : N < 4) (h1 : σ 6 10 0 1 = nI N) (hp : PM σ p) (hR : ∀ i, i < N → GS B σ (2 + p i) (R i)) (h0 : GS B σ 0 S) : ∃ σ1, fx_X4_add_J12 0 σ = some (0, σ1) ∧ σ1 6 10 0 1 = nI (N + 1) ∧ PM σ1 p ∧ (∀ i, i < N + 1 → GS B σ1 (2 + p i) (if i = N then S else R i)) ∧ ∀ q t n i, (q < 2 ∨ 6 < q) → σ1 q t n i = σ q t n i := by
  obtain ⟨pN, eN⟩ := hp.1 N hN
  obtain ⟨σ1, e1, c1, f1⟩ := copy0 (r0 := 2 + p N) (r1 := 0) (σ := σ) (by omega)
  have s6 : σ1 6 10 0 1 = nI N := (f1 6 10 0 1 (by omega)).trans h1
  refine ⟨mm_u σ1 6 10 0 1 (nI (N + 1)), ?_, ?_, ⟨fun i hi => ⟨(hp.1 i hi).1, ?_⟩, hp.2⟩, fun i hi => ?_, fun q t n i hq => ?_⟩
  · rw [fx_X4_add_J12, h1, mm_gd_t (mm_ix_n (by omega) (by omega)), nI_cl (by omega), eN, nI_cl (by omega), mm_gd_t (by omega), e1, mm_bd_some, mm_lt_e, s6, nI_1]
  · rw [mm_u_ap, if_pos ⟨rfl, rfl, rfl, rfl⟩]
  · rw [mm_u_ap, if_neg (by omega), f1 6 11 0 i (by omega)]
    exact (hp.1 i hi).2
  · by_cases hiN : i = N
    · subst hiN
      rw [if_pos rfl]
      exact (h0.copy c1).congr (fun t n j ht => by rw [mm_u_ap, if_neg (by omega)]) (fun _ _ => rfl)
    · rw [if_neg hiN]
      have hne : p i ≠ p N := fun z => hiN (hp.2 i N (by omega) hN z)
      have hpi := (hp.1 i (by omega)).1
      exact (hR i (by omega)).congr (fun t n j ht => by rw [mm_u_ap, if_neg (by omega), f1 _ _ _ _ (by omega)]) (fun _ _ => rfl)
  · rw [mm_u_ap, if_neg (by omega), f1 _ _ _ _ (by omega)]
theorem add_cc {B N : Nat} {σ : mm_M} {R : Nat → Nat → Int32} {S : Nat → Int32} (h : HC B σ N R) (h0 : GS B σ 0 S) : ∃ σ1, fx_X4_add 0 σ = some (0, σ1) ∧ HC B σ1 (pN N) (pR N R S) ∧ ∀ q t n i, (q < 2 ∨ 6 < q) → σ1 q t n i = σ q t n i := by
  obtain ⟨h1, h2, p, h3, h4⟩ := h
  rw [fx_X4_add, h2]
  by_cases hN : N = 4
  · subst hN
    obtain ⟨σ1, e1, s1, hp1, f1⟩ := drop_cc h3
    obtain ⟨σ2, e2, s2, hp2, g2, f2⟩ := add_J (R := fun i => R (i + 1)) (S := S) (B := B) (N := 3) (by omega) s1 hp1 (fun i hi => by
      rw [if_pos hi]
      have := (h3.1 (i + 1) (by omega)).1
      exact (h4 (i + 1) (by omega)).congr (fun t n j ht => f1 _ _ _ _ (by omega)) (fun _ _ => rfl)) (h0.congr (fun t n j ht => f1 _ _ _ _ (by omega)) (fun _ _ => rfl))
    rw [if_pos (show nI 4 = (4 : Int32) from rfl), e1, mm_bd_some]
    refine ⟨σ2, e2, ⟨by decide, s2, _, hp2, fun i hi => ?_⟩, fun q t n i hq => (f2 q t n i hq).trans (f1 q t n i (by omega))⟩
    have := g2 i hi
    unfold pR
    rw [if_pos rfl]
    have hi4 : i < 4 := hi
    by_cases hi3 : i = 3
    · rw [if_pos hi3] at this
      rw [if_neg (show ¬ i < 3 by omega)] at this ⊢
      rw [if_neg (show ¬ i < 3 by omega)]
      exact this
    · rw [if_neg hi3] at this
      rw [if_pos (show i < 3 by omega)] at this ⊢
      rw [if_pos (show i < 3 by omega)]
      exact this
  · obtain ⟨σ2, e2, s2, hp2, g2, f2⟩ := add_J (S := S) (by omega) h2 h3 h4 h0
    rw [if_neg (ne_lit (a := N) (b := 4) (x := 4) rfl hN (by omega) (by omega))]
    have en : pN N = N + 1 := if_neg hN
    refine ⟨σ2, e2, ⟨by omega, by rw [en]; exact s2, p, hp2, fun i hi => ?_⟩, f2⟩
    have := g2 i (by omega)
    unfold pR
    rw [if_neg hN]
    split at this
    · next z => rw [if_pos z]; exact this
    · next z => rw [if_neg z]; exact this
theorem keep_ok {B N t : Nat} {σ : mm_M} {R : Nat → Nat → Int32} {S S1 : Nat → Int32} (ht : t < 1000000) (h : HC B σ N R) (h0 : GS B σ 0 S) (h1 : GS B σ 1 S1) : ∃ σ1, fx_X10_keep (nI t) σ = some (nI t, σ1) ∧ HC B σ1 (pN N) (pR N R S) ∧ GS B σ1 0 S1 ∧ ∀ q t n i, 6 < q → σ1 q t n i = σ q t n i := by
  obtain ⟨σ1, e1, hC, f1⟩ := add_cc h h0
  obtain ⟨σ2, e2, c2, f2⟩ := copy0 (r0 := 0) (r1 := 1) (σ := σ1) (by omega)
  refine ⟨σ2, ?_, hC.congr (fun q t n i a b => f2 q t n i (by omega)), (h1.congr (fun t n i ht => f1 _ _ _ _ (by omega)) (fun _ _ => rfl)).copy c2, fun q t n i hq => (f2 q t n i (by omega)).trans (f1 q t n i (by omega))⟩
  rw [fx_X10_keep, fx_X10_isError, if_pos (nI_pos' (by omega)), mm_bd_some, if_pos rfl, e1, mm_bd_some, e2, mm_bd_some]
theorem keep_er {v : Int32} {σ : mm_M} (h : er v) : fx_X10_keep v σ = some (v, σ) := by
  rcases h with rfl | rfl | rfl
  · rw [fx_X10_keep, fx_X10_isError, if_neg (by decide), mm_bd_some, if_neg (by decide)]
  · rw [fx_X10_keep, fx_X10_isError, if_neg (by decide), mm_bd_some, if_neg (by decide)]
  · rw [fx_X10_keep, fx_X10_isError, if_neg (by decide), mm_bd_some, if_neg (by decide)]
/-! the model's -/
theorem beg_L {S : Nat → Int32} : ∀ (e k fu : Nat) (μ : mm_M), k + e = 207 → e < fu → (∀ i, i < k → μ 10 32 0 i = S i) → ∃ μ1, fx_X11_begins_L2 fu (nI k) (mw μ S) = some (0, mw μ1 S) ∧ (∀ i, i < 207 → μ1 10 32 0 i = S i) ∧ ∀ q t n i, ¬ (q = 10 ∧ t = 32) → μ1 q t n i = μ q t n i := by
  intro e
  induction e with
  | zero =>
    intro k fu μ hk hf h
    obtain ⟨g, rfl⟩ : ∃ g, fu = g + 1 := ⟨fu - 1, by omega⟩
    have : k = 207 := by omega
    subst this
    rw [fx_X11_begins_L2, if_pos (show (207 : Int32) ≤ nI 207 by decide)]
    exact ⟨μ, rfl, h, fun _ _ _ _ _ => rfl⟩
  | succ e ih =>
    intro k fu μ hk hf h
    obtain ⟨g, rfl⟩ : ∃ g, fu = g + 1 := ⟨fu - 1, by omega⟩
    rw [fx_X11_begins_L2, if_neg (show ¬ (207 : Int32) ≤ nI k from nle_lit (x := 207) (b := 207) rfl (by omega) (by omega)), mm_gd_t (mm_ix_n (by omega) (by omega)), mm_gd_t (mm_ix_n (by omega) (by omega)), mm_lt_e, mm_li_e, nI_cl (by omega), nI_1, mw_row, mw_s μ S _ (by omega)]
    obtain ⟨μ1, e1, h1, f1⟩ := ih (k + 1) g (mm_u μ 10 32 0 k (S k)) (by omega) (by omega) (fun i hi => by
      by_cases hik : i = k
      · subst hik; rw [mm_u_ap, if_pos ⟨rfl, rfl, rfl, rfl⟩]
      · rw [mm_u_ap, if_neg (by omega)]; exact h i (by omega))
    exact ⟨μ1, e1, h1, fun q t n i hh => (f1 q t n i hh).trans (by rw [mm_u_ap, if_neg (by omega)])⟩
theorem mo_begins (μ : mm_M) (S : Nat → Int32) : ∃ μ1, fx_X11_begins (mw μ S) = some (0, mw μ1 S) ∧ (∀ i, i < 207 → μ1 10 32 0 i = S i) ∧ ∀ q t n i, ¬ (q = 10 ∧ t = 32) → μ1 q t n i = μ q t n i := by
  rw [fx_X11_begins]
  exact beg_L 207 0 mm_FU μ (by omega) (by unfold mm_FU; omega) (fun i hi => absurd hi (by omega))
theorem ret_L {μ : mm_M} : ∀ (e k fu : Nat) (T : Nat → Int32), k + e = 207 → e < fu → (∀ i, i < k → T i = μ 10 32 0 i) → ∃ T1, fx_X11_returns_L2 fu (nI k) (mw μ T) = some (0, mw μ T1) ∧ ∀ i, i < 207 → T1 i = μ 10 32 0 i := by
  intro e
  induction e with
  | zero =>
    intro k fu T hk hf h
    obtain ⟨g, rfl⟩ : ∃ g, fu = g + 1 := ⟨fu - 1, by omega⟩
    have : k = 207 := by omega
    subst this
    rw [fx_X11_returns_L2, if_pos (show (207 : Int32) ≤ nI 207 by decide)]
    exact ⟨T, rfl, h⟩
  | succ e ih =>
    intro k fu T hk hf h
    obtain ⟨g, rfl⟩ : ∃ g, fu = g + 1 := ⟨fu - 1, by omega⟩
    rw [fx_X11_returns_L2, if_neg (show ¬ (207 : Int32) ≤ nI k from nle_lit (x := 207) (b := 207) rfl (by omega) (by omega)), mm_gd_t (mm_ix_n (by omega) (by omega)), mm_gd_t (mm_ix_n (by omega) (by omega)), mm_lt_e, mm_li_e, nI_cl (by omega), nI_1, mw_u, mw_oth μ T (by omega)]
    refine ih (k + 1) g _ (by omega) (by omega) (fun i hi => ?_)
    by_cases hik : i = k
    · subst hik; rw [pk_us]
    · rw [pk_un hik]; exact h i (by omega)
theorem mo_returns (μ : mm_M) (T : Nat → Int32) : ∃ T1, fx_X11_returns (mw μ T) = some (0, mw μ T1) ∧ ∀ i, i < 207 → T1 i = μ 10 32 0 i := by
  rw [fx_X11_returns]
  exact ret_L 207 0 mm_FU T (by omega) (by unfold mm_FU; omega) (fun i hi => absurd hi (by omega))
theorem push_L {N : Nat} {v : Int32} {S : Nat → Int32} (hN : N < 4) : ∀ (e k fu : Nat) (μ : mm_M), k + e = 207 → e < fu → μ 10 30 0 4 = nI N → (∀ i, i < k → μ 10 34 0 (207 * N + i) = μ 10 32 0 i) → ∃ μ1, fx_X11_acted_L63 v fu (nI k) (mw μ S) = some (v, mw μ1 S) ∧ μ1 10 30 0 4 = nI (N + 1) ∧ (∀ i, i < 207 → μ1 10 34 0 (207 * N + i) = μ 10 32 0 i) ∧ (∀ i, i < 207 * N → μ1 10 34 0 i = μ 10 34 0 i) ∧ ∀ q t n i, ¬ (q = 10 ∧ (t = 34 ∨ (t = 30 ∧ i = 4))) → μ1 q t n i = μ q t n i := by
  intro e
  induction e with
  | zero =>
    intro k fu μ hk hf h4 h
    obtain ⟨g, rfl⟩ : ∃ g, fu = g + 1 := ⟨fu - 1, by omega⟩
    have : k = 207 := by omega
    subst this
    rw [fx_X11_acted_L63, if_pos (show (207 : Int32) ≤ nI 207 by decide), mm_lt_e, mw_oth μ S (by omega), h4, nI_1, mw_s μ S _ (by omega)]
    refine ⟨_, rfl, ?_, fun i hi => ?_, fun i hi => ?_, fun q t n i hh => ?_⟩
    · rw [mm_u_ap, if_pos ⟨rfl, rfl, rfl, rfl⟩]
    · rw [mm_u_ap, if_neg (by omega)]; exact h i hi
    · rw [mm_u_ap, if_neg (by omega)]
    · rw [mm_u_ap, if_neg (by omega)]
  | succ e ih =>
    intro k fu μ hk hf h4 h
    obtain ⟨g, rfl⟩ : ∃ g, fu = g + 1 := ⟨fu - 1, by omega⟩
    have ei : ((207 : Int32) * nI N) + nI k = nI (207 * N + k) := by
      show nI 207 * nI N + nI k = _
      rw [pk_mul, nI_add]
    rw [fx_X11_acted_L63, if_neg (show ¬ (207 : Int32) ≤ nI k from nle_lit (x := 207) (b := 207) rfl (by omega) (by omega)), mm_gd_t (mm_ix_n (by omega) (by omega)), mw_oth μ S (by omega), h4, ei, mm_gd_t (mm_ix_n (by omega) (by omega)), mm_lt_e, mm_li_e, nI_cl (k := k) (by omega), nI_cl (by omega), nI_1, mw_oth μ S (by omega), mw_s μ S _ (by omega)]
    obtain ⟨μ1, e1, a1, a2, a3, a4⟩ := ih (k + 1) g (mm_u μ 10 34 0 (207 * N + k) (μ 10 32 0 k)) (by omega) (by omega) (by rw [mm_u_ap, if_neg (by omega)]; exact h4) (fun i hi => by
      by_cases hik : i = k
      · subst hik
        rw [mm_u_ap, if_pos ⟨rfl, rfl, rfl, rfl⟩, mm_u_ap, if_neg (by omega)]
      · rw [mm_u_ap, if_neg (by omega), mm_u_ap, if_neg (by omega)]
        exact h i (by omega))
    refine ⟨μ1, e1, a1, fun i hi => (a2 i hi).trans ?_, fun i hi => (a3 i hi).trans ?_, fun q t n i hh => (a4 q t n i hh).trans ?_⟩
    · rw [mm_u_ap, if_neg (by omega)]
    · rw [mm_u_ap, if_neg (by omega)]
    · rw [mm_u_ap, if_neg (by omega)]
theorem shift_L {v : Int32} {S : Nat → Int32} (old : Nat → Int32) : ∀ (e k fu : Nat) (μ : mm_M), k + e = 621 → e < fu → μ 10 30 0 4 = nI 4 → (∀ i, i < k → μ 10 34 0 i = old (i + 207)) → (∀ i, k ≤ i → μ 10 34 0 i = old i) → ∃ μ1, fx_X11_acted_L22 v fu (nI k) (mw μ S) = fx_X11_acted_L63 v mm_FU 0 (mw μ1 S) ∧ μ1 10 30 0 4 = nI 3 ∧ (∀ i, i < 621 → μ1 10 34 0 i = old (i + 207)) ∧ ∀ q t n i, ¬ (q = 10 ∧ (t = 34 ∨ (t = 30 ∧ i = 4))) → μ1 q t n i = μ q t n i := by
  intro e
  induction e with
  | zero =>
    intro k fu μ hk hf h4 h h2
    obtain ⟨g, rfl⟩ : ∃ g, fu = g + 1 := ⟨fu - 1, by omega⟩
    have : k = 621 := by omega
    subst this
    rw [fx_X11_acted_L22, if_pos (show (621 : Int32) ≤ nI 621 by decide), mm_lt_e, mw_oth μ S (by omega), h4, show nI 4 - (1 : Int32) = nI 3 by decide, mw_s μ S _ (by omega)]
    refine ⟨_, rfl, ?_, fun i hi => ?_, fun q t n i hh => ?_⟩
    · rw [mm_u_ap, if_pos ⟨rfl, rfl, rfl, rfl⟩]
    · rw [mm_u_ap, if_neg (by omega)]; exact h i hi
    · rw [mm_u_ap, if_neg (by omega)]
  | succ e ih =>
    intro k fu μ hk hf h4 h h2
    obtain ⟨g, rfl⟩ : ∃ g, fu = g + 1 := ⟨fu - 1, by omega⟩
    have ei : nI k + (207 : Int32) = nI (k + 207) := by
      show nI k + nI 207 = _
      rw [nI_add]
    rw [fx_X11_acted_L22, if_neg (show ¬ (621 : Int32) ≤ nI k from nle_lit (x := 621) (b := 621) rfl (by omega) (by omega)), ei, mm_gd_t (mm_ix_n (by omega) (by omega)), mm_gd_t (mm_ix_n (by omega) (by omega)), mm_lt_e, mm_li_e, nI_cl (k := k) (by omega), nI_cl (by omega), nI_1, mw_oth μ S (by omega), mw_s μ S _ (by omega)]
    obtain ⟨μ1, e1, a1, a2, a4⟩ := ih (k + 1) g (mm_u μ 10 34 0 k (μ 10 34 0 (k + 207))) (by omega) (by omega) (by rw [mm_u_ap, if_neg (by omega)]; exact h4) (fun i hi => by
      by_cases hik : i = k
      · subst hik
        rw [mm_u_ap, if_pos ⟨rfl, rfl, rfl, rfl⟩]
        exact h2 _ (by omega)
      · rw [mm_u_ap, if_neg (by omega)]
        exact h i (by omega)) (fun i hi => by
      rw [mm_u_ap, if_neg (by omega)]
      exact h2 i (by omega))
    refine ⟨μ1, e1, a1, a2, fun q t n i hh => (a4 q t n i hh).trans ?_⟩
    rw [mm_u_ap, if_neg (by omega)]
theorem acted_ok {N t : Nat} {μ : mm_M} {R : Nat → Nat → Int32} {S S1 : Nat → Int32} (ht : t < 1000000) (h : HM μ N R) (hb : ∀ i, i < 207 → μ 10 32 0 i = S i) : ∃ μ1, fx_X11_acted (nI t) (mw μ S1) = some (nI t, mw μ1 S1) ∧ HM μ1 (pN N) (pR N R S) ∧ ∀ q t n i, ¬ (q = 10 ∧ (t = 34 ∨ (t = 30 ∧ i = 4))) → μ1 q t n i = μ q t n i := by
  obtain ⟨h1, h2, h3⟩ := h
  have hv : (-1000001 : Int32) < nI t := by
    rw [Int32.lt_iff_toInt_lt, nI_toInt (by omega)]
    have : (-1000001 : Int32).toInt = -1000001 := by decide
    omega
  rw [fx_X11_acted, if_pos hv, mw_oth μ S1 (by omega), h2]
  by_cases hN : N = 4
  · subst hN
    obtain ⟨μ1, e1, a1, a2, a3⟩ := shift_L (v := nI t) (S := S1) (μ 10 34 0) 621 0 mm_FU μ (by omega) (by unfold mm_FU; omega) h2 (fun i hi => absurd hi (by omega)) (fun i hi => rfl)
    obtain ⟨μ2, e2, b1, b2, b3, b4⟩ := push_L (v := nI t) (S := S1) (N := 3) (by omega) 207 0 mm_FU μ1 (by omega) (by unfold mm_FU; omega) a1 (fun i hi => absurd hi (by omega))
    rw [if_pos (show nI 4 = (4 : Int32) from rfl), show fx_X11_acted_L22 (nI t) mm_FU 0 (mw μ S1) = _ from e1, show fx_X11_acted_L63 (nI t) mm_FU 0 (mw μ1 S1) = _ from e2]
    refine ⟨μ2, rfl, ⟨by decide, b1, fun i hi v hv => ?_⟩, fun q t n i hh => (b4 q t n i hh).trans (a3 q t n i hh)⟩
    have hi4 : i < 4 := hi
    unfold pR
    rw [if_pos rfl]
    by_cases hi3 : i < 3
    · rw [if_pos hi3, b3 _ (by omega), a2 _ (by omega)]
      have e : 207 * i + v + 207 = 207 * (i + 1) + v := by omega
      rw [e]
      exact h3 (i + 1) (by omega) v hv
    · have : i = 3 := by omega
      subst this
      rw [if_neg (by omega), b2 v hv, a3 _ _ _ _ (by omega)]
      exact hb v hv
  · obtain ⟨μ2, e2, b1, b2, b3, b4⟩ := push_L (v := nI t) (S := S1) (N := N) (by omega) 207 0 mm_FU μ (by omega) (by unfold mm_FU; omega) h2 (fun i hi => absurd hi (by omega))
    rw [if_neg (ne_lit (a := N) (b := 4) (x := 4) rfl hN (by omega) (by omega)), show fx_X11_acted_L63 (nI t) mm_FU 0 (mw μ S1) = _ from e2]
    have en : pN N = N + 1 := if_neg hN
    refine ⟨μ2, rfl, ⟨by omega, by rw [en]; exact b1, fun i hi v hv => ?_⟩, b4⟩
    unfold pR
    rw [if_neg hN]
    by_cases hiN : i = N
    · subst hiN
      rw [if_pos rfl, b2 v hv]
      exact hb v hv
    · rw [if_neg hiN, b3 _ (by omega)]
      exact h3 i (by omega) v hv
theorem acted_er {v : Int32} {μ : mm_M} {T S : Nat → Int32} (h : er v) (hb : ∀ i, i < 207 → μ 10 32 0 i = S i) : ∃ T1, fx_X11_acted v (mw μ T) = some (v, mw μ T1) ∧ ∀ i, i < 207 → T1 i = S i := by
  obtain ⟨T1, e1, h1⟩ := mo_returns μ T
  refine ⟨T1, ?_, fun i hi => (h1 i hi).trans (hb i hi)⟩
  rcases h with rfl | rfl | rfl
  · rw [fx_X11_acted, if_neg (by decide), e1, mm_bd_some]
  · rw [fx_X11_acted, if_neg (by decide), e1, mm_bd_some]
  · rw [fx_X11_acted, if_neg (by decide), e1, mm_bd_some]
