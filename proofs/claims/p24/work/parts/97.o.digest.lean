/-! the digest is a matter of the state's numbers alone -/
theorem mm_bdL_some (r : Int32) (s : mm_M) (k : Int32 → mm_M → mm_RL) : mm_bdL (some (r, s)) k = k r s := rfl
theorem mm_bdJ_some (r : Int64) (s : mm_M) (k : Int64 → mm_M → mm_R) : mm_bdJ (some (r, s)) k = k r s := rfl
theorem mm_liL_e (v : Int32) (k : Int32 → mm_RL) : mm_liL v k = k v := rfl
def itD (f : Nat → Int32) : Nat → Nat → Int64 → Int64
  | 0, _, h => h
  | e + 1, k, h => itD f e (k + 1) ((31 : Int64) * h + (f k).toInt64)
def fD1 (S : Nat → Int32) (k : Nat) : Int32 := if k = 7 ∨ k = 8 then 0 else vCount S 0 0 k
def fD2 (S : Nat → Int32) (k : Nat) : Int32 := vCell S (k / 4) (k % 4)
def fD3 (S : Nat → Int32) (k : Nat) : Int32 := vCartOf S (k / 9) (k % 9)
def fD4 (S : Nat → Int32) (k : Nat) : Int32 := vCardOf S (k / 10) (k / 2 % 5) (k % 2)
def DG (S : Nat → Int32) : Int64 := itD (fD4 S) (cN S * 10) 0 (itD (fD3 S) (cN S * 9) 0 (itD (fD2 S) 256 0 (itD (fD1 S) 10 0 101)))
section DD
variable {k N L : Nat} {σ : mm_M} {R : Nat → Nat → Int32} {S : Nat → Int32} {ch : Nat → Nat}
theorem d_c (hK : KS k σ N R S L ch) : fx_X10_count (0 : Int32) σ = some (nI (cN S), σ) ∧ cN S ≤ 4 := by
  obtain ⟨c, f, ph, hW, _⟩ := id hK.2.1
  refine ⟨(q_count (j := 0) hK (by omega)).trans ?_, by rw [cN_eq hW]; exact hW.c4⟩
  rw [show vCount S N L 0 = S 0 from rfl, cN_eq hW, hW.s0]
theorem d_4 (hK : KS k σ N R S L ch) : ∀ (e i fu : Nat) (h : Int64), i + e = cN S * 10 → e < fu → fx_L_digest_L122 fu h (nI i) σ = some (itD (fD4 S) e i h, σ) := by
  obtain ⟨c0, hc4⟩ := d_c hK
  have em : nI (cN S) * (10 : Int32) = nI (cN S * 10) := by show nI (cN S) * nI 10 = _; rw [pk_mul]
  intro e
  induction e with
  | zero =>
    intro i fu h hk hf
    obtain ⟨g, rfl⟩ : ∃ g, fu = g + 1 := ⟨fu - 1, by omega⟩
    rw [fx_L_digest_L122, c0, mm_bdL_some, em, if_pos (le_lit rfl (by omega) (by omega) : nI (cN S * 10) ≤ nI i)]
    rfl
  | succ e ih =>
    intro i fu h hk hf
    obtain ⟨g, rfl⟩ : ∃ g, fu = g + 1 := ⟨fu - 1, by omega⟩
    have e1 : nI i / (10 : Int32) = nI (i / 10) := pk_div (a := i) (d := 10) (by omega) (by omega) (by omega)
    have e2 : nI i / (2 : Int32) = nI (i / 2) := pk_div (a := i) (d := 2) (by omega) (by omega) (by omega)
    have e3 : nI (i / 2) - nI (i / 2) / (5 : Int32) * (5 : Int32) = nI (i / 2 % 5) := pk_rem (a := i / 2) (d := 5) (by omega) (by omega) (by omega)
    have e4 : nI i - nI (i / 2) * (2 : Int32) = nI (i % 2) := by
      rw [← e2]
      exact pk_rem (a := i) (d := 2) (by omega) (by omega) (by omega)
    rw [fx_L_digest_L122, c0, mm_bdL_some, em, if_neg (nle_lit rfl (by omega) (by omega) : ¬ nI (cN S * 10) ≤ nI i), e1, e2, e3, e4, q_card hK.2.1 (show i / 10 < cN S by omega) (show i / 2 % 5 < 5 by omega) (show i % 2 < 2 by omega), mm_bdL_some, mm_liL_e, nI_1]
    exact ih (i + 1) g _ (by omega) (by omega)
theorem d_3 (hK : KS k σ N R S L ch) : ∀ (e i fu : Nat) (h : Int64), i + e = cN S * 9 → e < fu → fx_L_digest_L82 fu h (nI i) σ = some (itD (fD4 S) (cN S * 10) 0 (itD (fD3 S) e i h), σ) := by
  obtain ⟨c0, hc4⟩ := d_c hK
  have em : nI (cN S) * (9 : Int32) = nI (cN S * 9) := by show nI (cN S) * nI 9 = _; rw [pk_mul]
  intro e
  induction e with
  | zero =>
    intro i fu h hk hf
    obtain ⟨g, rfl⟩ : ∃ g, fu = g + 1 := ⟨fu - 1, by omega⟩
    rw [fx_L_digest_L82, c0, mm_bdL_some, em, if_pos (le_lit rfl (by omega) (by omega) : nI (cN S * 9) ≤ nI i)]
    exact d_4 hK (cN S * 10) 0 mm_FU h (by omega) (by unfold mm_FU; omega)
  | succ e ih =>
    intro i fu h hk hf
    obtain ⟨g, rfl⟩ : ∃ g, fu = g + 1 := ⟨fu - 1, by omega⟩
    have e1 : nI i / (9 : Int32) = nI (i / 9) := pk_div (a := i) (d := 9) (by omega) (by omega) (by omega)
    have e4 : nI i - nI (i / 9) * (9 : Int32) = nI (i % 9) := by
      rw [← e1]
      exact pk_rem (a := i) (d := 9) (by omega) (by omega) (by omega)
    rw [fx_L_digest_L82, c0, mm_bdL_some, em, if_neg (nle_lit rfl (by omega) (by omega) : ¬ nI (cN S * 9) ≤ nI i), e1, e4, q_cart hK.2.1 (show i / 9 < cN S by omega) (show i % 9 < 9 by omega), mm_bdL_some, mm_liL_e, nI_1]
    exact ih (i + 1) g _ (by omega) (by omega)
theorem d_2 (hK : KS k σ N R S L ch) : ∀ (e i fu : Nat) (h : Int64), i + e = 256 → e < fu → fx_L_digest_L49 fu h (nI i) σ = some (itD (fD4 S) (cN S * 10) 0 (itD (fD3 S) (cN S * 9) 0 (itD (fD2 S) e i h)), σ) := by
  obtain ⟨c0, hc4⟩ := d_c hK
  intro e
  induction e with
  | zero =>
    intro i fu h hk hf
    obtain ⟨g, rfl⟩ : ∃ g, fu = g + 1 := ⟨fu - 1, by omega⟩
    rw [fx_L_digest_L49, if_pos (show (256 : Int32) ≤ nI i from le_litR (a := 256) rfl (by omega) (by omega))]
    exact d_3 hK (cN S * 9) 0 mm_FU h (by omega) (by unfold mm_FU; omega)
  | succ e ih =>
    intro i fu h hk hf
    obtain ⟨g, rfl⟩ : ∃ g, fu = g + 1 := ⟨fu - 1, by omega⟩
    have e1 : nI i / (4 : Int32) = nI (i / 4) := pk_div (a := i) (d := 4) (by omega) (by omega) (by omega)
    have e4 : nI i - nI (i / 4) * (4 : Int32) = nI (i % 4) := by
      rw [← e1]
      exact pk_rem (a := i) (d := 4) (by omega) (by omega) (by omega)
    rw [fx_L_digest_L49, if_neg (show ¬ (256 : Int32) ≤ nI i from nle_lit (x := 256) (b := 256) rfl (by omega) (by omega)), e1, e4, q_cell hK.2.1 (show i / 4 < 64 by omega) (show i % 4 < 4 by omega), mm_bdL_some, mm_liL_e, nI_1]
    exact ih (i + 1) g _ (by omega) (by omega)
theorem d_1 (hK : KS k σ N R S L ch) : ∀ (e i fu : Nat) (h : Int64), i + e = 10 → e < fu → fx_L_digest_L6 fu h (nI i) σ = some (itD (fD4 S) (cN S * 10) 0 (itD (fD3 S) (cN S * 9) 0 (itD (fD2 S) 256 0 (itD (fD1 S) e i h))), σ) := by
  intro e
  induction e with
  | zero =>
    intro i fu h hk hf
    obtain ⟨g, rfl⟩ : ∃ g, fu = g + 1 := ⟨fu - 1, by omega⟩
    rw [fx_L_digest_L6, if_pos (show (10 : Int32) ≤ nI i from le_litR (a := 10) rfl (by omega) (by omega))]
    exact d_2 hK 256 0 mm_FU h (by omega) (by unfold mm_FU; omega)
  | succ e ih =>
    intro i fu h hk hf
    obtain ⟨g, rfl⟩ : ∃ g, fu = g + 1 := ⟨fu - 1, by omega⟩
    have J : ∀ w : Int32, w = fD1 S i → fx_L_digest_J38 (fun z0 z1 z => fx_L_digest_L6 g z0 z1 z) (nI i) ((31 : Int64) * h) w σ = some (itD (fD4 S) (cN S * 10) 0 (itD (fD3 S) (cN S * 9) 0 (itD (fD2 S) 256 0 (itD (fD1 S) (e + 1) i h))), σ) := by
      intro w hw
      rw [fx_L_digest_J38, mm_liL_e, nI_1, hw]
      exact ih (i + 1) g _ (by omega) (by omega)
    rw [fx_L_digest_L6, if_neg (show ¬ (10 : Int32) ≤ nI i from nle_lit (x := 10) (b := 10) rfl (by omega) (by omega))]
    by_cases h7 : i = 7
    · rw [if_pos (show nI i = 7 by rw [h7]; rfl)]
      exact J 0 (by unfold fD1; rw [if_pos (Or.inl h7)])
    · rw [if_neg (show ¬ nI i = (7 : Int32) from ne_lit (b := 7) rfl h7 (by omega) (by omega))]
      by_cases h8 : i = 8
      · rw [if_pos (show nI i = 8 by rw [h8]; rfl)]
        exact J 0 (by unfold fD1; rw [if_pos (Or.inr h8)])
      · rw [if_neg (show ¬ nI i = (8 : Int32) from ne_lit (b := 8) rfl h8 (by omega) (by omega)), q_count hK (show i < 10 by omega), mm_bdL_some]
        refine J _ ?_
        unfold fD1
        rw [if_neg (show ¬ (i = 7 ∨ i = 8) by omega)]
        unfold vCount
        simp only [if_neg h7, if_neg h8]
theorem p_digest (hK : KS k σ N R S L ch) : fx_L_digest σ = some (DG S, σ) := by
  rw [fx_L_digest]
  exact d_1 hK 10 0 mm_FU 101 (by omega) (by unfold mm_FU; omega)
end DD
