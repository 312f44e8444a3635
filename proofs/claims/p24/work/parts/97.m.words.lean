/-! the law's small words, and what it types and reads -/
theorem p_low (x : Int32) {n : Nat} (hn : 0 < n) (hn2 : n < 1000000) (σ : mm_M) : ∃ r, r < n ∧ fx_L_low x (nI n) σ = some (nI r, σ) := by
  obtain ⟨j, hj, e⟩ := pk_andE x (m := 2147483647) 31 (by decide)
  refine ⟨j % n, Nat.mod_lt _ hn, ?_⟩
  have hz : ¬ nI n = 0 := ne_lit (b := 0) rfl (by omega) (by omega) (by omega)
  rw [fx_L_low, mm_gd_t hz, e, pk_rem hj hn (by omega)]
section TT
variable {k N : Nat} {R : Nat → Nat → Int32} {S : Nat → Int32}
theorem p_type {L x : Nat} {σ : mm_M} {ch : Nat → Nat} (hK : KS k σ N R S L ch) (hL : L < 60) (h1 : 32 ≤ x) (h2 : x < 127) : ∃ v σ1 ch1, fx_X10_type (nI x) σ = some (v, σ1) ∧ ¬ v ≤ 0 ∧ KS k σ1 N R S (L + 1) ch1 := by
  obtain ⟨σ1, ch1, e, h⟩ := A_type hK hL h1 h2
  exact ⟨_, σ1, ch1, e, nle_lit (a := 0) (b := L + 1) rfl (by omega) (by omega), h⟩
theorem p_dig0 {L v : Nat} {σ : mm_M} {ch : Nat → Nat} (hK : KS k σ N R S L ch) (hL : L < 60) (hv : v < 1000) : ∃ σ1 ch1, fx_L_digits_J48 (nI v) 1 σ = some (1, σ1) ∧ KS k σ1 N R S (L + 1) ch1 := by
  have e : (48 : Int32) + (nI v - nI v / (10 : Int32) * (10 : Int32)) = nI (48 + v % 10) := by
    show nI 48 + (nI v - nI v / nI 10 * nI 10) = _
    rw [pk_rem (by omega) (by omega) (by omega), nI_add]
  obtain ⟨w, σ1, ch1, e1, hw, h⟩ := p_type hK hL (show 32 ≤ 48 + v % 10 by omega) (by omega)
  refine ⟨σ1, ch1, ?_, h⟩
  rw [fx_L_digits_J48, if_neg (show ¬ (1 : Int32) = 0 by decide), e, e1, mm_bd_some, if_neg hw]
theorem p_dig1 {L v : Nat} {σ : mm_M} {ch : Nat → Nat} (hK : KS k σ N R S L ch) (hv : v < 1000) (hL : L + (if v < 10 then 1 else 2) ≤ 60) : ∃ σ1 L1 ch1, fx_L_digits_J20 (nI v) σ = some (1, σ1) ∧ KS k σ1 N R S L1 ch1 ∧ L1 = L + (if v < 10 then 1 else 2) := by
  rw [fx_L_digits_J20]
  by_cases h : v < 10
  · rw [if_pos h] at hL ⊢
    obtain ⟨σ1, ch1, e, hK1⟩ := p_dig0 hK (by omega) hv
    rw [if_pos (show nI v < (10 : Int32) from lt_lit (b := 10) rfl h (by omega))]
    exact ⟨σ1, _, ch1, e, hK1, rfl⟩
  · rw [if_neg h] at hL ⊢
    have e : (48 : Int32) + ((nI v / (10 : Int32)) - (nI v / (10 : Int32)) / (10 : Int32) * (10 : Int32)) = nI (48 + v / 10 % 10) := by
      show nI 48 + (nI v / nI 10 - nI v / nI 10 / nI 10 * nI 10) = _
      rw [pk_div (by omega) (by omega) (by omega), pk_rem (by omega) (by omega) (by omega), nI_add]
    obtain ⟨w, σ1, ch1, e1, hw, h1⟩ := p_type hK (by omega) (show 32 ≤ 48 + v / 10 % 10 by omega) (by omega)
    obtain ⟨σ2, ch2, e2, hK2⟩ := p_dig0 h1 (by omega) hv
    rw [if_neg (show ¬ nI v < (10 : Int32) from nlt_lit (x := 10) (b := 10) rfl (by omega) (by omega)), e, e1, mm_bd_some, if_neg hw]
    exact ⟨σ2, _, ch2, e2, hK2, rfl⟩
theorem p_dig {L v : Nat} {σ : mm_M} {ch : Nat → Nat} (hK : KS k σ N R S L ch) (hv : v < 1000) (hL : L + (if v < 10 then 1 else if v < 100 then 2 else 3) ≤ 60) : ∃ σ1 L1 ch1, fx_L_digits (nI v) σ = some (1, σ1) ∧ KS k σ1 N R S L1 ch1 ∧ L1 = L + (if v < 10 then 1 else if v < 100 then 2 else 3) := by
  rw [fx_L_digits]
  by_cases h : v < 100
  · rw [if_pos (show nI v < (100 : Int32) from lt_lit (b := 100) rfl h (by omega))]
    have e : (if v < 10 then 1 else if v < 100 then 2 else 3) = (if v < 10 then 1 else 2) := by rw [if_pos h]
    rw [e] at hL ⊢
    exact p_dig1 hK hv hL
  · have e : (48 : Int32) + (nI v / (100 : Int32)) = nI (48 + v / 100) := by
      show nI 48 + nI v / nI 100 = _
      rw [pk_div (by omega) (by omega) (by omega), nI_add]
    have e3 : (if v < 10 then 1 else if v < 100 then 2 else 3) = 3 := by rw [if_neg (by omega), if_neg h]
    rw [e3] at hL ⊢
    obtain ⟨w, σ1, ch1, e1, hw, h1⟩ := p_type hK (by omega) (show 32 ≤ 48 + v / 100 by omega) (by omega)
    obtain ⟨σ2, L2, ch2, e2, hK2, eL⟩ := p_dig1 h1 hv (by rw [if_neg (by omega)]; omega)
    rw [if_neg (show ¬ nI v < (100 : Int32) from nlt_lit (x := 100) (b := 100) rfl (by omega) (by omega)), e, e1, mm_bd_some, if_neg hw]
    refine ⟨σ2, L2, ch2, e2, hK2, ?_⟩
    rw [eL, if_neg (by omega)]
/-- one number of an order, and what stands ahead of it -/
theorem p_num {x1 : Int32} {k22 : Int32 → Int32 → Int32 → mm_M → mm_R} {k148 : Int32 → Int32 → Int32 → Int32 → Int32 → Int32 → Int32 → mm_M → mm_R} {v2 v4 v5 v6 v7 : Int32} {L i mx : Nat} {σ : mm_M} {ch : Nat → Nat} (hK : KS k σ N R S L ch) (hi : i < 4) (hmx : 0 < mx) (hmx2 : mx ≤ 900) (hL : L + (if i = 0 then 0 else 1) + (if mx ≤ 10 then 1 else if mx ≤ 100 then 2 else 3) ≤ 60) : ∃ σ1 L1 ch1, fx_L_types_J219 x1 k22 k148 v2 1 v4 v5 v6 v7 (nI i) (nI mx) σ = k148 v2 1 v4 v5 v6 v7 (nI (i + 1)) σ1 ∧ KS k σ1 N R S L1 ch1 ∧ L1 ≤ L + (if i = 0 then 0 else 1) + (if mx ≤ 10 then 1 else if mx ≤ 100 then 2 else 3) := by
  have J : ∀ (L0 : Nat) (σ0 : mm_M) (ch0 : Nat → Nat), KS k σ0 N R S L0 ch0 → L0 + (if mx ≤ 10 then 1 else if mx ≤ 100 then 2 else 3) ≤ 60 → ∃ σ1 L1 ch1, fx_L_types_J239 x1 k22 k148 v2 v4 v5 v6 v7 (nI i) (nI mx) σ0 = k148 v2 1 v4 v5 v6 v7 (nI (i + 1)) σ1 ∧ KS k σ1 N R S L1 ch1 ∧ L1 ≤ L0 + (if mx ≤ 10 then 1 else if mx ≤ 100 then 2 else 3) := by
    intro L0 σ0 ch0 h0 hL0
    obtain ⟨r, hr, er⟩ := p_low (v5 >>> (((1 : Int32) + ((3 : Int32) * nI i)) &&& 31)) hmx (by omega) σ0
    have hc : (if r < 10 then 1 else if r < 100 then 2 else 3) ≤ (if mx ≤ 10 then 1 else if mx ≤ 100 then 2 else 3) := by
      by_cases a : mx ≤ 10
      · rw [if_pos a, if_pos (by omega)]; omega
      · rw [if_neg a]
        by_cases b : mx ≤ 100
        · rw [if_pos b]; split <;> (try split) <;> omega
        · rw [if_neg b]; split <;> (try split) <;> omega
    obtain ⟨σ1, L1, ch1, e1, hK1, eL⟩ := p_dig (v := r) h0 (by omega) (by omega)
    refine ⟨σ1, L1, ch1, ?_, hK1, by omega⟩
    rw [fx_L_types_J239, er, mm_bd_some, e1, mm_bd_some, if_neg (show ¬ (1 : Int32) = 0 by decide), fx_L_types_J265, mm_li_e, nI_1]
  rw [fx_L_types_J219, if_neg (show ¬ (1 : Int32) = 0 by decide)]
  by_cases h0 : i = 0
  · subst h0
    rw [if_pos (show nI 0 = (0 : Int32) from rfl)]
    rw [if_pos rfl] at hL ⊢
    exact J L σ ch hK (by omega)
  · rw [if_neg h0] at hL ⊢
    have hz : ¬ nI i = (0 : Int32) := ne_lit (b := 0) rfl h0 (by omega) (by omega)
    have hpos : 1 ≤ (if mx ≤ 10 then 1 else if mx ≤ 100 then 2 else 3) := by
      split
      · omega
      · split <;> omega
    obtain ⟨w, σ1, ch1, e1, hw, h1⟩ := p_type hK (by omega) (show 32 ≤ 44 by omega) (by omega)
    obtain ⟨σ2, L2, ch2, e2, hK2, eL⟩ := J (L + 1) σ1 ch1 h1 (by omega)
    refine ⟨σ2, L2, ch2, ?_, hK2, by omega⟩
    rw [if_neg hz, show fx_X10_type (44 : Int32) σ = _ from e1, mm_bd_some, if_neg hw]
    exact e2
/-- the sign behind an order, or none -/
theorem p_end {x1 : Int32} {k22 : Int32 → Int32 → Int32 → mm_M → mm_R} {v2 : Int32} {L j : Nat} {σ : mm_M} {ch : Nat → Nat} (hK : KS k σ N R S L ch) (hL : L < 60) : ∃ σ1 L1 ch1, fx_L_types_J296 x1 k22 v2 (nI j) σ = k22 v2 1 (nI (j + 1)) σ1 ∧ KS k σ1 N R S L1 ch1 ∧ L1 ≤ L + 1 := by
  obtain ⟨r, hr, er⟩ := p_low (x1 >>> ((20 : Int32) &&& 31)) (show 0 < 11 by omega) (by omega) σ
  have J : ∀ x, 32 ≤ x → x < 127 → ∃ σ1 L1 ch1, fx_L_types_J316 x1 k22 v2 (nI j) (nI x) σ = k22 v2 1 (nI (j + 1)) σ1 ∧ KS k σ1 N R S L1 ch1 ∧ L1 ≤ L + 1 := by
    intro x h1 h2
    obtain ⟨w, σ1, ch1, e1, hw, h⟩ := p_type hK hL h1 h2
    refine ⟨σ1, L + 1, ch1, ?_, h, Nat.le_refl _⟩
    rw [fx_L_types_J316, e1, mm_bd_some, if_neg hw, fx_L_types_J327, mm_li_e, nI_1]
  rw [fx_L_types_J296, show fx_L_low (x1 >>> ((20 : Int32) &&& 31)) 11 σ = _ from er, mm_bd_some]
  by_cases h : nI r = 0
  · rw [if_pos h]
    exact J 46 (by omega) (by omega)
  · rw [if_neg h]
    exact J 59 (by omega) (by omega)
theorem p_nums {x1 : Int32} {k22 : Int32 → Int32 → Int32 → mm_M → mm_R} {v2 v5 : Int32} {j W w : Nat} (hW : W = 0 ∨ (w < 4 ∧ W = 2) ∨ (4 ≤ w ∧ w < 8 ∧ W = 4)) (hw : w < 10) : ∀ (e i fu : Nat) (L : Nat) (σ : mm_M) (ch : Nat → Nat), i + e = W → e < fu → KS k σ N R S L ch → L + 2 * e + (if 4 ≤ w ∧ 0 < e then 2 else 0) ≤ 59 → ∃ σ1 L1 ch1, fx_L_types_L148 x1 k22 fu v2 1 (nI j) v5 (nI w) (nI W) (nI i) σ = k22 v2 1 (nI (j + 1)) σ1 ∧ KS k σ1 N R S L1 ch1 ∧ L1 ≤ L + 2 * e + (if 4 ≤ w ∧ 0 < e then 2 else 0) + 1 := by
  intro e
  induction e with
  | zero =>
    intro i fu L σ ch hk hf hK hL
    obtain ⟨g, rfl⟩ : ∃ g, fu = g + 1 := ⟨fu - 1, by omega⟩
    have : i = W := by omega
    subst this
    rw [if_neg (show ¬ (4 ≤ w ∧ 0 < 0) by omega)] at hL ⊢
    rw [fx_L_types_L148, if_pos (le_lit rfl (Nat.le_refl _) (by omega)), if_neg (show ¬ (1 : Int32) = 0 by decide)]
    obtain ⟨r, hr, er⟩ := p_low (x1 >>> ((24 : Int32) &&& 31)) (show 0 < 6 by omega) (by omega) σ
    obtain ⟨σ1, L1, ch1, e1, hK1, hL1⟩ := p_end (x1 := x1) (k22 := k22) (v2 := v2) (j := j) hK (by omega)
    rw [show fx_L_low (x1 >>> ((24 : Int32) &&& 31)) 6 σ = _ from er, mm_bd_some]
    by_cases h : nI r = 0
    · rw [if_pos h]
      by_cases h2 : nI j = v2 - 1
      · rw [if_pos h2, fx_L_types_J327, mm_li_e, nI_1]
        exact ⟨σ, L, ch, rfl, hK, by omega⟩
      · rw [if_neg h2]
        exact ⟨σ1, L1, ch1, e1, hK1, by omega⟩
    · rw [if_neg h]
      exact ⟨σ1, L1, ch1, e1, hK1, by omega⟩
  | succ e ih =>
    intro i fu L σ ch hk hf hK hL
    obtain ⟨g, rfl⟩ : ∃ g, fu = g + 1 := ⟨fu - 1, by omega⟩
    have hiW : ¬ nI W ≤ nI i := nle_lit rfl (by omega) (by omega)
    have step : ∀ mx, 0 < mx → mx ≤ 900 → (if i = 0 then 0 else 1) + (if mx ≤ 10 then 1 else if mx ≤ 100 then 2 else 3) + (if 4 ≤ w ∧ 0 < e then 2 else 0) ≤ 2 + (if 4 ≤ w ∧ 0 < e + 1 then 2 else 0) → ∃ σ1 L1 ch1, fx_L_types_J219 x1 k22 (fun z0 z1 z2 z3 z4 z5 z6 z => fx_L_types_L148 x1 k22 g z0 z1 z2 z3 z4 z5 z6 z) v2 1 (nI j) v5 (nI w) (nI W) (nI i) (nI mx) σ = k22 v2 1 (nI (j + 1)) σ1 ∧ KS k σ1 N R S L1 ch1 ∧ L1 ≤ L + 2 * (e + 1) + (if 4 ≤ w ∧ 0 < e + 1 then 2 else 0) + 1 := by
      intro mx h1 h2 hb
      obtain ⟨σ1, L1, ch1, e1, hK1, hL1⟩ := p_num (x1 := x1) (k22 := k22) (k148 := fun z0 z1 z2 z3 z4 z5 z6 z => fx_L_types_L148 x1 k22 g z0 z1 z2 z3 z4 z5 z6 z) (v2 := v2) (v4 := nI j) (v5 := v5) (v6 := nI w) (v7 := nI W) hK (show i < 4 by omega) h1 h2 (by omega)
      obtain ⟨σ2, L2, ch2, e2, hK2, hL2⟩ := ih (i + 1) g L1 σ1 ch1 (by omega) (by omega) hK1 (by omega)
      exact ⟨σ2, L2, ch2, e1.trans e2, hK2, by omega⟩
    rw [fx_L_types_L148, if_neg hiW]
    have nn : ∀ a b : Nat, a < 10 → b < 10 → a ≠ b → ¬ nI a = nI b := fun a b ha hb h z => h ((nI_e (by omega) (by omega)).mp z)
    rcases hW with h0 | ⟨hw4, h2⟩ | ⟨hw4, hw8, h4⟩
    · omega
    · have q : ¬ (4 : Int32) ≤ nI w := nle_lit (x := 4) (b := 4) rfl hw4 (by omega)
      have s0 : (if 4 ≤ w ∧ 0 < e then 2 else 0) = 0 := if_neg (by omega)
      have s1 : (if 4 ≤ w ∧ 0 < e + 1 then 2 else 0) = 0 := if_neg (by omega)
      rw [s0, s1] at step
      rw [if_neg q]
      by_cases hi0 : i = 0
      · subst hi0
        rw [if_pos (show nI 0 = (0 : Int32) from rfl), s1]
        exact step 65 (by omega) (by omega) (by decide)
      · rw [if_neg (show ¬ nI i = (0 : Int32) from nn i 0 (by omega) (by omega) hi0), s1]
        by_cases hw2 : nI w = 2
        · rw [if_pos hw2]
          exact step 10 (by omega) (by omega) (by rw [if_neg hi0]; decide)
        · rw [if_neg hw2]
          exact step 4 (by omega) (by omega) (by rw [if_neg hi0]; decide)
    · have q : (4 : Int32) ≤ nI w := le_litR (a := 4) rfl hw4 (by omega)
      rw [if_pos q]
      rcases (show i = 0 ∨ i = 1 ∨ i = 2 ∨ i = 3 by omega) with rfl | rfl | rfl | rfl
      · rw [if_pos (show nI 0 = (0 : Int32) from rfl)]
        exact step 2 (by omega) (by omega) (by rw [if_pos (show 4 ≤ w ∧ 0 < e by omega), if_pos (show 4 ≤ w ∧ 0 < e + 1 by omega)]; decide)
      · rw [if_neg (show ¬ nI 1 = (0 : Int32) by decide), if_pos (show nI 1 = (1 : Int32) from rfl)]
        exact step 5 (by omega) (by omega) (by rw [if_pos (show 4 ≤ w ∧ 0 < e by omega), if_pos (show 4 ≤ w ∧ 0 < e + 1 by omega)]; decide)
      · rw [if_neg (show ¬ nI 2 = (0 : Int32) by decide), if_neg (show ¬ nI 2 = (1 : Int32) by decide), if_pos (show nI 2 = (2 : Int32) from rfl)]
        exact step 8 (by omega) (by omega) (by rw [if_pos (show 4 ≤ w ∧ 0 < e by omega), if_pos (show 4 ≤ w ∧ 0 < e + 1 by omega)]; decide)
      · rw [if_neg (show ¬ nI 3 = (0 : Int32) by decide), if_neg (show ¬ nI 3 = (1 : Int32) by decide), if_neg (show ¬ nI 3 = (2 : Int32) by decide)]
        exact step 900 (by omega) (by omega) (by rw [if_neg (show ¬ (4 ≤ w ∧ 0 < e) by omega), if_pos (show 4 ≤ w ∧ 0 < e + 1 by omega)]; decide)
theorem p_orders {x1 : Int32} {n : Nat} (hn : n < 5) : ∀ (e j fu L : Nat) (σ : mm_M) (ch : Nat → Nat), j + e = n → e < fu → KS k σ N R S L ch → L + 12 * e ≤ 60 → ∃ σ1 L1 ch1, fx_L_types_L22 x1 fu (nI n) 1 (nI j) σ = some (1, σ1) ∧ KS k σ1 N R S L1 ch1 := by
  intro e
  induction e with
  | zero =>
    intro j fu L σ ch hk hf hK hL
    obtain ⟨g, rfl⟩ : ∃ g, fu = g + 1 := ⟨fu - 1, by omega⟩
    have : j = n := by omega
    subst this
    rw [fx_L_types_L22, if_pos (le_lit rfl (Nat.le_refl _) (by omega)), mm_gd_t (Or.inr rfl)]
    exact ⟨σ, L, ch, rfl, hK⟩
  | succ e ih =>
    intro j fu L σ ch hk hf hK hL
    obtain ⟨g, rfl⟩ : ∃ g, fu = g + 1 := ⟨fu - 1, by omega⟩
    rw [fx_L_types_L22, if_neg (nle_lit rfl (by omega) (by omega) : ¬ nI n ≤ nI j), mm_li_e]
    generalize x1 >>> (((3 : Int32) + ((5 : Int32) * nI j)) &&& 31) = y
    obtain ⟨w, hw, ew⟩ := p_low y (show 0 < 10 by omega) (by omega) σ
    have J : ∀ W, (W = 0 ∨ (w < 4 ∧ W = 2) ∨ (4 ≤ w ∧ w < 8 ∧ W = 4)) → ∃ σ1 L1 ch1, fx_L_types_J79 x1 (fun z0 z1 z2 z => fx_L_types_L22 x1 g z0 z1 z2 z) (nI n) 1 (nI j) y (nI w) (nI W) σ = some (1, σ1) ∧ KS k σ1 N R S L1 ch1 := by
      intro W hW
      have K : ∀ x, 32 ≤ x → x < 127 → ∃ σ1 L1 ch1, fx_L_types_J133 x1 (fun z0 z1 z2 z => fx_L_types_L22 x1 g z0 z1 z2 z) (nI n) (nI j) y (nI w) (nI W) (nI x) σ = some (1, σ1) ∧ KS k σ1 N R S L1 ch1 := by
        intro x h1 h2
        obtain ⟨v, σ1, ch1, e1, hv, hK1⟩ := p_type hK (by omega) h1 h2
        have hc : 2 * W + (if 4 ≤ w ∧ 0 < W then 2 else 0) ≤ 10 := by
          split <;> omega
        obtain ⟨σ2, L2, ch2, e2, hK2, hL2⟩ := p_nums (x1 := x1) (k22 := fun z0 z1 z2 z => fx_L_types_L22 x1 g z0 z1 z2 z) (v2 := nI n) (v5 := y) (j := j) hW hw W 0 mm_FU (L + 1) σ1 ch1 (by omega) (by unfold mm_FU; omega) hK1 (by omega)
        obtain ⟨σ3, L3, ch3, e3, hK3⟩ := ih (j + 1) g L2 σ2 ch2 (by omega) (by omega) hK2 (by omega)
        refine ⟨σ3, L3, ch3, ?_, hK3⟩
        rw [fx_L_types_J133, e1, mm_bd_some, if_neg hv, fx_L_types_J144, show fx_L_types_L148 x1 (fun z0 z1 z2 z => fx_L_types_L22 x1 g z0 z1 z2 z) mm_FU (nI n) 1 (nI j) y (nI w) (nI W) 0 σ1 = _ from e2]
        exact e3
      rw [fx_L_types_J79, if_neg (show ¬ (1 : Int32) = 0 by decide)]
      by_cases a : (2 : Int32) ≤ nI w
      · rw [if_pos a]
        by_cases b : nI w = 2
        · rw [if_pos b]; exact K 107 (by omega) (by omega)
        · rw [if_neg b]
          by_cases c : nI w = 3
          · rw [if_pos c]; exact K 119 (by omega) (by omega)
          · rw [if_neg c]
            by_cases d : (8 : Int32) ≤ nI w
            · rw [if_pos d]; exact K 114 (by omega) (by omega)
            · rw [if_neg d]; exact K 112 (by omega) (by omega)
      · rw [if_neg a]; exact K 99 (by omega) (by omega)
    rw [show fx_L_low y 10 σ = _ from ew, mm_bd_some]
    by_cases a : (3 : Int32) ≤ nI w
    · have a' : 3 ≤ w := (nI_g (a := 3) (by omega) (by omega)).mp a
      rw [if_pos a]
      by_cases b : nI w = 3
      · have b' : w = 3 := (nI_e (b := 3) (by omega) (by omega)).mp b
        rw [if_pos b]
        exact J 2 (by omega)
      · have b' : w ≠ 3 := fun z => b (by rw [z]; rfl)
        rw [if_neg b]
        by_cases c : (8 : Int32) ≤ nI w
        · rw [if_pos c]; exact J 0 (by omega)
        · have c' : w < 8 := by
            rcases Nat.lt_or_ge w 8 with z | z
            · exact z
            · exact absurd ((nI_g (a := 8) (by omega) (by omega)).mpr z) c
          rw [if_neg c]
          exact J 4 (by omega)
    · have a' : w < 3 := by
        rcases Nat.lt_or_ge w 3 with z | z
        · exact z
        · exact absurd ((nI_g (a := 3) (by omega) (by omega)).mpr z) a
      rw [if_neg a]
      exact J 2 (by omega)
theorem p_types {x : Int32} {L : Nat} {σ : mm_M} {ch : Nat → Nat} (hK : KS k σ N R S L ch) : ∃ σ1 L1 ch1, fx_L_types x σ = some (1, σ1) ∧ KS k σ1 N R S L1 ch1 := by
  obtain ⟨n, hn, en⟩ := p_low x (show 0 < 5 by omega) (by omega) σ
  obtain ⟨σ1, e1, hK1⟩ := A_clear hK
  obtain ⟨σ2, L2, ch2, e2, hK2⟩ := p_orders (x1 := x) hn n 0 mm_FU 0 σ1 ch (by omega) (by unfold mm_FU; omega) hK1 (by omega)
  refine ⟨σ2, L2, ch2, ?_, hK2⟩
  rw [fx_L_types, show fx_L_low x 5 σ = _ from en, mm_bd_some, e1, mm_bd_some, if_neg (nI_pos (by have := hK.2.2.1; omega)), fx_L_types_J18]
  exact e2
theorem p_reads {L : Nat} {σ : mm_M} {ch : Nat → Nat} (hk : k < 512) (hK : KS k σ N R S L ch) : ∃ σ1, fx_L_reads σ = some (1, σ1) ∧ (KS (k + 1) σ1 N R S L ch ∨ ∃ S1, KS (k + 1) σ1 (pN N) (pR N R S) S1 L ch) := by
  have hL := hK.2.2.1
  have q139 : ∀ {k1 N1 : Nat} {R1 : Nat → Nat → Int32} {S1 : Nat → Int32} {σ1 : mm_M}, KS k1 σ1 N1 R1 S1 L ch → fx_L_reads_J139 (nI L) σ1 = some (1, σ1) := by
    intro k1 N1 R1 S1 σ1 h
    rw [fx_L_reads_J139, show fx_X10_count (8 : Int32) σ1 = _ from q_count (j := 8) h (by omega), mm_bd_some, if_pos (show vCount S1 N1 L 8 = nI L from rfl)]
  rcases text_x hk hK with ⟨d, hd, hall⟩ | ⟨p, rs, cs, hp, hrc, hall⟩
  · obtain ⟨σ1, e1, c1⟩ := (hall σ hK).1 0 (by omega)
    have K1 := hK.cf c1
    obtain ⟨σ2, e2, c2⟩ := (hall σ1 K1).1 1 (by omega)
    have K2 := K1.cf c2
    obtain ⟨σ3, e3, c3⟩ := (hall σ2 K2).1 2 (by omega)
    have K3 := K2.cf c3
    obtain ⟨σ4, S4, e4, K4⟩ := (hall σ3 K3).2
    refine ⟨σ4, ?_, Or.inr ⟨S4, K4⟩⟩
    have h2 : ¬ nI L < (2 : Int32) * nI d := by
      show ¬ nI L < nI 2 * nI d
      rw [pk_mul]
      exact nlt_lit rfl hd (by omega)
    rw [fx_L_reads, show fx_X10_fault (0 : Int32) σ = _ from e1, mm_bd_some, show fx_X10_fault (1 : Int32) σ1 = _ from e2, mm_bd_some, show fx_X10_fault (2 : Int32) σ2 = _ from e3, mm_bd_some, show fx_X10_count (8 : Int32) σ3 = _ from q_count (j := 8) K3 (by omega), mm_bd_some, e4, mm_bd_some, if_pos rfl, if_pos rfl, if_pos rfl, if_neg (nI_pos (by omega)), show vCount S N L 8 = nI L from rfl, if_neg h2, fx_L_reads_J69, if_pos (show (-1000004 : Int32) < 0 by decide), fx_L_reads_J126, fx_L_reads_J127, if_neg (show ¬ (1 : Int32) = 0 by decide)]
    exact q139 K4
  · obtain ⟨σ1, e1, c1⟩ := (hall σ hK).1 0 (by omega)
    have K1 := hK.cf c1
    obtain ⟨σ2, e2, c2⟩ := (hall σ1 K1).1 1 (by omega)
    have K2 := K1.cf c2
    obtain ⟨σ3, e3, c3⟩ := (hall σ2 K2).1 2 (by omega)
    have K3 := K2.cf c3
    obtain ⟨σ4, e4, K4⟩ := (hall σ3 K3).2
    refine ⟨σ4, ?_, Or.inl K4⟩
    have np : ¬ nI p = (-1000004 : Int32) := fun z => by
      have := nI_pos (n := p) (by omega)
      rw [z] at this
      exact this (by decide)
    rw [if_pos rfl] at e1
    rw [if_neg (by decide), if_pos rfl] at e2
    rw [if_neg (by decide), if_neg (by decide)] at e3
    rw [fx_L_reads, show fx_X10_fault (0 : Int32) σ = _ from e1, mm_bd_some, show fx_X10_fault (1 : Int32) σ1 = _ from e2, mm_bd_some, show fx_X10_fault (2 : Int32) σ2 = _ from e3, mm_bd_some, show fx_X10_count (8 : Int32) σ3 = _ from q_count (j := 8) K3 (by omega), mm_bd_some, e4, mm_bd_some, if_neg np, show vCount S N L 8 = nI L from rfl, fx_L_reads_J68, fx_L_reads_J69, if_neg (nI_pos (by omega)), if_neg (nle_lit rfl hp (by omega) : ¬ nI L ≤ nI p), if_pos rfl]
    have fin : fx_L_reads_J127 (nI L) 0 1 σ4 = some (1, σ4) := by
      rw [fx_L_reads_J127, if_pos rfl, if_neg (show ¬ (1 : Int32) = 0 by decide)]
      exact q139 K4
    rcases hrc with ⟨h1, q, hq, h3⟩ | ⟨h1, h3⟩
    · subst h1; subst h3
      rw [if_pos rfl, if_neg (nI_pos (by omega)), nI_add, if_pos (le_lit rfl hq (by omega))]
      exact fin
    · subst h1
      rw [if_neg (show ¬ (2 : Int32) = 1 by decide), fx_L_reads_J105, if_pos rfl]
      rcases h3 with rfl | rfl | rfl
      · rw [if_neg (by decide), if_neg (by decide)]; exact fin
      · rw [if_neg (by decide), if_neg (by decide)]; exact fin
      · rw [if_neg (by decide), if_neg (by decide)]; exact fin
end TT
