theorem mm_fr.row {W : Nat → Nat → Nat → Prop} {σ σ1 : mm_M} {q t n : Nat} (h : mm_fr W σ σ1) (hw : ∀ i, ¬ W q t i) : σ1 q t n = σ q t n := by
  funext i
  exact h q t n i (hw i)
/-! the class's small functions -/
theorem cc_isWithin (x a b : Int32) (σ : mm_M) : fx_X10_isWithin x a b σ = some (if a ≤ x ∧ x ≤ b then 1 else 0, σ) := by
  rw [fx_X10_isWithin]
  by_cases h1 : x < a
  · rw [if_pos h1, if_neg (fun z => absurd h1 (Int32.not_lt.mpr z.1))]
  · rw [if_neg h1]
    by_cases h2 : b < x
    · rw [if_pos h2, if_neg (fun z => absurd h2 (Int32.not_lt.mpr z.2))]
    · rw [if_neg h2, if_pos ⟨i32_nlt h1, i32_nlt h2⟩]
theorem i32_le_iff (x : Int32) (N : Nat) (hN : N < 1000000) : x ≤ nI N ↔ x < nI (N + 1) := by
  rw [Int32.le_iff_toInt_le, Int32.lt_iff_toInt_lt, nI_toInt (by omega), nI_toInt (by omega)]
  omega
theorem cc_isCell (x : Int32) (σ : mm_M) : fx_X10_isCell x σ = some (if 0 ≤ x ∧ x ≤ 63 then 1 else 0, σ) := by
  have e : (x ≤ (63 : Int32)) ↔ x < 64 := i32_le_iff x 63 (by omega)
  rw [fx_X10_isCell]
  simp only [e]
  by_cases h1 : x < 0
  · rw [if_pos h1, if_neg (fun z => absurd h1 (Int32.not_lt.mpr z.1))]
  · rw [if_neg h1]
    by_cases h2 : 64 ≤ x
    · rw [if_pos h2, if_neg (fun z => absurd h2 (Int32.not_le.mpr z.2))]
    · rw [if_neg h2, if_pos ⟨i32_nlt h1, i32_nle h2⟩]
theorem cc_isDirection (x : Int32) (σ : mm_M) : fx_X10_isDirection x σ = some (if 0 ≤ x ∧ x ≤ 3 then 1 else 0, σ) := by
  have e : (x ≤ (3 : Int32)) ↔ x < 4 := i32_le_iff x 3 (by omega)
  rw [fx_X10_isDirection]
  simp only [e]
  by_cases h1 : x < 0
  · rw [if_pos h1, if_neg (fun z => absurd h1 (Int32.not_lt.mpr z.1))]
  · rw [if_neg h1]
    by_cases h2 : 4 ≤ x
    · rw [if_pos h2, if_neg (fun z => absurd h2 (Int32.not_le.mpr z.2))]
    · rw [if_neg h2, if_pos ⟨i32_nlt h1, i32_nle h2⟩]
theorem cc_isRegister (x : Int32) (σ : mm_M) : fx_X10_isRegister x σ = some (if 0 ≤ x ∧ x ≤ 4 then 1 else 0, σ) := by
  have e : (x ≤ (4 : Int32)) ↔ x < 5 := i32_le_iff x 4 (by omega)
  rw [fx_X10_isRegister]
  simp only [e]
  by_cases h1 : x < 0
  · rw [if_pos h1, if_neg (fun z => absurd h1 (Int32.not_lt.mpr z.1))]
  · rw [if_neg h1]
    by_cases h2 : 5 ≤ x
    · rw [if_pos h2, if_neg (fun z => absurd h2 (Int32.not_le.mpr z.2))]
    · rw [if_neg h2, if_pos ⟨i32_nlt h1, i32_nle h2⟩]
theorem cc_hasCart (r : Nat) (x : Int32) {c : Nat} (σ : mm_M) (h0 : σ r 0 0 2 = nI c) : fx_X8_hasCart r x σ = some (if 0 ≤ x ∧ x < nI c then 1 else 0, σ) := by
  rw [fx_X8_hasCart, h0]
  by_cases h1 : x < 0
  · rw [if_pos h1, if_neg (fun z => absurd h1 (Int32.not_lt.mpr z.1))]
  · rw [if_neg h1]
    by_cases h2 : nI c ≤ x
    · rw [if_pos h2, if_neg (fun z => absurd h2 (Int32.not_le.mpr z.2))]
    · rw [if_neg h2, if_pos ⟨i32_nlt h1, i32_nle h2⟩]
theorem cell_nI {q : Nat} (hq : q < 64) : (¬ nI q < (0 : Int32)) ∧ ¬ (64 : Int32) ≤ nI q := ⟨nI_pos (by omega), Int32.not_le.mpr (show nI q < nI 64 from (nI_lt2 (by omega) (by omega)).mpr hq)⟩
theorem cc_kindOn (r : Nat) {x : Int32} {q : Nat} (σ : mm_M) (hx : x = nI q) (hq : q < 64) : fx_X1_kindOn r x σ = some (σ r 2 0 q, σ) := by
  subst hx
  rw [fx_X1_kindOn, if_neg (cell_nI hq).1, if_neg (cell_nI hq).2, mm_gd_t (mm_ix_n hq (by omega)), nI_cl (by omega)]
theorem cc_kindOut (r : Nat) (σ : mm_M) : fx_X1_kindOn r (-1) σ = some (-1, σ) := rfl
theorem cc_isPit (r : Nat) {x : Int32} {q : Nat} (σ : mm_M) (hx : x = nI q) (hq : q < 64) : fx_X1_isPit r x σ = some (if σ r 2 0 q = 7 then 1 else 0, σ) := by
  subst hx
  rw [fx_X1_isPit, if_neg (cell_nI hq).1, if_neg (cell_nI hq).2, mm_gd_t (mm_ix_n hq (by omega)), nI_cl (by omega)]
  split <;> rfl
theorem cc_hasWall (r : Nat) {x d : Int32} {q : Nat} (σ : mm_M) (hx : x = nI q) (hq : q < 64) : fx_X1_hasWall r x d σ = some (if (σ r 3 0 q >>> (d &&& 31)) &&& 1 = 0 then 0 else 1, σ) := by
  subst hx
  rw [fx_X1_hasWall, if_neg (cell_nI hq).1, if_neg (cell_nI hq).2, mm_gd_t (mm_ix_n hq (by omega)), nI_cl (by omega)]
  split <;> rfl
theorem cc_isOut (r n : Nat) (σ : mm_M) : fx_X3_isOut r n σ = some (if σ r 6 n 3 = -1 then 1 else 0, σ) := by
  rw [fx_X3_isOut]
  split <;> rfl
theorem and1 (x : Int32) : x &&& 1 = 0 ∨ x &&& 1 = 1 := by
  obtain ⟨j, hj, e⟩ := pk_andE x (m := 1) 1 (by decide)
  rw [e]
  rcases (show j = 0 ∨ j = 1 by omega) with rfl | rfl
  · exact Or.inl rfl
  · exact Or.inr rfl
theorem and1n (x : Int32) : (x &&& 1 = 1) ↔ ¬ (x &&& 1 = 0) := by
  rcases and1 x with h | h
  · rw [h]; decide
  · rw [h]; decide
/-- the next cell -/
def sp_nx (q d : Nat) : Int32 := if d = 0 then (if 8 ≤ q then nI (q - 8) else -1) else if d = 1 then (if q % 8 < 7 then nI (q + 1) else -1) else if d = 2 then (if q < 56 then nI (q + 8) else -1) else (if 0 < q % 8 then nI (q - 1) else -1)
theorem sp_nx_in {q d : Nat} (hq : q < 64) : sp_nx q d = -1 ∨ ∃ k, k < 64 ∧ sp_nx q d = nI k := by
  unfold sp_nx
  split
  · split
    · exact Or.inr ⟨_, by omega, rfl⟩
    · exact Or.inl rfl
  · split
    · split
      · exact Or.inr ⟨q + 1, by omega, rfl⟩
      · exact Or.inl rfl
    · split
      · split
        · exact Or.inr ⟨_, by omega, rfl⟩
        · exact Or.inl rfl
      · split
        · exact Or.inr ⟨_, by omega, rfl⟩
        · exact Or.inl rfl
theorem nI_rem8 {q : Nat} (hq : q < 64) : nI q - nI q / (8 : Int32) * (8 : Int32) = nI (q % 8) := pk_rem (a := q) (d := 8) (by omega) (by omega) (by omega)
theorem nI_div8 {q : Nat} (hq : q < 64) : nI q / (8 : Int32) = nI (q / 8) := pk_div (a := q) (d := 8) (by omega) (by omega) (by omega)
theorem lt_lit {a b : Nat} {x : Int32} (hx : x = nI b) (h : a < b) (hb : b < 1000000) : nI a < x := by rw [hx]; exact (nI_lt2 (by omega) hb).mpr h
theorem nlt_lit {a b : Nat} {x : Int32} (hx : x = nI b) (h : b ≤ a) (ha : a < 1000000) : ¬ nI a < x := by rw [hx]; exact Int32.not_lt.mpr ((nI_g (by omega) ha).mpr h)
theorem le_lit {a b : Nat} {x : Int32} (hx : x = nI b) (h : b ≤ a) (ha : a < 1000000) : x ≤ nI a := by rw [hx]; exact (nI_g (by omega) ha).mpr h
theorem nle_lit {a b : Nat} {x : Int32} (hx : x = nI b) (h : a < b) (hb : b < 1000000) : ¬ x ≤ nI a := by rw [hx]; exact Int32.not_le.mpr ((nI_lt2 (by omega) hb).mpr h)
theorem le_litR {a b : Nat} {x : Int32} (hx : x = nI b) (h : a ≤ b) (hb : b < 1000000) : nI a ≤ x := by rw [hx]; exact (nI_g (by omega) hb).mpr h
theorem nle_litR {a b : Nat} {x : Int32} (hx : x = nI b) (h : b < a) (ha : a < 1000000) : ¬ nI a ≤ x := by rw [hx]; exact Int32.not_le.mpr ((nI_lt2 (by omega) ha).mpr h)
theorem ne_lit {a b : Nat} {x : Int32} (hx : x = nI b) (h : a ≠ b) (ha : a < 1000000) (hb : b < 1000000) : ¬ nI a = x := by rw [hx]; exact fun z => h ((nI_e ha hb).mp z)
theorem cc_neighbour {x y : Int32} {q d : Nat} (σ : mm_M) (hx : x = nI q) (hy : y = nI d) (hq : q < 64) (hd : d < 4) : fx_X1_neighbour x y σ = some (sp_nx q d, σ) := by
  subst hx; subst hy
  rw [fx_X1_neighbour, if_neg (cell_nI hq).1, if_pos (lt_lit (x := 64) (b := 64) rfl hq (by omega)), mm_li_e, nI_rem8 hq]
  unfold sp_nx
  rcases (show d = 0 ∨ d = 1 ∨ d = 2 ∨ d = 3 by omega) with rfl | rfl | rfl | rfl
  · rw [if_pos (show nI 0 = (0 : Int32) from rfl), if_pos (show (0 : Nat) = 0 from rfl)]
    by_cases h : 8 ≤ q
    · rw [if_pos h, if_neg (nlt_lit (x := 8) (b := 8) rfl h (by omega))]
      show some (nI q - nI 8, σ) = _
      rw [pk_sub h]
    · rw [if_neg h, if_pos (lt_lit (x := 8) (b := 8) rfl (by omega) (by omega))]
  · rw [if_neg (show ¬ nI 1 = (0 : Int32) by decide), if_pos (show nI 1 = (1 : Int32) from rfl), if_neg (show ¬ (1 : Nat) = 0 by decide), if_pos (show (1 : Nat) = 1 from rfl)]
    by_cases h : q % 8 < 7
    · rw [if_pos h, if_neg (nle_lit (x := 7) (b := 7) rfl h (by omega)), nI_1]
    · rw [if_neg h, if_pos (le_lit (x := 7) (b := 7) rfl (by omega) (by omega))]
  · rw [if_neg (show ¬ nI 2 = (0 : Int32) by decide), if_neg (show ¬ nI 2 = (1 : Int32) by decide), if_pos (show nI 2 = (2 : Int32) from rfl), if_neg (show ¬ (2 : Nat) = 0 by decide), if_neg (show ¬ (2 : Nat) = 1 by decide), if_pos (show (2 : Nat) = 2 from rfl)]
    by_cases h : q < 56
    · rw [if_pos h, if_neg (nle_lit (x := 56) (b := 56) rfl h (by omega))]
      show some (nI q + nI 8, σ) = _
      rw [nI_add]
    · rw [if_neg h, if_pos (le_lit (x := 56) (b := 56) rfl (by omega) (by omega))]
  · rw [if_neg (show ¬ nI 3 = (0 : Int32) by decide), if_neg (show ¬ nI 3 = (1 : Int32) by decide), if_neg (show ¬ nI 3 = (2 : Int32) by decide), if_pos (show nI 3 = (3 : Int32) from rfl), if_neg (show ¬ (3 : Nat) = 0 by decide), if_neg (show ¬ (3 : Nat) = 1 by decide), if_neg (show ¬ (3 : Nat) = 2 by decide)]
    by_cases h : 0 < q % 8
    · rw [if_pos h, if_neg (nle_litR (x := 0) (b := 0) rfl h (by omega))]
      show some (nI q - nI 1, σ) = _
      rw [pk_sub (by omega)]
    · rw [if_neg h, if_pos (le_litR (x := 0) (b := 0) rfl (by omega) (by omega))]
/-- the model's: by its two coordinates -/
theorem md_next_J47 {x y : Int32} {v w u : Int32} {a b : Nat} (μ : mm_M) (hv : v = nI a ∨ v = -1) (hb : w + u = nI b ∨ w + u = -1) (ha : a < 1000) (hb2 : b < 1000) : fx_X11_next_J47 x y v w u μ = some (if v = nI a ∧ a ≤ 7 ∧ w + u = nI b ∧ b ≤ 7 then nI (8 * b + a) else -1, μ) := by
  have hm : ¬ (0 : Int32) ≤ -1 := by decide
  have h7 : ∀ k, k < 1000 → (((0 : Int32) ≤ nI k ∧ nI k ≤ 7) ↔ k ≤ 7) := fun k hk => ⟨fun z => (nI_g (b := 7) (by omega) (by omega)).mp z.2, fun z => ⟨nI_pos' (by omega), (nI_g (b := 7) (by omega) (by omega)).mpr z⟩⟩
  rw [fx_X11_next_J47, mm_li_e, md_in, mm_bd_some]
  rcases hv with rfl | rfl
  · by_cases h1 : a ≤ 7
    · rw [if_pos ((h7 a ha).mpr h1), if_neg (show ¬ (1 : Int32) = 0 by decide), md_in, mm_bd_some]
      rcases hb with e | e
      · rw [e]
        by_cases h2 : b ≤ 7
        · rw [if_pos ((h7 b hb2).mpr h2), if_neg (show ¬ (1 : Int32) = 0 by decide), if_pos (show nI a = nI a ∧ a ≤ 7 ∧ nI b = nI b ∧ b ≤ 7 from ⟨rfl, h1, rfl, h2⟩)]
          show some (nI 8 * nI b + nI a, μ) = _
          rw [pk_mul, nI_add]
        · rw [if_neg (fun z => h2 ((h7 b hb2).mp z)), if_pos (show (0 : Int32) = 0 from rfl), if_neg (show ¬ (nI a = nI a ∧ a ≤ 7 ∧ nI b = nI b ∧ b ≤ 7) from fun z => h2 z.2.2.2)]
      · rw [e, if_neg (show ¬ ((0 : Int32) ≤ -1 ∧ (-1 : Int32) ≤ 7) from fun z => hm z.1), if_pos (show (0 : Int32) = 0 from rfl), if_neg (show ¬ (nI a = nI a ∧ a ≤ 7 ∧ (-1 : Int32) = nI b ∧ b ≤ 7) from fun z => m1_nI (by omega) z.2.2.1)]
    · rw [if_neg (fun z => h1 ((h7 a ha).mp z)), if_pos (show (0 : Int32) = 0 from rfl), if_neg (fun z => h1 z.2.1)]
  · rw [if_neg (show ¬ ((0 : Int32) ≤ -1 ∧ (-1 : Int32) ≤ 7) from fun z => hm z.1), if_pos (show (0 : Int32) = 0 from rfl), if_neg (fun z => m1_nI (by omega) z.1)]
theorem md_next {x y : Int32} {q d : Nat} (μ : mm_M) (hx : x = nI q) (hy : y = nI d) (hq : q < 64) (hd : d < 4) : fx_X11_next x y μ = some (sp_nx q d, μ) := by
  subst hx; subst hy
  have hm1 : ∀ k, (nI (k + 1) + (-1 : Int32)) = nI k := pk_m1
  have h0 : ∀ k, nI k + (0 : Int32) = nI k := fun k => nI_add k 0
  have hz : (nI 0 + (-1 : Int32)) = -1 := by decide
  rw [fx_X11_next]
  unfold sp_nx
  rcases (show d = 0 ∨ d = 1 ∨ d = 2 ∨ d = 3 by omega) with rfl | rfl | rfl | rfl
  · rw [if_neg (show ¬ nI 0 = (1 : Int32) by decide), if_neg (show ¬ nI 0 = (3 : Int32) by decide), fx_X11_next_J23, mm_li_e, if_neg (show ¬ nI 0 = (2 : Int32) by decide), if_pos (show nI 0 = (0 : Int32) from rfl), if_pos (show (0 : Nat) = 0 from rfl), nI_rem8 hq, nI_div8 hq, h0]
    by_cases h : 8 ≤ q
    · obtain ⟨k, hk⟩ : ∃ k, q / 8 = k + 1 := ⟨q / 8 - 1, by omega⟩
      rw [hk, md_next_J47 (a := q % 8) (b := k) μ (Or.inl rfl) (Or.inl (hm1 k)) (by omega) (by omega), if_pos h, if_pos ⟨rfl, by omega, hm1 k, by omega⟩]
      congr 3
      omega
    · have hk : q / 8 = 0 := by omega
      rw [hk, md_next_J47 (a := q % 8) (b := 0) μ (Or.inl rfl) (Or.inr hz) (by omega) (by omega), if_neg h, if_neg (fun z => m1_nI (k := 0) (by omega) (hz.symm.trans z.2.2.1))]
  · rw [if_pos (show nI 1 = (1 : Int32) from rfl), fx_X11_next_J23, mm_li_e, if_neg (show ¬ nI 1 = (2 : Int32) by decide), if_neg (show ¬ nI 1 = (0 : Int32) by decide), if_neg (show ¬ (1 : Nat) = 0 by decide), if_pos (show (1 : Nat) = 1 from rfl), nI_rem8 hq, nI_div8 hq, nI_1, md_next_J47 (a := q % 8 + 1) (b := q / 8) μ (Or.inl rfl) (Or.inl (h0 _)) (by omega) (by omega)]
    by_cases h : q % 8 < 7
    · rw [if_pos h, if_pos ⟨rfl, by omega, h0 _, by omega⟩]
      congr 3
      omega
    · rw [if_neg h, if_neg (fun z => h (by omega))]
  · rw [if_neg (show ¬ nI 2 = (1 : Int32) by decide), if_neg (show ¬ nI 2 = (3 : Int32) by decide), fx_X11_next_J23, mm_li_e, if_pos (show nI 2 = (2 : Int32) from rfl), if_neg (show ¬ (2 : Nat) = 0 by decide), if_neg (show ¬ (2 : Nat) = 1 by decide), if_pos (show (2 : Nat) = 2 from rfl), nI_rem8 hq, nI_div8 hq, h0, md_next_J47 (a := q % 8) (b := q / 8 + 1) μ (Or.inl rfl) (Or.inl (nI_1 _)) (by omega) (by omega)]
    by_cases h : q < 56
    · rw [if_pos h, if_pos ⟨rfl, by omega, nI_1 _, by omega⟩]
      congr 3
      omega
    · rw [if_neg h, if_neg (fun z => h (by omega))]
  · rw [if_neg (show ¬ nI 3 = (1 : Int32) by decide), if_pos (show nI 3 = (3 : Int32) from rfl), fx_X11_next_J23, mm_li_e, if_neg (show ¬ nI 3 = (2 : Int32) by decide), if_neg (show ¬ nI 3 = (0 : Int32) by decide), if_neg (show ¬ (3 : Nat) = 0 by decide), if_neg (show ¬ (3 : Nat) = 1 by decide), if_neg (show ¬ (3 : Nat) = 2 by decide), nI_rem8 hq, nI_div8 hq]
    by_cases h : 0 < q % 8
    · obtain ⟨k, hk⟩ : ∃ k, q % 8 = k + 1 := ⟨q % 8 - 1, by omega⟩
      rw [hk, hm1, md_next_J47 (a := k) (b := q / 8) μ (Or.inl rfl) (Or.inl (h0 _)) (by omega) (by omega), if_pos (show nI k = nI k ∧ k ≤ 7 ∧ nI (q / 8) + 0 = nI (q / 8) ∧ q / 8 ≤ 7 from ⟨rfl, by omega, h0 _, by omega⟩), if_pos (show 0 < k + 1 by omega)]
      congr 3
      omega
    · have hk : q % 8 = 0 := by omega
      rw [hk, hz, md_next_J47 (a := 0) (b := q / 8) μ (Or.inr rfl) (Or.inl (h0 _)) (by omega) (by omega), if_neg (show ¬ ((-1 : Int32) = nI 0 ∧ 0 ≤ 7 ∧ nI (q / 8) + 0 = nI (q / 8) ∧ q / 8 ≤ 7) from fun z => m1_nI (k := 0) (by omega) z.1), if_neg (show ¬ 0 < 0 by omega)]
/-- the cart on a cell: the last one, by the model -/
def sp_on (S : Nat → Int32) (q : Nat) : Nat → Int32
  | 0 => -1
  | k + 1 => if S (139 + 17 * k + 1) = nI q then nI k else sp_on S q k
theorem sp_on_spec (S : Nat → Int32) (q : Nat) : ∀ c, c ≤ 4 → (sp_on S q c = -1 ∧ ∀ n, n < c → S (139 + 17 * n + 1) ≠ nI q) ∨ ∃ n, n < c ∧ sp_on S q c = nI n ∧ S (139 + 17 * n + 1) = nI q
  | 0, _ => Or.inl ⟨rfl, fun n h => absurd h (Nat.not_lt_zero n)⟩
  | k + 1, hk => by
    unfold sp_on
    by_cases h : S (139 + 17 * k + 1) = nI q
    · rw [if_pos h]
      exact Or.inr ⟨k, by omega, rfl, h⟩
    · rw [if_neg h]
      rcases sp_on_spec S q k (by omega) with ⟨a, b⟩ | ⟨n, a, b, e⟩
      · refine Or.inl ⟨a, fun n hn => ?_⟩
        by_cases hnk : n = k
        · subst hnk; exact h
        · exact b n (by omega)
      · exact Or.inr ⟨n, by omega, b, e⟩
theorem sp_on_is {B c f q n : Nat} {S : Nat → Int32} (h : WF B c f S) (hn : n < c) (hq : q < 64) (e : S (139 + 17 * n + 1) = nI q) : sp_on S q c = nI n := by
  rcases sp_on_spec S q c h.c4 with ⟨a, b⟩ | ⟨m, a, b, e2⟩
  · exact absurd e (b n hn)
  · by_cases hmn : m = n
    · rw [b, hmn]
    · have := h.ap a hn hmn (e2.trans e.symm)
      rw [e2] at this
      exact absurd this (nI_m1 (by omega))
theorem md_cartOn_L {c q : Nat} {μ : mm_M} (h0 : μ 10 31 0 0 = nI c) (hc : c ≤ 4) : ∀ (d k fu : Nat) (acc : Int32), k + d = c → d < fu → acc = sp_on (μ 10 31 0) q k → fx_X11_cartOn_L4 (nI q) fu acc (nI k) μ = some (sp_on (μ 10 31 0) q c, μ) := by
  have hc0 : μ 10 31 0 (0 : Int32).toNatClampNeg = nI c := h0
  intro d
  induction d with
  | zero =>
    intro k fu acc hk hf ha
    obtain ⟨g, rfl⟩ : ∃ g, fu = g + 1 := ⟨fu - 1, by omega⟩
    have : k = c := by omega
    subst this
    rw [fx_X11_cartOn_L4, hc0, if_pos ((nI_g (by omega) (by omega)).mpr (Nat.le_refl _)), ha]
  | succ d ih =>
    intro k fu acc hk hf ha
    obtain ⟨g, rfl⟩ : ∃ g, fu = g + 1 := ⟨fu - 1, by omega⟩
    rw [fx_X11_cartOn_L4, hc0, if_neg (fun z => absurd ((nI_g (by omega) (by omega)).mp z) (by omega)), md_of (w := 1) (k := 1) μ rfl rfl (by omega), mm_bd_some]
    by_cases h : μ 10 31 0 (139 + 17 * k + 1) = nI q
    · rw [if_pos h, fx_X11_cartOn_J29, mm_li_e, nI_1]
      exact ih (k + 1) g (nI k) (by omega) (by omega) (by unfold sp_on; rw [if_pos h])
    · rw [if_neg h, fx_X11_cartOn_J29, mm_li_e, nI_1]
      exact ih (k + 1) g acc (by omega) (by omega) (ha.trans (if_neg h).symm)
theorem md_cartOn {c q : Nat} {x : Int32} {μ : mm_M} (hx : x = nI q) (h0 : μ 10 31 0 0 = nI c) (hc : c ≤ 4) : fx_X11_cartOn x μ = some (sp_on (μ 10 31 0) q c, μ) := by
  subst hx
  rw [fx_X11_cartOn]
  exact md_cartOn_L h0 hc c 0 mm_FU (-1) (by omega) (by unfold mm_FU; omega) rfl
theorem cc_cartOn_L {B c f q r : Nat} {σ : mm_M} {S : Nat → Int32} (hW : WF B c f S) (hR : RS c f σ r S) (hq : q < 64) : ∀ (d k fu : Nat), k + d = c → d < fu → (∀ n, n < k → S (139 + 17 * n + 1) ≠ nI q) → fx_X8_cartOn_L2 r (nI q) fu (nI k) σ = some (sp_on S q c, σ) := by
  have hc := hW.c4
  have hc0 : σ r 0 0 2 = nI c := hR.s0.trans hW.s0
  intro d
  induction d with
  | zero =>
    intro k fu hk hf ha
    obtain ⟨g, rfl⟩ : ∃ g, fu = g + 1 := ⟨fu - 1, by omega⟩
    have : k = c := by omega
    subst this
    rw [fx_X8_cartOn_L2, hc0, if_pos ((nI_g (by omega) (by omega)).mpr (Nat.le_refl _))]
    rcases sp_on_spec S q k hc with ⟨a, b⟩ | ⟨n, a, b, e⟩
    · rw [a]
    · exact absurd e (ha n a)
  | succ d ih =>
    intro k fu hk hf ha
    obtain ⟨g, rfl⟩ : ∃ g, fu = g + 1 := ⟨fu - 1, by omega⟩
    rw [fx_X8_cartOn_L2, hc0, if_neg (fun z => absurd ((nI_g (by omega) (by omega)).mp z) (by omega)), mm_gd_t (mm_ix_n (by omega) (by omega)), nI_cl (by omega), hR.ct (n := k) (k := 1) (by omega) (by omega)]
    by_cases h : S (139 + 17 * k + 1) = nI q
    · rw [if_pos h, if_neg (nI_m1 (by omega)), sp_on_is hW (by omega) hq h]
    · rw [if_neg h, mm_li_e, nI_1]
      refine ih (k + 1) g (by omega) (by omega) (fun n hn => ?_)
      by_cases hnk : n = k
      · subst hnk; exact h
      · exact ha n (by omega)
theorem cc_cartOn {B c f q r : Nat} {x : Int32} {σ : mm_M} {S : Nat → Int32} (hW : WF B c f S) (hR : RS c f σ r S) (hx : x = nI q) (hq : q < 64) : fx_X8_cartOn r x σ = some (sp_on S q c, σ) := by
  subst hx
  rw [fx_X8_cartOn]
  exact cc_cartOn_L hW hR hq c 0 mm_FU (by omega) (by unfold mm_FU; have := hW.c4; omega) (fun n h => absurd h (Nat.not_lt_zero n))
theorem cc_cartOut_L {B c f r : Nat} {σ : mm_M} {S : Nat → Int32} (hW : WF B c f S) (hR : RS c f σ r S) : ∀ (d k fu : Nat), k + d = c → d < fu → fx_X8_cartOn_L2 r (-1) fu (nI k) σ = some (-1, σ) := by
  have hc := hW.c4
  have hc0 : σ r 0 0 2 = nI c := hR.s0.trans hW.s0
  intro d
  induction d with
  | zero =>
    intro k fu hk hf
    obtain ⟨g, rfl⟩ : ∃ g, fu = g + 1 := ⟨fu - 1, by omega⟩
    have : k = c := by omega
    subst this
    rw [fx_X8_cartOn_L2, hc0, if_pos ((nI_g (by omega) (by omega)).mpr (Nat.le_refl _))]
  | succ d ih =>
    intro k fu hk hf
    obtain ⟨g, rfl⟩ : ∃ g, fu = g + 1 := ⟨fu - 1, by omega⟩
    rw [fx_X8_cartOn_L2, hc0, if_neg (fun z => absurd ((nI_g (by omega) (by omega)).mp z) (by omega)), mm_gd_t (mm_ix_n (by omega) (by omega))]
    simp only [mm_li_e, nI_1, ih (k + 1) g (by omega) (by omega)]
    split
    · rfl
    · rfl
theorem cc_cartOut {B c f r : Nat} {σ : mm_M} {S : Nat → Int32} (hW : WF B c f S) (hR : RS c f σ r S) : fx_X8_cartOn r (-1) σ = some (-1, σ) := by
  rw [fx_X8_cartOn]
  exact cc_cartOut_L hW hR c 0 mm_FU (by omega) (by unfold mm_FU; have := hW.c4; omega)
