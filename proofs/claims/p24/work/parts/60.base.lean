/-! the pure part: what the functions answer. first plain facts -/
theorem mm_bd_some (r : Int32) (s : mm_M) (k : Int32 → mm_M → mm_R) : mm_bd (some (r, s)) k = k r s := rfl
theorem mm_gd_t {c : Prop} [Decidable c] (h : c) (k : mm_R) : mm_gd c k = k := if_pos h
theorem mm_lt_e (v : mm_M) (k : mm_M → mm_R) : mm_lt v k = k v := rfl
theorem mm_li_e (v : Int32) (k : Int32 → mm_R) : mm_li v k = k v := rfl
theorem mm_ix_n {k N : Nat} (h : k < N) (hN : N ≤ 1000000) : mm_ix (nI k) N = true := by
  unfold mm_ix
  rw [nI_clamp (by omega)]
  simp only [Bool.and_eq_true, decide_eq_true_eq]
  exact ⟨nI_pos (by omega), h⟩
theorem mm_u_ap (σ : mm_M) (r t n i : Nat) (v : Int32) (r1 t1 n1 i1 : Nat) : mm_u σ r t n i v r1 t1 n1 i1 = if r1 = r ∧ t1 = t ∧ n1 = n ∧ i1 = i then v else σ r1 t1 n1 i1 := by
  unfold mm_u mm_w upd
  by_cases h : r1 = r ∧ t1 = t ∧ n1 = n
  · obtain ⟨h1, h2, h3⟩ := h
    subst h1; subst h2; subst h3
    by_cases hi : i1 = i
    · simp [hi]
    · simp [hi]
  · rw [if_neg h, if_neg (fun z => h ⟨z.1, z.2.1, z.2.2.1⟩)]
theorem mm_u_row (σ : mm_M) (r t n i : Nat) (v : Int32) : mm_u σ r t n i v r t n = upd (σ r t n) i v := by
  unfold mm_u mm_w
  simp
theorem mm_u_oth (σ : mm_M) (r t n i : Nat) (v : Int32) {r1 t1 n1 : Nat} (h : ¬ (r1 = r ∧ t1 = t ∧ n1 = n)) : mm_u σ r t n i v r1 t1 n1 = σ r1 t1 n1 := by
  unfold mm_u mm_w
  simp only [if_neg h]
def isN (x : Int32) (N : Nat) : Prop := ∃ k : Nat, k < N ∧ x = nI k
theorem m1_lt0 : (-1 : Int32) < 0 := by decide
theorem m1_nI {k : Nat} (h : k < 1000000) : ¬ (-1 : Int32) = nI k := fun e => by
  have := nI_pos (n := k) (by omega)
  rw [← e] at this
  exact this m1_lt0
theorem nI_m1 {k : Nat} (h : k < 1000000) : ¬ nI k = (-1 : Int32) := fun e => m1_nI h e.symm
theorem nI_e {a b : Nat} (ha : a < 1000000) (hb : b < 1000000) : nI a = nI b ↔ a = b := nI_eq (by omega) (by omega)
theorem nI_lt2 {a b : Nat} (ha : a < 1000000) (hb : b < 1000000) : nI a < nI b ↔ a < b := nI_ltI (by omega) (by omega)
theorem nI_g {a b : Nat} (ha : a < 1000000) (hb : b < 1000000) : nI a ≤ nI b ↔ a ≤ b := nI_leI (by omega) (by omega)
theorem nI_cl {k : Nat} (h : k < 1000000) : (nI k).toNatClampNeg = k := nI_clamp (by omega)
theorem isN.cl {x : Int32} {N : Nat} (h : isN x N) (hN : N ≤ 1000000) : x.toNatClampNeg < N ∧ x = nI x.toNatClampNeg := by
  obtain ⟨k, hk, rfl⟩ := h
  rw [nI_cl (by omega)]
  exact ⟨hk, rfl⟩
theorem isN.nn {x : Int32} {N : Nat} (h : isN x N) (hN : N ≤ 1000000) : ¬ x < 0 := by
  obtain ⟨k, hk, rfl⟩ := h
  exact nI_pos (by omega)
theorem i32_nle {a b : Int32} (h : ¬ a ≤ b) : b < a := Int32.not_le.mp h
theorem i32_nlt {a b : Int32} (h : ¬ a < b) : b ≤ a := Int32.not_lt.mp h
theorem i32_isN {x : Int32} {N : Nat} (h0 : ¬ x < 0) (h1 : x < nI N) (hN : N ≤ 1000000) : isN x N := by
  obtain ⟨j, hj, rfl⟩ := nI_of h0
  have := (nI_ltI hj (by omega)).mp h1
  exact ⟨j, this, rfl⟩
/-! the model's small functions -/
theorem md_idx (n k : Nat) : ((139 : Int32) + (17 : Int32) * nI n) + nI k = nI (139 + 17 * n + k) := by
  show (nI 139 + nI 17 * nI n) + nI k = _
  rw [pk_mul, nI_add, nI_add]
theorem md_of {x w : Int32} {n k : Nat} (μ : mm_M) (hx : x = nI n) (hw : w = nI k) (hb : 139 + 17 * n + k < 207) : fx_X11_of x w μ = some (μ 10 31 0 (139 + 17 * n + k), μ) := by
  subst hx; subst hw
  rw [fx_X11_of, md_idx, mm_gd_t (mm_ix_n hb (by omega)), nI_cl (by omega)]
theorem md_lays {x w v : Int32} {n k : Nat} (μ : mm_M) (hx : x = nI n) (hw : w = nI k) (hb : 139 + 17 * n + k < 207) : fx_X11_lays x w v μ = some (0, mm_u μ 10 31 0 (139 + 17 * n + k) v) := by
  subst hx; subst hw
  rw [fx_X11_lays, md_idx, mm_gd_t (mm_ix_n hb (by omega)), nI_cl (by omega)]
  rfl
theorem md_more {x w : Int32} {n k : Nat} (μ : mm_M) (hx : x = nI n) (hw : w = nI k) (hb : 139 + 17 * n + k < 207) : fx_X11_more x w μ = some (0, mm_u μ 10 31 0 (139 + 17 * n + k) (μ 10 31 0 (139 + 17 * n + k) + 1)) := by
  subst hx; subst hw
  rw [fx_X11_more]
  simp only [md_idx, mm_gd_t (mm_ix_n hb (show 207 ≤ 1000000 by omega)), nI_cl (show 139 + 17 * n + k < 1000000 by omega), mm_lt_e]
theorem md_in (x a b : Int32) (μ : mm_M) : fx_X11_in x a b μ = some (if a ≤ x ∧ x ≤ b then 1 else 0, μ) := by
  rw [fx_X11_in]
  by_cases h1 : x < a
  · rw [if_pos h1, if_neg (fun z => absurd h1 (Int32.not_lt.mpr z.1))]
  · rw [if_neg h1]
    by_cases h2 : b < x
    · rw [if_pos h2, if_neg (fun z => absurd h2 (Int32.not_lt.mpr z.2))]
    · rw [if_neg h2, if_pos ⟨i32_nlt h1, i32_nlt h2⟩]
theorem md_isCell (x : Int32) (μ : mm_M) : fx_X11_isCell x μ = some (if 0 ≤ x ∧ x ≤ 63 then 1 else 0, μ) := by
  rw [fx_X11_isCell, md_in, mm_bd_some]
  by_cases h : (0 : Int32) ≤ x ∧ x ≤ 63
  · rw [if_pos h, mm_gd_t (by decide)]
  · rw [if_neg h, mm_gd_t (by decide)]
theorem md_isOut {x : Int32} {n : Nat} (μ : mm_M) (hx : x = nI n) (hn : n < 4) : fx_X11_isOut x μ = some (if μ 10 31 0 (139 + 17 * n + 1) < 0 then 1 else 0, μ) := by
  rw [fx_X11_isOut, md_of (w := 1) (k := 1) μ hx rfl (by omega), mm_bd_some]
  by_cases h : μ 10 31 0 (139 + 17 * n + 1) < 0
  · rw [if_pos h, if_neg (Int32.not_le.mpr h)]
  · rw [if_neg h, if_pos (i32_nlt h)]
theorem md_rank {x j : Int32} {n k : Nat} (μ : mm_M) (hx : x = nI n) (hj : j = nI k) (hn : n < 4) (hk : k < 5) : fx_X11_rank x j μ = some (μ 10 31 0 (139 + 17 * n + (8 + 2 * k)), μ) := by
  subst hj
  rw [fx_X11_rank, md_of (k := 8 + 2 * k) μ hx (by show (nI 7 + nI 2 * nI k) + nI 1 = _; rw [pk_mul, nI_add, nI_add]; congr 1; omega) (by omega), mm_bd_some]
theorem md_isWall {x d : Int32} {q : Nat} (μ : mm_M) (hx : x = nI q) (hq : q < 64) : fx_X11_isWall x d μ = some (if ((μ 10 31 0 (75 + q) >>> (d &&& 31)) &&& 1) = 1 then 1 else 0, μ) := by
  subst hx
  have e : (75 : Int32) + nI q = nI (75 + q) := by show nI 75 + nI q = _; rw [nI_add]
  rw [fx_X11_isWall]
  simp only [e, mm_gd_t (mm_ix_n (show 75 + q < 207 by omega) (show 207 ≤ 1000000 by omega)), nI_cl (show 75 + q < 1000000 by omega)]
  split <;> rfl
theorem md_isLocked {x : Int32} (j : Int32) {n : Nat} (μ : mm_M) (hx : x = nI n) (hn : n < 4) : fx_X11_isLocked x j μ = some (if (5 : Int32) - (μ 10 31 0 (139 + 17 * n + 3) - 4) ≤ j then 1 else 0, μ) := by
  rw [fx_X11_isLocked, md_of (w := 3) (k := 3) μ hx rfl (by omega), mm_bd_some]
  by_cases h : j < (5 : Int32) - (μ 10 31 0 (139 + 17 * n + 3) - 4)
  · rw [if_pos h, if_neg (Int32.not_le.mpr h)]
  · rw [if_neg h, if_pos (i32_nlt h)]
theorem md_isCart (x : Int32) {c : Nat} (μ : mm_M) (h0 : μ 10 31 0 0 = nI c) (hc : c ≤ 4) : fx_X11_isCart x μ = some (if 0 ≤ x ∧ x < nI c then 1 else 0, μ) := by
  rw [fx_X11_isCart, md_in, mm_bd_some]
  have e : (μ 10 31 0 (0 : Int32).toNatClampNeg) = nI c := h0
  rw [e]
  have key : (x ≤ nI c - 1) ↔ x < nI c := by
    rw [Int32.le_iff_toInt_le, Int32.lt_iff_toInt_lt]
    have h1 : (nI c - 1).toInt = (c : Int) - 1 := pk_sub_toInt (a := c) (b := 1) (by omega) (by omega)
    rw [h1, nI_toInt (by omega)]
    omega
  simp only [key]
  by_cases h : (0 : Int32) ≤ x ∧ x < nI c
  · rw [if_pos h, mm_gd_t (by decide)]
  · rw [if_neg h, mm_gd_t (by decide)]
