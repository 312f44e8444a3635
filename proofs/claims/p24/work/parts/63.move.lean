/-! a model's memory, its row of numbers apart -/
def mw (μ : mm_M) (S : Nat → Int32) : mm_M := mm_w μ 10 31 0 S
theorem mw_row (μ : mm_M) (S : Nat → Int32) : mw μ S 10 31 0 = S := by
  unfold mw mm_w
  simp
theorem mw_oth (μ : mm_M) (S : Nat → Int32) {q t n : Nat} (h : ¬ (q = 10 ∧ t = 31 ∧ n = 0)) : mw μ S q t n = μ q t n := by
  unfold mw mm_w
  simp only [if_neg h]
theorem mw_self (μ : mm_M) : mw μ (μ 10 31 0) = μ := by
  funext q t n
  by_cases h : q = 10 ∧ t = 31 ∧ n = 0
  · obtain ⟨rfl, rfl, rfl⟩ := h
    rw [mw_row]
  · rw [mw_oth μ _ h]
theorem mw_mw (μ : mm_M) (S T : Nat → Int32) : mw (mw μ S) T = mw μ T := by
  funext q t n
  by_cases h : q = 10 ∧ t = 31 ∧ n = 0
  · obtain ⟨rfl, rfl, rfl⟩ := h
    rw [mw_row, mw_row]
  · rw [mw_oth _ _ h, mw_oth _ _ h, mw_oth _ _ h]
theorem mw_u (μ : mm_M) (S : Nat → Int32) (i : Nat) (v : Int32) : mm_u (mw μ S) 10 31 0 i v = mw μ (upd S i v) := by
  show mw (mw μ S) (upd (mw μ S 10 31 0) i v) = _
  rw [mw_row, mw_mw]
/-- a write elsewhere -/
theorem mw_s (μ : mm_M) (S : Nat → Int32) {q t n i : Nat} (v : Int32) (h : ¬ (q = 10 ∧ t = 31 ∧ n = 0)) : mm_u (mw μ S) q t n i v = mw (mm_u μ q t n i v) S := by
  funext q1 t1 n1
  by_cases h1 : q1 = 10 ∧ t1 = 31 ∧ n1 = 0
  · obtain ⟨rfl, rfl, rfl⟩ := h1
    rw [mw_row, mm_u_oth _ _ _ _ _ _ (fun z => h ⟨z.1.symm, z.2.1.symm, z.2.2.symm⟩), mw_row]
  · rw [mw_oth _ _ h1]
    by_cases h2 : q1 = q ∧ t1 = t ∧ n1 = n
    · obtain ⟨rfl, rfl, rfl⟩ := h2
      rw [mm_u_row, mm_u_row, mw_oth _ _ h1]
    · rw [mm_u_oth _ _ _ _ _ _ h2, mm_u_oth _ _ _ _ _ _ h2, mw_oth _ _ h1]
theorem mo_of {x w : Int32} {n k : Nat} (μ : mm_M) (S : Nat → Int32) (hx : x = nI n) (hw : w = nI k) (hb : 139 + 17 * n + k < 207) : fx_X11_of x w (mw μ S) = some (S (139 + 17 * n + k), mw μ S) := by
  rw [md_of (mw μ S) hx hw hb, mw_row]
theorem mo_lays {x w v : Int32} {n k : Nat} (μ : mm_M) (S : Nat → Int32) (hx : x = nI n) (hw : w = nI k) (hb : 139 + 17 * n + k < 207) : fx_X11_lays x w v (mw μ S) = some (0, mw μ (upd S (139 + 17 * n + k) v)) := by
  rw [md_lays (mw μ S) hx hw hb, mw_u]
theorem mo_more {x w : Int32} {n k : Nat} (μ : mm_M) (S : Nat → Int32) (hx : x = nI n) (hw : w = nI k) (hb : 139 + 17 * n + k < 207) : fx_X11_more x w (mw μ S) = some (0, mw μ (upd S (139 + 17 * n + k) (S (139 + 17 * n + k) + 1))) := by
  rw [md_more (mw μ S) hx hw hb, mw_u, mw_row]
theorem mo_isOut {x : Int32} {n : Nat} (μ : mm_M) (S : Nat → Int32) (hx : x = nI n) (hn : n < 4) : fx_X11_isOut x (mw μ S) = some (if S (139 + 17 * n + 1) < 0 then 1 else 0, mw μ S) := by
  rw [md_isOut (mw μ S) hx hn, mw_row]
theorem mo_rank {x j : Int32} {n k : Nat} (μ : mm_M) (S : Nat → Int32) (hx : x = nI n) (hj : j = nI k) (hn : n < 4) (hk : k < 5) : fx_X11_rank x j (mw μ S) = some (S (139 + 17 * n + (8 + 2 * k)), mw μ S) := by
  rw [md_rank (mw μ S) hx hj hn hk, mw_row]
theorem mo_isWall {x d : Int32} {q : Nat} (μ : mm_M) (S : Nat → Int32) (hx : x = nI q) (hq : q < 64) : fx_X11_isWall x d (mw μ S) = some (if ((S (75 + q) >>> (d &&& 31)) &&& 1) = 1 then 1 else 0, mw μ S) := by
  rw [md_isWall (mw μ S) hx hq, mw_row]
theorem mo_cartOn {c q : Nat} {x : Int32} (μ : mm_M) (S : Nat → Int32) (hx : x = nI q) (h0 : S 0 = nI c) (hc : c ≤ 4) : fx_X11_cartOn x (mw μ S) = some (sp_on S q c, mw μ S) := by
  rw [md_cartOn (μ := mw μ S) hx (by rw [mw_row]; exact h0) hc, mw_row]
/-! a cart comes to a cell -/
def sp_enter (S : Nat → Int32) (n : Nat) (v : Int32) : Nat → Int32 :=
  if v < 0 ∨ S (11 + v.toNatClampNeg) = 7 then upd (upd S (139 + 17 * n + 1) (-1)) (139 + 17 * n + 5) (S (139 + 17 * n + 5) + 1) else upd S (139 + 17 * n + 1) v
theorem mo_goesOut {x : Int32} {n : Nat} (μ : mm_M) (S : Nat → Int32) (hx : x = nI n) (hn : n < 4) : fx_X11_goesOut x (mw μ S) = some (0, mw μ (upd (upd S (139 + 17 * n + 1) (-1)) (139 + 17 * n + 5) (S (139 + 17 * n + 5) + 1))) := by
  rw [fx_X11_goesOut, mo_lays (w := 1) (k := 1) μ S hx rfl (by omega), mm_bd_some, mo_more (w := 5) (k := 5) μ _ hx rfl (by omega), mm_bd_some, pk_un (f := S) (by omega)]
theorem mo_comesTo {x v : Int32} {n : Nat} (μ : mm_M) (S : Nat → Int32) (hx : x = nI n) (hn : n < 4) (hv : v = -1 ∨ ∃ q, q < 64 ∧ v = nI q) : fx_X11_comesTo x v (mw μ S) = some (0, mw μ (sp_enter S n v)) := by
  rw [fx_X11_comesTo]
  unfold sp_enter
  rcases hv with rfl | ⟨q, hq, rfl⟩
  · rw [if_pos m1_lt0, if_pos (Or.inl m1_lt0), fx_X11_comesTo_J18, mo_goesOut μ S hx hn, mm_bd_some]
  · have e : (11 : Int32) + nI q = nI (11 + q) := by show nI 11 + nI q = _; rw [nI_add]
    rw [if_neg (nI_pos (by omega)), e, mm_gd_t (mm_ix_n (by omega) (by omega)), nI_cl (by omega), mw_row, nI_cl (by omega)]
    by_cases h : S (11 + q) = 7
    · rw [if_pos h, if_pos (Or.inr h), fx_X11_comesTo_J18, mo_goesOut μ S hx hn, mm_bd_some]
    · rw [if_neg h, if_neg (fun z => z.elim (nI_pos (by omega)) h), mo_lays (w := 1) (k := 1) μ S hx rfl (by omega), mm_bd_some]
theorem cc_enter {c f r n : Nat} {v : Int32} {σ : mm_M} {S : Nat → Int32} (hR : RS c f σ r S) (hc : c ≤ 4) (hf : f ≤ 4) (hn : n < c) (hv : v = -1 ∨ ∃ q, q < 64 ∧ v = nI q) : ∃ σ1, fx_X8_enter r r n v σ = some (0, σ1) ∧ RS c f σ1 r (sp_enter S n v) := by
  have out : ∃ σ1, fx_X8_enter_J24 r r n v σ = some (0, σ1) ∧ RS c f σ1 r (upd (upd S (139 + 17 * n + 1) (-1)) (139 + 17 * n + 5) (S (139 + 17 * n + 5) + 1)) := by
    refine ⟨_, rfl, ?_⟩
    have h1 := hR.cart hc hf hn (k := 1) (by omega) (-1)
    have h2 := h1.cart hc hf hn (k := 5) (by omega) (S (139 + 17 * n + 5) + 1)
    have e : mm_u σ r 6 n 3 (-1) r 6 n 7 = S (139 + 17 * n + 5) := by
      rw [mm_u_ap, if_neg (by omega)]
      exact hR.ct hn (k := 5) (by omega)
    rw [← e] at h2 ⊢
    exact h2
  rw [fx_X8_enter]
  unfold sp_enter
  rcases hv with rfl | ⟨q, hq, rfl⟩
  · rw [if_pos m1_lt0, if_pos (Or.inl m1_lt0)]
    exact out
  · rw [if_neg (cell_nI hq).1, if_neg (cell_nI hq).2, mm_gd_t (mm_ix_n hq (by omega)), nI_cl (by omega), hR.kd hq]
    by_cases h : S (11 + q) = 7
    · rw [if_pos h, if_pos (Or.inr h)]
      exact out
    · rw [if_neg h, if_neg (fun z => z.elim (nI_pos (by omega)) h)]
      exact ⟨_, rfl, hR.cart hc hf hn (k := 1) (by omega) (nI q)⟩
theorem upd_sw (f : Nat → Int32) {i j : Nat} (h : i ≠ j) (x y : Int32) : upd (upd f i x) j y = upd (upd f j y) i x := by
  funext k
  unfold upd
  by_cases h1 : k = j
  · subst h1
    rw [if_pos rfl, if_neg (fun z => h z.symm), if_pos rfl]
  · rw [if_neg h1]
    by_cases h2 : k = i
    · rw [if_pos h2, if_pos h2]
    · rw [if_neg h2, if_neg h2, if_neg h1]
/-- what an entering leaves as it was -/
theorem sp_enter_un (S : Nat → Int32) (n : Nat) (v : Int32) {i : Nat} (h1 : i ≠ 139 + 17 * n + 1) (h5 : i ≠ 139 + 17 * n + 5) : sp_enter S n v i = S i := by
  unfold sp_enter
  split
  · rw [pk_un h5, pk_un h1]
  · rw [pk_un h1]
theorem sp_enter_sw (S : Nat → Int32) {n m : Nat} (hnm : n ≠ m) (v w : Int32) (hv : v < 0 ∨ v.toNatClampNeg < 64) (hw : w < 0 ∨ w.toNatClampNeg < 64) : sp_enter (sp_enter S n v) m w = sp_enter (sp_enter S m w) n v := by
  have key : ∀ (T : Nat → Int32) (a b : Nat) (x y : Int32), a ≠ b → (y < 0 ∨ y.toNatClampNeg < 64) → sp_enter (sp_enter T a x) b y = if y < 0 ∨ T (11 + y.toNatClampNeg) = 7 then upd (upd (sp_enter T a x) (139 + 17 * b + 1) (-1)) (139 + 17 * b + 5) (T (139 + 17 * b + 5) + 1) else upd (sp_enter T a x) (139 + 17 * b + 1) y := by
    intro T a b x y hab hy
    rw [sp_enter.eq_1 (sp_enter T a x) b y]
    have e5 : sp_enter T a x (139 + 17 * b + 5) = T (139 + 17 * b + 5) := sp_enter_un T a x (by omega) (by omega)
    rw [e5]
    rcases hy with hy | hy
    · rw [if_pos (Or.inl hy), if_pos (Or.inl hy)]
    · rw [sp_enter_un T a x (i := 11 + y.toNatClampNeg) (by omega) (by omega)]
  rw [key S n m v w hnm hw, key S m n w v (Ne.symm hnm) hv]
  unfold sp_enter
  by_cases h1 : v < 0 ∨ S (11 + v.toNatClampNeg) = 7 <;> by_cases h2 : w < 0 ∨ S (11 + w.toNatClampNeg) = 7
  · simp only [if_pos h1, if_pos h2]
    rw [upd_sw (upd S (139 + 17 * n + 1) (-1)) (i := 139 + 17 * n + 5) (j := 139 + 17 * m + 1) (by omega), upd_sw S (i := 139 + 17 * n + 1) (j := 139 + 17 * m + 1) (by omega), upd_sw (upd (upd S (139 + 17 * m + 1) (-1)) (139 + 17 * n + 1) (-1)) (i := 139 + 17 * n + 5) (j := 139 + 17 * m + 5) (by omega), upd_sw (upd S (139 + 17 * m + 1) (-1)) (i := 139 + 17 * n + 1) (j := 139 + 17 * m + 5) (by omega)]
  · simp only [if_pos h1, if_neg h2]
    rw [upd_sw (upd S (139 + 17 * n + 1) (-1)) (i := 139 + 17 * n + 5) (j := 139 + 17 * m + 1) (by omega), upd_sw S (i := 139 + 17 * n + 1) (j := 139 + 17 * m + 1) (by omega)]
  · simp only [if_neg h1, if_pos h2]
    rw [upd_sw S (i := 139 + 17 * n + 1) (j := 139 + 17 * m + 1) (by omega), upd_sw (upd S (139 + 17 * m + 1) (-1)) (i := 139 + 17 * n + 1) (j := 139 + 17 * m + 5) (by omega)]
  · simp only [if_neg h1, if_neg h2]
    rw [upd_sw S (i := 139 + 17 * n + 1) (j := 139 + 17 * m + 1) (by omega)]
/-- the carts row 0 .. row (k - 1) come to their targets, one after the other -/
def mvN (row : Nat → Nat) (tg : Nat → Int32) : Nat → (Nat → Int32) → Nat → Int32
  | 0, S => S
  | k + 1, S => sp_enter (mvN row tg k S) (row k) (tg k)
theorem mvN_sw (row : Nat → Nat) (tg : Nat → Int32) (m : Nat) (w : Int32) (hw : w < 0 ∨ w.toNatClampNeg < 64) : ∀ (k : Nat) (S : Nat → Int32), (∀ j, j < k → row j ≠ m ∧ (tg j < 0 ∨ (tg j).toNatClampNeg < 64)) → mvN row tg k (sp_enter S m w) = sp_enter (mvN row tg k S) m w
  | 0, S, _ => rfl
  | k + 1, S, h => by
    unfold mvN
    rw [mvN_sw row tg m w hw k S (fun j hj => h j (by omega)), sp_enter_sw _ (Ne.symm (h k (by omega)).1) _ _ hw (h k (by omega)).2]
theorem mvN_un (row : Nat → Nat) (tg : Nat → Int32) {i : Nat} : ∀ (k : Nat) (S : Nat → Int32), (∀ j, j < k → i ≠ 139 + 17 * row j + 1 ∧ i ≠ 139 + 17 * row j + 5) → mvN row tg k S i = S i
  | 0, S, _ => rfl
  | k + 1, S, h => by
    unfold mvN
    rw [sp_enter_un _ _ _ (h k (by omega)).1 (h k (by omega)).2, mvN_un row tg k S (fun j hj => h j (by omega))]
theorem mvN_6 (row : Nat → Nat) (tg : Nat → Int32) (v : Int32) : ∀ (k : Nat) (S : Nat → Int32), (∀ j, j < k → tg j < 0 ∨ (tg j).toNatClampNeg < 64) → mvN row tg k (upd S 6 v) = upd (mvN row tg k S) 6 v
  | 0, S, _ => rfl
  | k + 1, S, h => by
    unfold mvN
    rw [mvN_6 row tg v k S (fun j hj => h j (by omega))]
    unfold sp_enter
    have e : ∀ i, i ≠ 6 → upd (mvN row tg k S) 6 v i = mvN row tg k S i := fun i hi => pk_un hi
    rw [e (139 + 17 * row k + 5) (by omega)]
    by_cases h1 : tg k < 0 ∨ mvN row tg k S (11 + (tg k).toNatClampNeg) = 7
    · have h2 : tg k < 0 ∨ upd (mvN row tg k S) 6 v (11 + (tg k).toNatClampNeg) = 7 := h1.elim Or.inl (fun z => Or.inr (by rw [e _ (by omega)]; exact z))
      rw [if_pos h2, if_pos h1, upd_sw (mvN row tg k S) (i := 6) (j := 139 + 17 * row k + 1) (by omega), upd_sw _ (i := 6) (j := 139 + 17 * row k + 5) (by omega)]
    · have h2 : ¬ (tg k < 0 ∨ upd (mvN row tg k S) 6 v (11 + (tg k).toNatClampNeg) = 7) := fun z => h1 (z.elim Or.inl (fun z => Or.inr (by rw [e _ (by omega)] at z; exact z)))
      rw [if_neg h2, if_neg h1, upd_sw (mvN row tg k S) (i := 6) (j := 139 + 17 * row k + 1) (by omega)]
