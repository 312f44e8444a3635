def fw_X11_begins  (q t i : Nat) : Prop := (q = 10 ∧ t = 32)
theorem fr_X11_begins_L2  (rv : Int32) (σ1 : mm_M)  : ∀ (fu : Nat) (v1 : Int32) (σ : mm_M), fx_X11_begins_L2  fu v1 σ = some (rv, σ1) → mm_fr (fw_X11_begins) σ σ1 := by
  intro fu
  induction fu with
  | zero =>
    intro v1 σ hf
    exact mm_no hf
  | succ fu ih =>
    intro v1 σ hf
    rw [fx_X11_begins_L2] at hf
    have F : mm_fr (fw_X11_begins) σ σ := mm_fr.rf
    by_cases c_1 : (207 : Int32) ≤ v1
    · replace hf := mm_it c_1 hf
      exact mm_fr.ret hf F
    · replace hf := mm_if c_1 hf
      obtain ⟨h_2, hf⟩ := mm_gd_ok hf
      obtain ⟨h_3, hf⟩ := mm_gd_ok hf
      obtain ⟨s_4, e_4, hf⟩ := mm_lt_ok hf
      have F := F.trans (mm_fr.a e_4 (fun _ => ⟨rfl, rfl⟩))
      obtain ⟨y_5, e_5, hf⟩ := mm_li_ok hf
      exact F.trans (ih y_5 s_4 hf)
theorem fr_X11_begins  (σ : mm_M) (rv : Int32) (σ1 : mm_M) (hf : fx_X11_begins  σ = some (rv, σ1)) : mm_fr (fw_X11_begins) σ σ1 := by
  rw [fx_X11_begins] at hf
  have F : mm_fr (fw_X11_begins) σ σ := mm_fr.rf
  exact F.trans (fr_X11_begins_L2 rv σ1 mm_FU (0 : Int32) σ hf)
def fw_X11_in (x0 : Int32) (x1 : Int32) (x2 : Int32) (q t i : Nat) : Prop := False
theorem fr_X11_in (x0 : Int32) (x1 : Int32) (x2 : Int32) (σ : mm_M) (rv : Int32) (σ1 : mm_M) (hf : fx_X11_in x0 x1 x2 σ = some (rv, σ1)) : σ1 = σ := by
  refine mm_fr.none (W := (fw_X11_in x0 x1 x2)) (fun _ _ _ h => h) ?_
  rw [fx_X11_in] at hf
  have F : mm_fr (fw_X11_in x0 x1 x2) σ σ := mm_fr.rf
  by_cases c_1 : x0 < x1
  · replace hf := mm_it c_1 hf
    exact mm_fr.ret hf F
  · replace hf := mm_if c_1 hf
    by_cases c_2 : x2 < x0
    · replace hf := mm_it c_2 hf
      exact mm_fr.ret hf F
    · replace hf := mm_if c_2 hf
      exact mm_fr.ret hf F
def fw_X11_isCell (x0 : Int32) (q t i : Nat) : Prop := False
theorem fr_X11_isCell (x0 : Int32) (σ : mm_M) (rv : Int32) (σ1 : mm_M) (hf : fx_X11_isCell x0 σ = some (rv, σ1)) : σ1 = σ := by
  refine mm_fr.none (W := (fw_X11_isCell x0)) (fun _ _ _ h => h) ?_
  rw [fx_X11_isCell] at hf
  have F : mm_fr (fw_X11_isCell x0) σ σ := mm_fr.rf
  obtain ⟨r_1, s_1, e_1, hf⟩ := mm_bd_ok hf
  have F := F.trans (mm_fr.eq (fr_X11_in x0 (0 : Int32) (63 : Int32) σ r_1 s_1 e_1))
  obtain ⟨h_2, hf⟩ := mm_gd_ok hf
  exact mm_fr.ret hf F
def fw_X11_of (x1 : Int32) (x2 : Int32) (q t i : Nat) : Prop := False
theorem fr_X11_of (x1 : Int32) (x2 : Int32) (σ : mm_M) (rv : Int32) (σ1 : mm_M) (hf : fx_X11_of x1 x2 σ = some (rv, σ1)) : σ1 = σ := by
  refine mm_fr.none (W := (fw_X11_of x1 x2)) (fun _ _ _ h => h) ?_
  rw [fx_X11_of] at hf
  have F : mm_fr (fw_X11_of x1 x2) σ σ := mm_fr.rf
  obtain ⟨h_1, hf⟩ := mm_gd_ok hf
  exact mm_fr.ret hf F
def fw_X11_cartOn (x1 : Int32) (q t i : Nat) : Prop := False
theorem fr_X11_cartOn_J29 (x1 : Int32) (rv : Int32) (σ1 : mm_M) (k4 : Int32 → Int32 → mm_M → mm_R) (hk4 : ∀ (v2 : Int32) (v3 : Int32) (σ : mm_M), k4 v2 v3 σ = some (rv, σ1) → mm_fr (fw_X11_cartOn x1) σ σ1) : ∀ (v3 : Int32) (w0 : Int32) (σ : mm_M), fx_X11_cartOn_J29 x1 k4 v3 w0 σ = some (rv, σ1) → mm_fr (fw_X11_cartOn x1) σ σ1 := by
  intro v3 w0 σ hf
  rw [fx_X11_cartOn_J29] at hf
  have F : mm_fr (fw_X11_cartOn x1) σ σ := mm_fr.rf
  obtain ⟨y_4, e_4, hf⟩ := mm_li_ok hf
  exact F.trans (hk4 w0 y_4 σ hf)
theorem fr_X11_cartOn_L4 (x1 : Int32) (rv : Int32) (σ1 : mm_M)  : ∀ (fu : Nat) (v2 : Int32) (v3 : Int32) (σ : mm_M), fx_X11_cartOn_L4 x1 fu v2 v3 σ = some (rv, σ1) → mm_fr (fw_X11_cartOn x1) σ σ1 := by
  intro fu
  induction fu with
  | zero =>
    intro v2 v3 σ hf
    exact mm_no hf
  | succ fu ih =>
    intro v2 v3 σ hf
    rw [fx_X11_cartOn_L4] at hf
    have F : mm_fr (fw_X11_cartOn x1) σ σ := mm_fr.rf
    by_cases c_1 : (σ 10 31 0 (0 : Int32).toNatClampNeg) ≤ v3
    · replace hf := mm_it c_1 hf
      exact mm_fr.ret hf F
    · replace hf := mm_if c_1 hf
      obtain ⟨r_2, s_2, e_2, hf⟩ := mm_bd_ok hf
      have F := F.trans (mm_fr.eq (fr_X11_of v3 (1 : Int32) σ r_2 s_2 e_2))
      by_cases c_3 : r_2 = x1
      · replace hf := mm_it c_3 hf
        exact F.trans (fr_X11_cartOn_J29 x1 rv σ1 (fun z0 z1 z => fx_X11_cartOn_L4 x1 fu z0 z1 z) ih v3 v3 s_2 hf)
      · replace hf := mm_if c_3 hf
        exact F.trans (fr_X11_cartOn_J29 x1 rv σ1 (fun z0 z1 z => fx_X11_cartOn_L4 x1 fu z0 z1 z) ih v3 v2 s_2 hf)
theorem fr_X11_cartOn (x1 : Int32) (σ : mm_M) (rv : Int32) (σ1 : mm_M) (hf : fx_X11_cartOn x1 σ = some (rv, σ1)) : σ1 = σ := by
  refine mm_fr.none (W := (fw_X11_cartOn x1)) (fun _ _ _ h => h) ?_
  rw [fx_X11_cartOn] at hf
  have F : mm_fr (fw_X11_cartOn x1) σ σ := mm_fr.rf
  exact F.trans (fr_X11_cartOn_L4 x1 rv σ1 mm_FU (-1 : Int32) (0 : Int32) σ hf)
def fw_X11_kinds (x1 : Int32) (x2 : Int32) (q t i : Nat) : Prop := (q = 10 ∧ t = 31)
theorem fr_X11_kinds_J37 (x1 : Int32) (x2 : Int32) (rv : Int32) (σ1 : mm_M)  : ∀ (σ : mm_M), fx_X11_kinds_J37 x1 x2  σ = some (rv, σ1) → mm_fr (fw_X11_kinds x1 x2) σ σ1 := by
  intro  σ hf
  rw [fx_X11_kinds_J37] at hf
  have F : mm_fr (fw_X11_kinds x1 x2) σ σ := mm_fr.rf
  obtain ⟨h_8, hf⟩ := mm_gd_ok hf
  obtain ⟨y_9, e_9, hf⟩ := mm_li_ok hf
  obtain ⟨h_10, hf⟩ := mm_gd_ok hf
  obtain ⟨s_11, e_11, hf⟩ := mm_lt_ok hf
  have F := F.trans (mm_fr.a e_11 (fun _ => ⟨rfl, rfl⟩))
  exact mm_fr.ret hf F
theorem fr_X11_kinds (x1 : Int32) (x2 : Int32) (σ : mm_M) (rv : Int32) (σ1 : mm_M) (hf : fx_X11_kinds x1 x2 σ = some (rv, σ1)) : mm_fr (fw_X11_kinds x1 x2) σ σ1 := by
  rw [fx_X11_kinds] at hf
  have F : mm_fr (fw_X11_kinds x1 x2) σ σ := mm_fr.rf
  obtain ⟨r_1, s_1, e_1, hf⟩ := mm_bd_ok hf
  have F := F.trans (mm_fr.eq (fr_X11_isCell x1 σ r_1 s_1 e_1))
  by_cases c_2 : r_1 = (0 : Int32)
  · replace hf := mm_it c_2 hf
    exact mm_fr.ret hf F
  · replace hf := mm_if c_2 hf
    obtain ⟨r_3, s_3, e_3, hf⟩ := mm_bd_ok hf
    have F := F.trans (mm_fr.eq (fr_X11_in x2 (0 : Int32) (8 : Int32) s_1 r_3 s_3 e_3))
    by_cases c_4 : r_3 = (0 : Int32)
    · replace hf := mm_it c_4 hf
      exact mm_fr.ret hf F
    · replace hf := mm_if c_4 hf
      by_cases c_5 : x2 = (7 : Int32)
      · replace hf := mm_it c_5 hf
        obtain ⟨r_6, s_6, e_6, hf⟩ := mm_bd_ok hf
        have F := F.trans (mm_fr.eq (fr_X11_cartOn x1 s_3 r_6 s_6 e_6))
        by_cases c_7 : r_6 < (0 : Int32)
        · replace hf := mm_it c_7 hf
          exact F.trans (fr_X11_kinds_J37 x1 x2 rv σ1 s_6 hf)
        · replace hf := mm_if c_7 hf
          exact mm_fr.ret hf F
      · replace hf := mm_if c_5 hf
        exact F.trans (fr_X11_kinds_J37 x1 x2 rv σ1 s_3 hf)
def fw_X11_returns  (q t i : Nat) : Prop := (q = 10 ∧ t = 31)
theorem fr_X11_returns_L2  (rv : Int32) (σ1 : mm_M)  : ∀ (fu : Nat) (v1 : Int32) (σ : mm_M), fx_X11_returns_L2  fu v1 σ = some (rv, σ1) → mm_fr (fw_X11_returns) σ σ1 := by
  intro fu
  induction fu with
  | zero =>
    intro v1 σ hf
    exact mm_no hf
  | succ fu ih =>
    intro v1 σ hf
    rw [fx_X11_returns_L2] at hf
    have F : mm_fr (fw_X11_returns) σ σ := mm_fr.rf
    by_cases c_1 : (207 : Int32) ≤ v1
    · replace hf := mm_it c_1 hf
      exact mm_fr.ret hf F
    · replace hf := mm_if c_1 hf
      obtain ⟨h_2, hf⟩ := mm_gd_ok hf
      obtain ⟨h_3, hf⟩ := mm_gd_ok hf
      obtain ⟨s_4, e_4, hf⟩ := mm_lt_ok hf
      have F := F.trans (mm_fr.a e_4 (fun _ => ⟨rfl, rfl⟩))
      obtain ⟨y_5, e_5, hf⟩ := mm_li_ok hf
      exact F.trans (ih y_5 s_4 hf)
theorem fr_X11_returns  (σ : mm_M) (rv : Int32) (σ1 : mm_M) (hf : fx_X11_returns  σ = some (rv, σ1)) : mm_fr (fw_X11_returns) σ σ1 := by
  rw [fx_X11_returns] at hf
  have F : mm_fr (fw_X11_returns) σ σ := mm_fr.rf
  exact F.trans (fr_X11_returns_L2 rv σ1 mm_FU (0 : Int32) σ hf)
def fw_X11_acted (x1 : Int32) (q t i : Nat) : Prop := (q = 10 ∧ t = 30 ∧ i = 4) ∨ (q = 10 ∧ t = 31) ∨ (q = 10 ∧ t = 34)
theorem fr_X11_acted_L63 (x1 : Int32) (rv : Int32) (σ1 : mm_M)  : ∀ (fu : Nat) (v2 : Int32) (σ : mm_M), fx_X11_acted_L63 x1 fu v2 σ = some (rv, σ1) → mm_fr (fw_X11_acted x1) σ σ1 := by
  intro fu
  induction fu with
  | zero =>
    intro v2 σ hf
    exact mm_no hf
  | succ fu ih =>
    intro v2 σ hf
    rw [fx_X11_acted_L63] at hf
    have F : mm_fr (fw_X11_acted x1) σ σ := mm_fr.rf
    by_cases c_4 : (207 : Int32) ≤ v2
    · replace hf := mm_it c_4 hf
      obtain ⟨s_5, e_5, hf⟩ := mm_lt_ok hf
      have F := F.trans (mm_fr.u e_5 ((Or.inl ⟨rfl, rfl, rfl⟩)))
      exact mm_fr.ret hf F
    · replace hf := mm_if c_4 hf
      obtain ⟨h_6, hf⟩ := mm_gd_ok hf
      obtain ⟨h_7, hf⟩ := mm_gd_ok hf
      obtain ⟨s_8, e_8, hf⟩ := mm_lt_ok hf
      have F := F.trans (mm_fr.a e_8 (fun _ => (Or.inr (Or.inr ⟨rfl, rfl⟩))))
      obtain ⟨y_9, e_9, hf⟩ := mm_li_ok hf
      exact F.trans (ih y_9 s_8 hf)
theorem fr_X11_acted_L22 (x1 : Int32) (rv : Int32) (σ1 : mm_M)  : ∀ (fu : Nat) (v2 : Int32) (σ : mm_M), fx_X11_acted_L22 x1 fu v2 σ = some (rv, σ1) → mm_fr (fw_X11_acted x1) σ σ1 := by
  intro fu
  induction fu with
  | zero =>
    intro v2 σ hf
    exact mm_no hf
  | succ fu ih =>
    intro v2 σ hf
    rw [fx_X11_acted_L22] at hf
    have F : mm_fr (fw_X11_acted x1) σ σ := mm_fr.rf
    by_cases c_10 : (621 : Int32) ≤ v2
    · replace hf := mm_it c_10 hf
      obtain ⟨s_11, e_11, hf⟩ := mm_lt_ok hf
      have F := F.trans (mm_fr.u e_11 ((Or.inl ⟨rfl, rfl, rfl⟩)))
      exact F.trans (fr_X11_acted_L63 x1 rv σ1 mm_FU (0 : Int32) s_11 hf)
    · replace hf := mm_if c_10 hf
      obtain ⟨h_12, hf⟩ := mm_gd_ok hf
      obtain ⟨h_13, hf⟩ := mm_gd_ok hf
      obtain ⟨s_14, e_14, hf⟩ := mm_lt_ok hf
      have F := F.trans (mm_fr.a e_14 (fun _ => (Or.inr (Or.inr ⟨rfl, rfl⟩))))
      obtain ⟨y_15, e_15, hf⟩ := mm_li_ok hf
      exact F.trans (ih y_15 s_14 hf)
theorem fr_X11_acted (x1 : Int32) (σ : mm_M) (rv : Int32) (σ1 : mm_M) (hf : fx_X11_acted x1 σ = some (rv, σ1)) : mm_fr (fw_X11_acted x1) σ σ1 := by
  rw [fx_X11_acted] at hf
  have F : mm_fr (fw_X11_acted x1) σ σ := mm_fr.rf
  by_cases c_1 : (-1000001 : Int32) < x1
  · replace hf := mm_it c_1 hf
    by_cases c_2 : (σ 10 30 0 4) = (4 : Int32)
    · replace hf := mm_it c_2 hf
      exact F.trans (fr_X11_acted_L22 x1 rv σ1 mm_FU (0 : Int32) σ hf)
    · replace hf := mm_if c_2 hf
      exact F.trans (fr_X11_acted_L63 x1 rv σ1 mm_FU (0 : Int32) σ hf)
  · replace hf := mm_if c_1 hf
    obtain ⟨r_3, s_3, e_3, hf⟩ := mm_bd_ok hf
    have F := F.trans ((fr_X11_returns  σ r_3 s_3 e_3).mono (fun q t i h => (fun h => (Or.inr (Or.inl h))) h))
    exact mm_fr.ret hf F
def fw_X11_kind (x1 : Int32) (x2 : Int32) (q t i : Nat) : Prop := (q = 10 ∧ t = 30 ∧ i = 4) ∨ (q = 10 ∧ t = 31) ∨ (q = 10 ∧ t = 32) ∨ (q = 10 ∧ t = 34)
theorem fr_X11_kind (x1 : Int32) (x2 : Int32) (σ : mm_M) (rv : Int32) (σ1 : mm_M) (hf : fx_X11_kind x1 x2 σ = some (rv, σ1)) : mm_fr (fw_X11_kind x1 x2) σ σ1 := by
  rw [fx_X11_kind] at hf
  have F : mm_fr (fw_X11_kind x1 x2) σ σ := mm_fr.rf
  obtain ⟨r_1, s_1, e_1, hf⟩ := mm_bd_ok hf
  have F := F.trans ((fr_X11_begins  σ r_1 s_1 e_1).mono (fun q t i h => (fun h => (Or.inr (Or.inr (Or.inl h)))) h))
  obtain ⟨r_2, s_2, e_2, hf⟩ := mm_bd_ok hf
  have F := F.trans ((fr_X11_kinds x1 x2 s_1 r_2 s_2 e_2).mono (fun q t i h => (fun h => (Or.inr (Or.inl h))) h))
  obtain ⟨r_3, s_3, e_3, hf⟩ := mm_bd_ok hf
  have F := F.trans ((fr_X11_acted r_2 s_2 r_3 s_3 e_3).mono (fun q t i h => (fun h => h.elim (fun h => (Or.inl h)) (fun h => h.elim (fun h => (Or.inr (Or.inl h))) (fun h => (Or.inr (Or.inr (Or.inr h)))))) h))
  exact mm_fr.ret hf F
def fw_X11_next (x0 : Int32) (x1 : Int32) (q t i : Nat) : Prop := False
theorem fr_X11_next_J47 (x0 : Int32) (x1 : Int32) (rv : Int32) (σ1 : mm_M)  : ∀ (v2 : Int32) (w0 : Int32) (w1 : Int32) (σ : mm_M), fx_X11_next_J47 x0 x1 v2 w0 w1 σ = some (rv, σ1) → mm_fr (fw_X11_next x0 x1) σ σ1 := by
  intro v2 w0 w1 σ hf
  rw [fx_X11_next_J47] at hf
  have F : mm_fr (fw_X11_next x0 x1) σ σ := mm_fr.rf
  obtain ⟨y_6, e_6, hf⟩ := mm_li_ok hf
  obtain ⟨r_7, s_7, e_7, hf⟩ := mm_bd_ok hf
  have F := F.trans (mm_fr.eq (fr_X11_in v2 (0 : Int32) (7 : Int32) σ r_7 s_7 e_7))
  by_cases c_8 : r_7 = (0 : Int32)
  · replace hf := mm_it c_8 hf
    exact mm_fr.ret hf F
  · replace hf := mm_if c_8 hf
    obtain ⟨r_9, s_9, e_9, hf⟩ := mm_bd_ok hf
    have F := F.trans (mm_fr.eq (fr_X11_in y_6 (0 : Int32) (7 : Int32) s_7 r_9 s_9 e_9))
    by_cases c_10 : r_9 = (0 : Int32)
    · replace hf := mm_it c_10 hf
      exact mm_fr.ret hf F
    · replace hf := mm_if c_10 hf
      exact mm_fr.ret hf F
theorem fr_X11_next_J23 (x0 : Int32) (x1 : Int32) (rv : Int32) (σ1 : mm_M)  : ∀ (w0 : Int32) (w1 : Int32) (σ : mm_M), fx_X11_next_J23 x0 x1 w0 w1 σ = some (rv, σ1) → mm_fr (fw_X11_next x0 x1) σ σ1 := by
  intro w0 w1 σ hf
  rw [fx_X11_next_J23] at hf
  have F : mm_fr (fw_X11_next x0 x1) σ σ := mm_fr.rf
  obtain ⟨y_3, e_3, hf⟩ := mm_li_ok hf
  by_cases c_4 : x1 = (2 : Int32)
  · replace hf := mm_it c_4 hf
    exact F.trans (fr_X11_next_J47 x0 x1 rv σ1 y_3 (x0 / (8 : Int32)) (1 : Int32) σ hf)
  · replace hf := mm_if c_4 hf
    by_cases c_5 : x1 = (0 : Int32)
    · replace hf := mm_it c_5 hf
      exact F.trans (fr_X11_next_J47 x0 x1 rv σ1 y_3 (x0 / (8 : Int32)) (-1 : Int32) σ hf)
    · replace hf := mm_if c_5 hf
      exact F.trans (fr_X11_next_J47 x0 x1 rv σ1 y_3 (x0 / (8 : Int32)) (0 : Int32) σ hf)
theorem fr_X11_next (x0 : Int32) (x1 : Int32) (σ : mm_M) (rv : Int32) (σ1 : mm_M) (hf : fx_X11_next x0 x1 σ = some (rv, σ1)) : σ1 = σ := by
  refine mm_fr.none (W := (fw_X11_next x0 x1)) (fun _ _ _ h => h) ?_
  rw [fx_X11_next] at hf
  have F : mm_fr (fw_X11_next x0 x1) σ σ := mm_fr.rf
  by_cases c_1 : x1 = (1 : Int32)
  · replace hf := mm_it c_1 hf
    exact F.trans (fr_X11_next_J23 x0 x1 rv σ1 (x0 - x0 / (8 : Int32) * (8 : Int32)) (1 : Int32) σ hf)
  · replace hf := mm_if c_1 hf
    by_cases c_2 : x1 = (3 : Int32)
    · replace hf := mm_it c_2 hf
      exact F.trans (fr_X11_next_J23 x0 x1 rv σ1 (x0 - x0 / (8 : Int32) * (8 : Int32)) (-1 : Int32) σ hf)
    · replace hf := mm_if c_2 hf
      exact F.trans (fr_X11_next_J23 x0 x1 rv σ1 (x0 - x0 / (8 : Int32) * (8 : Int32)) (0 : Int32) σ hf)
def fw_X11_walls (x1 : Int32) (x2 : Int32) (q t i : Nat) : Prop := (q = 10 ∧ t = 31)
theorem fr_X11_walls_J63 (x1 : Int32) (x2 : Int32) (rv : Int32) (σ1 : mm_M)  : ∀ (σ : mm_M), fx_X11_walls_J63 x1 x2  σ = some (rv, σ1) → mm_fr (fw_X11_walls x1 x2) σ σ1 := by
  intro  σ hf
  rw [fx_X11_walls_J63] at hf
  have F : mm_fr (fw_X11_walls x1 x2) σ σ := mm_fr.rf
  obtain ⟨h_13, hf⟩ := mm_gd_ok hf
  exact mm_fr.ret hf F
theorem fr_X11_walls (x1 : Int32) (x2 : Int32) (σ : mm_M) (rv : Int32) (σ1 : mm_M) (hf : fx_X11_walls x1 x2 σ = some (rv, σ1)) : mm_fr (fw_X11_walls x1 x2) σ σ1 := by
  rw [fx_X11_walls] at hf
  have F : mm_fr (fw_X11_walls x1 x2) σ σ := mm_fr.rf
  obtain ⟨r_1, s_1, e_1, hf⟩ := mm_bd_ok hf
  have F := F.trans (mm_fr.eq (fr_X11_isCell x1 σ r_1 s_1 e_1))
  by_cases c_2 : r_1 = (0 : Int32)
  · replace hf := mm_it c_2 hf
    exact mm_fr.ret hf F
  · replace hf := mm_if c_2 hf
    obtain ⟨r_3, s_3, e_3, hf⟩ := mm_bd_ok hf
    have F := F.trans (mm_fr.eq (fr_X11_in x2 (0 : Int32) (3 : Int32) s_1 r_3 s_3 e_3))
    by_cases c_4 : r_3 = (0 : Int32)
    · replace hf := mm_it c_4 hf
      exact mm_fr.ret hf F
    · replace hf := mm_if c_4 hf
      obtain ⟨h_5, hf⟩ := mm_gd_ok hf
      obtain ⟨h_6, hf⟩ := mm_gd_ok hf
      obtain ⟨s_7, e_7, hf⟩ := mm_lt_ok hf
      have F := F.trans (mm_fr.a e_7 (fun _ => ⟨rfl, rfl⟩))
      obtain ⟨r_8, s_8, e_8, hf⟩ := mm_bd_ok hf
      have F := F.trans (mm_fr.eq (fr_X11_next x1 x2 s_7 r_8 s_8 e_8))
      by_cases c_9 : r_8 < (0 : Int32)
      · replace hf := mm_it c_9 hf
        exact F.trans (fr_X11_walls_J63 x1 x2 rv σ1 s_8 hf)
      · replace hf := mm_if c_9 hf
        obtain ⟨h_10, hf⟩ := mm_gd_ok hf
        obtain ⟨h_11, hf⟩ := mm_gd_ok hf
        obtain ⟨s_12, e_12, hf⟩ := mm_lt_ok hf
        have F := F.trans (mm_fr.a e_12 (fun _ => ⟨rfl, rfl⟩))
        exact F.trans (fr_X11_walls_J63 x1 x2 rv σ1 s_12 hf)
def fw_X11_wall (x1 : Int32) (x2 : Int32) (q t i : Nat) : Prop := (q = 10 ∧ t = 30 ∧ i = 4) ∨ (q = 10 ∧ t = 31) ∨ (q = 10 ∧ t = 32) ∨ (q = 10 ∧ t = 34)
theorem fr_X11_wall (x1 : Int32) (x2 : Int32) (σ : mm_M) (rv : Int32) (σ1 : mm_M) (hf : fx_X11_wall x1 x2 σ = some (rv, σ1)) : mm_fr (fw_X11_wall x1 x2) σ σ1 := by
  rw [fx_X11_wall] at hf
  have F : mm_fr (fw_X11_wall x1 x2) σ σ := mm_fr.rf
  obtain ⟨r_1, s_1, e_1, hf⟩ := mm_bd_ok hf
  have F := F.trans ((fr_X11_begins  σ r_1 s_1 e_1).mono (fun q t i h => (fun h => (Or.inr (Or.inr (Or.inl h)))) h))
  obtain ⟨r_2, s_2, e_2, hf⟩ := mm_bd_ok hf
  have F := F.trans ((fr_X11_walls x1 x2 s_1 r_2 s_2 e_2).mono (fun q t i h => (fun h => (Or.inr (Or.inl h))) h))
  obtain ⟨r_3, s_3, e_3, hf⟩ := mm_bd_ok hf
  have F := F.trans ((fr_X11_acted r_2 s_2 r_3 s_3 e_3).mono (fun q t i h => (fun h => h.elim (fun h => (Or.inl h)) (fun h => h.elim (fun h => (Or.inr (Or.inl h))) (fun h => (Or.inr (Or.inr (Or.inr h)))))) h))
  exact mm_fr.ret hf F
def fw_X11_flag (x1 : Int32) (x2 : Int32) (q t i : Nat) : Prop := (q = 10 ∧ t = 30 ∧ i = 4) ∨ (q = 10 ∧ t = 31) ∨ (q = 10 ∧ t = 32) ∨ (q = 10 ∧ t = 34)
theorem fr_X11_flag_J68 (x1 : Int32) (x2 : Int32) (rv : Int32) (σ1 : mm_M)  : ∀ (w1 : Int32) (w2 : Int32) (σ : mm_M), fx_X11_flag_J68 x1 x2 w1 w2 σ = some (rv, σ1) → mm_fr (fw_X11_flag x1 x2) σ σ1 := by
  intro w1 w2 σ hf
  rw [fx_X11_flag_J68] at hf
  have F : mm_fr (fw_X11_flag x1 x2) σ σ := mm_fr.rf
  obtain ⟨h_8, hf⟩ := mm_gd_ok hf
  obtain ⟨s_9, e_9, hf⟩ := mm_lt_ok hf
  have F := F.trans (mm_fr.a e_9 (fun _ => (Or.inr (Or.inl ⟨rfl, rfl⟩))))
  obtain ⟨h_10, hf⟩ := mm_gd_ok hf
  obtain ⟨s_11, e_11, hf⟩ := mm_lt_ok hf
  have F := F.trans (mm_fr.a e_11 (fun _ => (Or.inr (Or.inl ⟨rfl, rfl⟩))))
  obtain ⟨r_12, s_12, e_12, hf⟩ := mm_bd_ok hf
  have F := F.trans ((fr_X11_acted (s_11 10 31 0 (3 : Int32).toNatClampNeg) s_11 r_12 s_12 e_12).mono (fun q t i h => (fun h => h.elim (fun h => (Or.inl h)) (fun h => h.elim (fun h => (Or.inr (Or.inl h))) (fun h => (Or.inr (Or.inr (Or.inr h)))))) h))
  exact mm_fr.ret hf F
theorem fr_X11_flag (x1 : Int32) (x2 : Int32) (σ : mm_M) (rv : Int32) (σ1 : mm_M) (hf : fx_X11_flag x1 x2 σ = some (rv, σ1)) : mm_fr (fw_X11_flag x1 x2) σ σ1 := by
  rw [fx_X11_flag] at hf
  have F : mm_fr (fw_X11_flag x1 x2) σ σ := mm_fr.rf
  obtain ⟨r_1, s_1, e_1, hf⟩ := mm_bd_ok hf
  have F := F.trans ((fr_X11_begins  σ r_1 s_1 e_1).mono (fun q t i h => (fun h => (Or.inr (Or.inr (Or.inl h)))) h))
  obtain ⟨r_2, s_2, e_2, hf⟩ := mm_bd_ok hf
  have F := F.trans (mm_fr.eq (fr_X11_in x1 (0 : Int32) (3 : Int32) s_1 r_2 s_2 e_2))
  by_cases c_3 : r_2 = (0 : Int32)
  · replace hf := mm_it c_3 hf
    exact mm_fr.ret hf F
  · replace hf := mm_if c_3 hf
    obtain ⟨r_4, s_4, e_4, hf⟩ := mm_bd_ok hf
    have F := F.trans (mm_fr.eq (fr_X11_isCell x2 s_2 r_4 s_4 e_4))
    by_cases c_5 : r_4 = (0 : Int32)
    · replace hf := mm_it c_5 hf
      exact mm_fr.ret hf F
    · replace hf := mm_if c_5 hf
      by_cases c_6 : x1 ≤ (s_4 10 31 0 (3 : Int32).toNatClampNeg)
      · replace hf := mm_it c_6 hf
        by_cases c_7 : x1 = (s_4 10 31 0 (3 : Int32).toNatClampNeg)
        · replace hf := mm_it c_7 hf
          exact F.trans (fr_X11_flag_J68 x1 x2 rv σ1 (3 : Int32) ((s_4 10 31 0 (3 : Int32).toNatClampNeg) + (1 : Int32)) s_4 hf)
        · replace hf := mm_if c_7 hf
          exact F.trans (fr_X11_flag_J68 x1 x2 rv σ1 (3 : Int32) (s_4 10 31 0 (3 : Int32).toNatClampNeg) s_4 hf)
      · replace hf := mm_if c_6 hf
        exact mm_fr.ret hf F
def fw_X11_isGood (x1 : Int32) (q t i : Nat) : Prop := False
theorem fr_X11_isGood (x1 : Int32) (σ : mm_M) (rv : Int32) (σ1 : mm_M) (hf : fx_X11_isGood x1 σ = some (rv, σ1)) : σ1 = σ := by
  refine mm_fr.none (W := (fw_X11_isGood x1)) (fun _ _ _ h => h) ?_
  rw [fx_X11_isGood] at hf
  have F : mm_fr (fw_X11_isGood x1) σ σ := mm_fr.rf
  obtain ⟨h_1, hf⟩ := mm_gd_ok hf
  by_cases c_2 : (σ 10 31 0 ((11 : Int32) + x1).toNatClampNeg) = (7 : Int32)
  · replace hf := mm_it c_2 hf
    exact mm_fr.ret hf F
  · replace hf := mm_if c_2 hf
    obtain ⟨r_3, s_3, e_3, hf⟩ := mm_bd_ok hf
    have F := F.trans (mm_fr.eq (fr_X11_cartOn x1 σ r_3 s_3 e_3))
    by_cases c_4 : (0 : Int32) ≤ r_3
    · replace hf := mm_it c_4 hf
      exact mm_fr.ret hf F
    · replace hf := mm_if c_4 hf
      exact mm_fr.ret hf F
def fw_X11_lays (x1 : Int32) (x2 : Int32) (x3 : Int32) (q t i : Nat) : Prop := (q = 10 ∧ t = 31)
theorem fr_X11_lays (x1 : Int32) (x2 : Int32) (x3 : Int32) (σ : mm_M) (rv : Int32) (σ1 : mm_M) (hf : fx_X11_lays x1 x2 x3 σ = some (rv, σ1)) : mm_fr (fw_X11_lays x1 x2 x3) σ σ1 := by
  rw [fx_X11_lays] at hf
  have F : mm_fr (fw_X11_lays x1 x2 x3) σ σ := mm_fr.rf
  obtain ⟨h_1, hf⟩ := mm_gd_ok hf
  obtain ⟨s_2, e_2, hf⟩ := mm_lt_ok hf
  have F := F.trans (mm_fr.a e_2 (fun _ => ⟨rfl, rfl⟩))
  exact mm_fr.ret hf F
def fw_X11_comes (x1 : Int32) (x2 : Int32) (q t i : Nat) : Prop := (q = 10 ∧ t = 31)
theorem fr_X11_comes_L63 (x1 : Int32) (x2 : Int32) (rv : Int32) (σ1 : mm_M)  : ∀ (fu : Nat) (v3 : Int32) (v4 : Int32) (σ : mm_M), fx_X11_comes_L63 x1 x2 fu v3 v4 σ = some (rv, σ1) → mm_fr (fw_X11_comes x1 x2) σ σ1 := by
  intro fu
  induction fu with
  | zero =>
    intro v3 v4 σ hf
    exact mm_no hf
  | succ fu ih =>
    intro v3 v4 σ hf
    rw [fx_X11_comes_L63] at hf
    have F : mm_fr (fw_X11_comes x1 x2) σ σ := mm_fr.rf
    by_cases c_10 : (17 : Int32) ≤ v4
    · replace hf := mm_it c_10 hf
      obtain ⟨r_11, s_11, e_11, hf⟩ := mm_bd_ok hf
      have F := F.trans ((fr_X11_lays v3 (0 : Int32) x1 σ r_11 s_11 e_11).mono (fun q t i h => (fun h => h) h))
      obtain ⟨r_12, s_12, e_12, hf⟩ := mm_bd_ok hf
      have F := F.trans ((fr_X11_lays v3 (1 : Int32) x1 s_11 r_12 s_12 e_12).mono (fun q t i h => (fun h => h) h))
      obtain ⟨r_13, s_13, e_13, hf⟩ := mm_bd_ok hf
      have F := F.trans ((fr_X11_lays v3 (2 : Int32) x2 s_12 r_13 s_13 e_13).mono (fun q t i h => (fun h => h) h))
      exact mm_fr.ret hf F
    · replace hf := mm_if c_10 hf
      obtain ⟨r_14, s_14, e_14, hf⟩ := mm_bd_ok hf
      have F := F.trans ((fr_X11_lays v3 v4 (0 : Int32) σ r_14 s_14 e_14).mono (fun q t i h => (fun h => h) h))
      obtain ⟨y_15, e_15, hf⟩ := mm_li_ok hf
      exact F.trans (ih v3 y_15 s_14 hf)
theorem fr_X11_comes (x1 : Int32) (x2 : Int32) (σ : mm_M) (rv : Int32) (σ1 : mm_M) (hf : fx_X11_comes x1 x2 σ = some (rv, σ1)) : mm_fr (fw_X11_comes x1 x2) σ σ1 := by
  rw [fx_X11_comes] at hf
  have F : mm_fr (fw_X11_comes x1 x2) σ σ := mm_fr.rf
  obtain ⟨r_1, s_1, e_1, hf⟩ := mm_bd_ok hf
  have F := F.trans (mm_fr.eq (fr_X11_isCell x1 σ r_1 s_1 e_1))
  by_cases c_2 : r_1 = (0 : Int32)
  · replace hf := mm_it c_2 hf
    exact mm_fr.ret hf F
  · replace hf := mm_if c_2 hf
    obtain ⟨r_3, s_3, e_3, hf⟩ := mm_bd_ok hf
    have F := F.trans (mm_fr.eq (fr_X11_in x2 (0 : Int32) (3 : Int32) s_1 r_3 s_3 e_3))
    by_cases c_4 : r_3 = (0 : Int32)
    · replace hf := mm_it c_4 hf
      exact mm_fr.ret hf F
    · replace hf := mm_if c_4 hf
      obtain ⟨r_5, s_5, e_5, hf⟩ := mm_bd_ok hf
      have F := F.trans (mm_fr.eq (fr_X11_isGood x1 s_3 r_5 s_5 e_5))
      by_cases c_6 : r_5 = (0 : Int32)
      · replace hf := mm_it c_6 hf
        exact mm_fr.ret hf F
      · replace hf := mm_if c_6 hf
        by_cases c_7 : (s_5 10 31 0 (0 : Int32).toNatClampNeg) = (4 : Int32)
        · replace hf := mm_it c_7 hf
          exact mm_fr.ret hf F
        · replace hf := mm_if c_7 hf
          obtain ⟨y_8, e_8, hf⟩ := mm_li_ok hf
          obtain ⟨s_9, e_9, hf⟩ := mm_lt_ok hf
          have F := F.trans (mm_fr.a e_9 (fun _ => ⟨rfl, rfl⟩))
          exact F.trans (fr_X11_comes_L63 x1 x2 rv σ1 mm_FU y_8 (0 : Int32) s_9 hf)
def fw_X11_cart (x1 : Int32) (x2 : Int32) (q t i : Nat) : Prop := (q = 10 ∧ t = 30 ∧ i = 4) ∨ (q = 10 ∧ t = 31) ∨ (q = 10 ∧ t = 32) ∨ (q = 10 ∧ t = 34)
theorem fr_X11_cart (x1 : Int32) (x2 : Int32) (σ : mm_M) (rv : Int32) (σ1 : mm_M) (hf : fx_X11_cart x1 x2 σ = some (rv, σ1)) : mm_fr (fw_X11_cart x1 x2) σ σ1 := by
  rw [fx_X11_cart] at hf
  have F : mm_fr (fw_X11_cart x1 x2) σ σ := mm_fr.rf
  obtain ⟨r_1, s_1, e_1, hf⟩ := mm_bd_ok hf
  have F := F.trans ((fr_X11_begins  σ r_1 s_1 e_1).mono (fun q t i h => (fun h => (Or.inr (Or.inr (Or.inl h)))) h))
  obtain ⟨r_2, s_2, e_2, hf⟩ := mm_bd_ok hf
  have F := F.trans ((fr_X11_comes x1 x2 s_1 r_2 s_2 e_2).mono (fun q t i h => (fun h => (Or.inr (Or.inl h))) h))
  obtain ⟨r_3, s_3, e_3, hf⟩ := mm_bd_ok hf
  have F := F.trans ((fr_X11_acted r_2 s_2 r_3 s_3 e_3).mono (fun q t i h => (fun h => h.elim (fun h => (Or.inl h)) (fun h => h.elim (fun h => (Or.inr (Or.inl h))) (fun h => (Or.inr (Or.inr (Or.inr h)))))) h))
  exact mm_fr.ret hf F
def fw_X11_isCart (x1 : Int32) (q t i : Nat) : Prop := False
theorem fr_X11_isCart (x1 : Int32) (σ : mm_M) (rv : Int32) (σ1 : mm_M) (hf : fx_X11_isCart x1 σ = some (rv, σ1)) : σ1 = σ := by
  refine mm_fr.none (W := (fw_X11_isCart x1)) (fun _ _ _ h => h) ?_
  rw [fx_X11_isCart] at hf
  have F : mm_fr (fw_X11_isCart x1) σ σ := mm_fr.rf
  obtain ⟨r_1, s_1, e_1, hf⟩ := mm_bd_ok hf
  have F := F.trans (mm_fr.eq (fr_X11_in x1 (0 : Int32) ((σ 10 31 0 (0 : Int32).toNatClampNeg) - (1 : Int32)) σ r_1 s_1 e_1))
  obtain ⟨h_2, hf⟩ := mm_gd_ok hf
  exact mm_fr.ret hf F
def fw_X11_isOut (x1 : Int32) (q t i : Nat) : Prop := False
theorem fr_X11_isOut (x1 : Int32) (σ : mm_M) (rv : Int32) (σ1 : mm_M) (hf : fx_X11_isOut x1 σ = some (rv, σ1)) : σ1 = σ := by
  refine mm_fr.none (W := (fw_X11_isOut x1)) (fun _ _ _ h => h) ?_
  rw [fx_X11_isOut] at hf
  have F : mm_fr (fw_X11_isOut x1) σ σ := mm_fr.rf
  obtain ⟨r_1, s_1, e_1, hf⟩ := mm_bd_ok hf
  have F := F.trans (mm_fr.eq (fr_X11_of x1 (1 : Int32) σ r_1 s_1 e_1))
  by_cases c_2 : (0 : Int32) ≤ r_1
  · replace hf := mm_it c_2 hf
    exact mm_fr.ret hf F
  · replace hf := mm_if c_2 hf
    exact mm_fr.ret hf F
def fw_X11_isLocked (x1 : Int32) (x2 : Int32) (q t i : Nat) : Prop := False
theorem fr_X11_isLocked (x1 : Int32) (x2 : Int32) (σ : mm_M) (rv : Int32) (σ1 : mm_M) (hf : fx_X11_isLocked x1 x2 σ = some (rv, σ1)) : σ1 = σ := by
  refine mm_fr.none (W := (fw_X11_isLocked x1 x2)) (fun _ _ _ h => h) ?_
  rw [fx_X11_isLocked] at hf
  have F : mm_fr (fw_X11_isLocked x1 x2) σ σ := mm_fr.rf
  obtain ⟨r_1, s_1, e_1, hf⟩ := mm_bd_ok hf
  have F := F.trans (mm_fr.eq (fr_X11_of x1 (3 : Int32) σ r_1 s_1 e_1))
  by_cases c_2 : x2 < ((5 : Int32) - (r_1 - (4 : Int32)))
  · replace hf := mm_it c_2 hf
    exact mm_fr.ret hf F
  · replace hf := mm_if c_2 hf
    exact mm_fr.ret hf F
def fw_X11_rank (x1 : Int32) (x2 : Int32) (q t i : Nat) : Prop := False
theorem fr_X11_rank (x1 : Int32) (x2 : Int32) (σ : mm_M) (rv : Int32) (σ1 : mm_M) (hf : fx_X11_rank x1 x2 σ = some (rv, σ1)) : σ1 = σ := by
  refine mm_fr.none (W := (fw_X11_rank x1 x2)) (fun _ _ _ h => h) ?_
  rw [fx_X11_rank] at hf
  have F : mm_fr (fw_X11_rank x1 x2) σ σ := mm_fr.rf
  obtain ⟨r_1, s_1, e_1, hf⟩ := mm_bd_ok hf
  have F := F.trans (mm_fr.eq (fr_X11_of x1 (((7 : Int32) + ((2 : Int32) * x2)) + (1 : Int32)) σ r_1 s_1 e_1))
  exact mm_fr.ret hf F
def fw_X11_withCards (x1 : Int32) (q t i : Nat) : Prop := False
theorem fr_X11_withCards_J26 (x1 : Int32) (rv : Int32) (σ1 : mm_M) (k4 : Int32 → Int32 → mm_M → mm_R) (hk4 : ∀ (v2 : Int32) (v3 : Int32) (σ : mm_M), k4 v2 v3 σ = some (rv, σ1) → mm_fr (fw_X11_withCards x1) σ σ1) : ∀ (v3 : Int32) (w0 : Int32) (w1 : Int32) (σ : mm_M), fx_X11_withCards_J26 x1 k4 v3 w0 w1 σ = some (rv, σ1) → mm_fr (fw_X11_withCards x1) σ σ1 := by
  intro v3 w0 w1 σ hf
  rw [fx_X11_withCards_J26] at hf
  have F : mm_fr (fw_X11_withCards x1) σ σ := mm_fr.rf
  obtain ⟨y_4, e_4, hf⟩ := mm_li_ok hf
  obtain ⟨y_5, e_5, hf⟩ := mm_li_ok hf
  exact F.trans (hk4 y_4 y_5 σ hf)
theorem fr_X11_withCards_L4 (x1 : Int32) (rv : Int32) (σ1 : mm_M)  : ∀ (fu : Nat) (v2 : Int32) (v3 : Int32) (σ : mm_M), fx_X11_withCards_L4 x1 fu v2 v3 σ = some (rv, σ1) → mm_fr (fw_X11_withCards x1) σ σ1 := by
  intro fu
  induction fu with
  | zero =>
    intro v2 v3 σ hf
    exact mm_no hf
  | succ fu ih =>
    intro v2 v3 σ hf
    rw [fx_X11_withCards_L4] at hf
    have F : mm_fr (fw_X11_withCards x1) σ σ := mm_fr.rf
    by_cases c_1 : (5 : Int32) ≤ v3
    · replace hf := mm_it c_1 hf
      exact mm_fr.ret hf F
    · replace hf := mm_if c_1 hf
      obtain ⟨r_2, s_2, e_2, hf⟩ := mm_bd_ok hf
      have F := F.trans (mm_fr.eq (fr_X11_rank x1 v3 σ r_2 s_2 e_2))
      by_cases c_3 : r_2 ≤ (0 : Int32)
      · replace hf := mm_it c_3 hf
        exact F.trans (fr_X11_withCards_J26 x1 rv σ1 (fun z0 z1 z => fx_X11_withCards_L4 x1 fu z0 z1 z) ih v3 v2 (0 : Int32) s_2 hf)
      · replace hf := mm_if c_3 hf
        exact F.trans (fr_X11_withCards_J26 x1 rv σ1 (fun z0 z1 z => fx_X11_withCards_L4 x1 fu z0 z1 z) ih v3 v2 ((1 : Int32) <<< (v3 &&& 31)) s_2 hf)
theorem fr_X11_withCards (x1 : Int32) (σ : mm_M) (rv : Int32) (σ1 : mm_M) (hf : fx_X11_withCards x1 σ = some (rv, σ1)) : σ1 = σ := by
  refine mm_fr.none (W := (fw_X11_withCards x1)) (fun _ _ _ h => h) ?_
  rw [fx_X11_withCards] at hf
  have F : mm_fr (fw_X11_withCards x1) σ σ := mm_fr.rf
  exact F.trans (fr_X11_withCards_L4 x1 rv σ1 mm_FU (0 : Int32) (0 : Int32) σ hf)
def fw_X11_ones (x0 : Int32) (q t i : Nat) : Prop := False
theorem fr_X11_ones_L4 (x0 : Int32) (rv : Int32) (σ1 : mm_M)  : ∀ (fu : Nat) (v1 : Int32) (v2 : Int32) (σ : mm_M), fx_X11_ones_L4 x0 fu v1 v2 σ = some (rv, σ1) → mm_fr (fw_X11_ones x0) σ σ1 := by
  intro fu
  induction fu with
  | zero =>
    intro v1 v2 σ hf
    exact mm_no hf
  | succ fu ih =>
    intro v1 v2 σ hf
    rw [fx_X11_ones_L4] at hf
    have F : mm_fr (fw_X11_ones x0) σ σ := mm_fr.rf
    by_cases c_1 : (5 : Int32) ≤ v2
    · replace hf := mm_it c_1 hf
      exact mm_fr.ret hf F
    · replace hf := mm_if c_1 hf
      obtain ⟨y_2, e_2, hf⟩ := mm_li_ok hf
      obtain ⟨y_3, e_3, hf⟩ := mm_li_ok hf
      exact F.trans (ih y_2 y_3 σ hf)
theorem fr_X11_ones (x0 : Int32) (σ : mm_M) (rv : Int32) (σ1 : mm_M) (hf : fx_X11_ones x0 σ = some (rv, σ1)) : σ1 = σ := by
  refine mm_fr.none (W := (fw_X11_ones x0)) (fun _ _ _ h => h) ?_
  rw [fx_X11_ones] at hf
  have F : mm_fr (fw_X11_ones x0) σ σ := mm_fr.rf
  exact F.trans (fr_X11_ones_L4 x0 rv σ1 mm_FU (0 : Int32) (0 : Int32) σ hf)
def fw_X11_cards (x1 : Int32) (x2 : Int32) (x3 : Int32) (x4 : Int32) (q t i : Nat) : Prop := (q = 10 ∧ t = 31)
theorem fr_X11_cards (x1 : Int32) (x2 : Int32) (x3 : Int32) (x4 : Int32) (σ : mm_M) (rv : Int32) (σ1 : mm_M) (hf : fx_X11_cards x1 x2 x3 x4 σ = some (rv, σ1)) : mm_fr (fw_X11_cards x1 x2 x3 x4) σ σ1 := by
  rw [fx_X11_cards] at hf
  have F : mm_fr (fw_X11_cards x1 x2 x3 x4) σ σ := mm_fr.rf
  obtain ⟨r_1, s_1, e_1, hf⟩ := mm_bd_ok hf
  have F := F.trans (mm_fr.eq (fr_X11_isCart x1 σ r_1 s_1 e_1))
  by_cases c_2 : r_1 = (0 : Int32)
  · replace hf := mm_it c_2 hf
    exact mm_fr.ret hf F
  · replace hf := mm_if c_2 hf
    obtain ⟨r_3, s_3, e_3, hf⟩ := mm_bd_ok hf
    have F := F.trans (mm_fr.eq (fr_X11_in x2 (0 : Int32) (4 : Int32) s_1 r_3 s_3 e_3))
    by_cases c_4 : r_3 = (0 : Int32)
    · replace hf := mm_it c_4 hf
      exact mm_fr.ret hf F
    · replace hf := mm_if c_4 hf
      obtain ⟨r_5, s_5, e_5, hf⟩ := mm_bd_ok hf
      have F := F.trans (mm_fr.eq (fr_X11_in x3 (0 : Int32) (6 : Int32) s_3 r_5 s_5 e_5))
      by_cases c_6 : r_5 = (0 : Int32)
      · replace hf := mm_it c_6 hf
        exact mm_fr.ret hf F
      · replace hf := mm_if c_6 hf
        obtain ⟨r_7, s_7, e_7, hf⟩ := mm_bd_ok hf
        have F := F.trans (mm_fr.eq (fr_X11_in x4 (1 : Int32) (999 : Int32) s_5 r_7 s_7 e_7))
        by_cases c_8 : r_7 = (0 : Int32)
        · replace hf := mm_it c_8 hf
          exact mm_fr.ret hf F
        · replace hf := mm_if c_8 hf
          obtain ⟨r_9, s_9, e_9, hf⟩ := mm_bd_ok hf
          have F := F.trans (mm_fr.eq (fr_X11_isOut x1 s_7 r_9 s_9 e_9))
          by_cases c_10 : r_9 = (0 : Int32)
          · replace hf := mm_it c_10 hf
            obtain ⟨r_11, s_11, e_11, hf⟩ := mm_bd_ok hf
            have F := F.trans (mm_fr.eq (fr_X11_isLocked x1 x2 s_9 r_11 s_11 e_11))
            by_cases c_12 : r_11 = (0 : Int32)
            · replace hf := mm_it c_12 hf
              by_cases c_13 : (s_11 10 31 0 (1 : Int32).toNatClampNeg) ≤ x2
              · replace hf := mm_it c_13 hf
                obtain ⟨r_14, s_14, e_14, hf⟩ := mm_bd_ok hf
                have F := F.trans ((fr_X11_lays x1 ((7 : Int32) + ((2 : Int32) * x2)) x3 s_11 r_14 s_14 e_14).mono (fun q t i h => (fun h => h) h))
                obtain ⟨r_15, s_15, e_15, hf⟩ := mm_bd_ok hf
                have F := F.trans ((fr_X11_lays x1 (((7 : Int32) + ((2 : Int32) * x2)) + (1 : Int32)) x4 s_14 r_15 s_15 e_15).mono (fun q t i h => (fun h => h) h))
                obtain ⟨r_16, s_16, e_16, hf⟩ := mm_bd_ok hf
                have F := F.trans (mm_fr.eq (fr_X11_withCards x1 s_15 r_16 s_16 e_16))
                obtain ⟨r_17, s_17, e_17, hf⟩ := mm_bd_ok hf
                have F := F.trans (mm_fr.eq (fr_X11_ones r_16 s_16 r_17 s_17 e_17))
                exact mm_fr.ret hf F
              · replace hf := mm_if c_13 hf
                exact mm_fr.ret hf F
            · replace hf := mm_if c_12 hf
              exact mm_fr.ret hf F
          · replace hf := mm_if c_10 hf
            exact mm_fr.ret hf F
def fw_X11_card (x1 : Int32) (x2 : Int32) (x3 : Int32) (x4 : Int32) (q t i : Nat) : Prop := (q = 10 ∧ t = 30 ∧ i = 4) ∨ (q = 10 ∧ t = 31) ∨ (q = 10 ∧ t = 32) ∨ (q = 10 ∧ t = 34)
theorem fr_X11_card (x1 : Int32) (x2 : Int32) (x3 : Int32) (x4 : Int32) (σ : mm_M) (rv : Int32) (σ1 : mm_M) (hf : fx_X11_card x1 x2 x3 x4 σ = some (rv, σ1)) : mm_fr (fw_X11_card x1 x2 x3 x4) σ σ1 := by
  rw [fx_X11_card] at hf
  have F : mm_fr (fw_X11_card x1 x2 x3 x4) σ σ := mm_fr.rf
  obtain ⟨r_1, s_1, e_1, hf⟩ := mm_bd_ok hf
  have F := F.trans ((fr_X11_begins  σ r_1 s_1 e_1).mono (fun q t i h => (fun h => (Or.inr (Or.inr (Or.inl h)))) h))
  obtain ⟨r_2, s_2, e_2, hf⟩ := mm_bd_ok hf
  have F := F.trans ((fr_X11_cards x1 x2 x3 x4 s_1 r_2 s_2 e_2).mono (fun q t i h => (fun h => (Or.inr (Or.inl h))) h))
  obtain ⟨r_3, s_3, e_3, hf⟩ := mm_bd_ok hf
  have F := F.trans ((fr_X11_acted r_2 s_2 r_3 s_3 e_3).mono (fun q t i h => (fun h => h.elim (fun h => (Or.inl h)) (fun h => h.elim (fun h => (Or.inr (Or.inl h))) (fun h => (Or.inr (Or.inr (Or.inr h)))))) h))
  exact mm_fr.ret hf F
def fw_X11_damage (x1 : Int32) (x2 : Int32) (q t i : Nat) : Prop := (q = 10 ∧ t = 30 ∧ i = 4) ∨ (q = 10 ∧ t = 31) ∨ (q = 10 ∧ t = 32) ∨ (q = 10 ∧ t = 34)
theorem fr_X11_damage_J66 (x1 : Int32) (x2 : Int32) (rv : Int32) (σ1 : mm_M)  : ∀ (w0 : Int32) (σ : mm_M), fx_X11_damage_J66 x1 x2 w0 σ = some (rv, σ1) → mm_fr (fw_X11_damage x1 x2) σ σ1 := by
  intro w0 σ hf
  rw [fx_X11_damage_J66] at hf
  have F : mm_fr (fw_X11_damage x1 x2) σ σ := mm_fr.rf
  obtain ⟨r_12, s_12, e_12, hf⟩ := mm_bd_ok hf
  have F := F.trans ((fr_X11_lays x1 (3 : Int32) w0 σ r_12 s_12 e_12).mono (fun q t i h => (fun h => (Or.inr (Or.inl h))) h))
  obtain ⟨r_13, s_13, e_13, hf⟩ := mm_bd_ok hf
  have F := F.trans ((fr_X11_acted w0 s_12 r_13 s_13 e_13).mono (fun q t i h => (fun h => h.elim (fun h => (Or.inl h)) (fun h => h.elim (fun h => (Or.inr (Or.inl h))) (fun h => (Or.inr (Or.inr (Or.inr h)))))) h))
  exact mm_fr.ret hf F
theorem fr_X11_damage (x1 : Int32) (x2 : Int32) (σ : mm_M) (rv : Int32) (σ1 : mm_M) (hf : fx_X11_damage x1 x2 σ = some (rv, σ1)) : mm_fr (fw_X11_damage x1 x2) σ σ1 := by
  rw [fx_X11_damage] at hf
  have F : mm_fr (fw_X11_damage x1 x2) σ σ := mm_fr.rf
  obtain ⟨r_1, s_1, e_1, hf⟩ := mm_bd_ok hf
  have F := F.trans ((fr_X11_begins  σ r_1 s_1 e_1).mono (fun q t i h => (fun h => (Or.inr (Or.inr (Or.inl h)))) h))
  obtain ⟨r_2, s_2, e_2, hf⟩ := mm_bd_ok hf
  have F := F.trans (mm_fr.eq (fr_X11_isCart x1 s_1 r_2 s_2 e_2))
  by_cases c_3 : r_2 = (0 : Int32)
  · replace hf := mm_it c_3 hf
    exact mm_fr.ret hf F
  · replace hf := mm_if c_3 hf
    obtain ⟨r_4, s_4, e_4, hf⟩ := mm_bd_ok hf
    have F := F.trans (mm_fr.eq (fr_X11_in x2 (-9 : Int32) (9 : Int32) s_2 r_4 s_4 e_4))
    by_cases c_5 : r_4 = (0 : Int32)
    · replace hf := mm_it c_5 hf
      exact mm_fr.ret hf F
    · replace hf := mm_if c_5 hf
      obtain ⟨r_6, s_6, e_6, hf⟩ := mm_bd_ok hf
      have F := F.trans (mm_fr.eq (fr_X11_isOut x1 s_4 r_6 s_6 e_6))
      by_cases c_7 : r_6 = (0 : Int32)
      · replace hf := mm_it c_7 hf
        obtain ⟨r_8, s_8, e_8, hf⟩ := mm_bd_ok hf
        have F := F.trans (mm_fr.eq (fr_X11_of x1 (3 : Int32) s_6 r_8 s_8 e_8))
        obtain ⟨y_9, e_9, hf⟩ := mm_li_ok hf
        by_cases c_10 : (0 : Int32) ≤ y_9
        · replace hf := mm_it c_10 hf
          by_cases c_11 : y_9 ≤ (9 : Int32)
          · replace hf := mm_it c_11 hf
            exact F.trans (fr_X11_damage_J66 x1 x2 rv σ1 y_9 s_8 hf)
          · replace hf := mm_if c_11 hf
            exact F.trans (fr_X11_damage_J66 x1 x2 rv σ1 (9 : Int32) s_8 hf)
        · replace hf := mm_if c_10 hf
          exact F.trans (fr_X11_damage_J66 x1 x2 rv σ1 (0 : Int32) s_8 hf)
      · replace hf := mm_if c_7 hf
        exact mm_fr.ret hf F
def fw_X11_outs  (q t i : Nat) : Prop := False
theorem fr_X11_outs_L4  (rv : Int32) (σ1 : mm_M)  : ∀ (fu : Nat) (v1 : Int32) (v2 : Int32) (σ : mm_M), fx_X11_outs_L4  fu v1 v2 σ = some (rv, σ1) → mm_fr (fw_X11_outs) σ σ1 := by
  intro fu
  induction fu with
  | zero =>
    intro v1 v2 σ hf
    exact mm_no hf
  | succ fu ih =>
    intro v1 v2 σ hf
    rw [fx_X11_outs_L4] at hf
    have F : mm_fr (fw_X11_outs) σ σ := mm_fr.rf
    by_cases c_1 : (σ 10 31 0 (0 : Int32).toNatClampNeg) ≤ v2
    · replace hf := mm_it c_1 hf
      exact mm_fr.ret hf F
    · replace hf := mm_if c_1 hf
      obtain ⟨r_2, s_2, e_2, hf⟩ := mm_bd_ok hf
      have F := F.trans (mm_fr.eq (fr_X11_of v2 (5 : Int32) σ r_2 s_2 e_2))
      obtain ⟨y_3, e_3, hf⟩ := mm_li_ok hf
      obtain ⟨y_4, e_4, hf⟩ := mm_li_ok hf
      exact F.trans (ih y_3 y_4 s_2 hf)
theorem fr_X11_outs  (σ : mm_M) (rv : Int32) (σ1 : mm_M) (hf : fx_X11_outs  σ = some (rv, σ1)) : σ1 = σ := by
  refine mm_fr.none (W := (fw_X11_outs)) (fun _ _ _ h => h) ?_
  rw [fx_X11_outs] at hf
  have F : mm_fr (fw_X11_outs) σ σ := mm_fr.rf
  exact F.trans (fr_X11_outs_L4 rv σ1 mm_FU (0 : Int32) (0 : Int32) σ hf)
def fw_X11_orders  (q t i : Nat) : Prop := (q = 10 ∧ t = 30 ∧ i = 9) ∨ (q = 10 ∧ t = 37)
theorem fr_X11_orders_J92  (rv : Int32) (σ1 : mm_M) (k14 : Int32 → Int32 → mm_M → mm_R) (hk14 : ∀ (v1 : Int32) (v2 : Int32) (σ : mm_M), k14 v1 v2 σ = some (rv, σ1) → mm_fr (fw_X11_orders) σ σ1) : ∀ (v1 : Int32) (v2 : Int32) (v3 : Int32) (σ : mm_M), fx_X11_orders_J92 k14 v1 v2 v3 σ = some (rv, σ1) → mm_fr (fw_X11_orders) σ σ1 := by
  intro v1 v2 v3 σ hf
  rw [fx_X11_orders_J92] at hf
  have F : mm_fr (fw_X11_orders) σ σ := mm_fr.rf
  obtain ⟨h_20, hf⟩ := mm_gd_ok hf
  obtain ⟨s_21, e_21, hf⟩ := mm_lt_ok hf
  have F := F.trans (mm_fr.a e_21 (fun _ => (Or.inr ⟨rfl, rfl⟩)))
  obtain ⟨s_22, e_22, hf⟩ := mm_lt_ok hf
  have F := F.trans (mm_fr.u e_22 ((Or.inl ⟨rfl, rfl, rfl⟩)))
  obtain ⟨y_23, e_23, hf⟩ := mm_li_ok hf
  exact F.trans (hk14 v1 y_23 s_22 hf)
theorem fr_X11_orders_L46  (rv : Int32) (σ1 : mm_M) (k14 : Int32 → Int32 → mm_M → mm_R) (hk14 : ∀ (v1 : Int32) (v2 : Int32) (σ : mm_M), k14 v1 v2 σ = some (rv, σ1) → mm_fr (fw_X11_orders) σ σ1) : ∀ (fu : Nat) (v1 : Int32) (v2 : Int32) (v3 : Int32) (σ : mm_M), fx_X11_orders_L46 k14 fu v1 v2 v3 σ = some (rv, σ1) → mm_fr (fw_X11_orders) σ σ1 := by
  intro fu
  induction fu with
  | zero =>
    intro v1 v2 v3 σ hf
    exact mm_no hf
  | succ fu ih =>
    intro v1 v2 v3 σ hf
    rw [fx_X11_orders_L46] at hf
    have F : mm_fr (fw_X11_orders) σ σ := mm_fr.rf
    by_cases c_11 : v3 ≤ (0 : Int32)
    · replace hf := mm_it c_11 hf
      exact F.trans (fr_X11_orders_J92 rv σ1 k14 hk14 v1 v2 v3 σ hf)
    · replace hf := mm_if c_11 hf
      obtain ⟨h_12, hf⟩ := mm_gd_ok hf
      obtain ⟨r_13, s_13, e_13, hf⟩ := mm_bd_ok hf
      have F := F.trans (mm_fr.eq (fr_X11_rank (σ 10 37 0 (v3 - (1 : Int32)).toNatClampNeg) v1 σ r_13 s_13 e_13))
      obtain ⟨r_14, s_14, e_14, hf⟩ := mm_bd_ok hf
      have F := F.trans (mm_fr.eq (fr_X11_rank v2 v1 s_13 r_14 s_14 e_14))
      by_cases c_15 : r_14 ≤ r_13
      · replace hf := mm_it c_15 hf
        exact F.trans (fr_X11_orders_J92 rv σ1 k14 hk14 v1 v2 v3 s_14 hf)
      · replace hf := mm_if c_15 hf
        obtain ⟨h_16, hf⟩ := mm_gd_ok hf
        obtain ⟨h_17, hf⟩ := mm_gd_ok hf
        obtain ⟨s_18, e_18, hf⟩ := mm_lt_ok hf
        have F := F.trans (mm_fr.a e_18 (fun _ => (Or.inr ⟨rfl, rfl⟩)))
        obtain ⟨y_19, e_19, hf⟩ := mm_li_ok hf
        exact F.trans (ih v1 v2 y_19 s_18 hf)
theorem fr_X11_orders_L14  (rv : Int32) (σ1 : mm_M)  : ∀ (fu : Nat) (v1 : Int32) (v2 : Int32) (σ : mm_M), fx_X11_orders_L14  fu v1 v2 σ = some (rv, σ1) → mm_fr (fw_X11_orders) σ σ1 := by
  intro fu
  induction fu with
  | zero =>
    intro v1 v2 σ hf
    exact mm_no hf
  | succ fu ih =>
    intro v1 v2 σ hf
    rw [fx_X11_orders_L14] at hf
    have F : mm_fr (fw_X11_orders) σ σ := mm_fr.rf
    by_cases c_3 : (σ 10 31 0 (0 : Int32).toNatClampNeg) ≤ v2
    · replace hf := mm_it c_3 hf
      exact mm_fr.ret hf F
    · replace hf := mm_if c_3 hf
      obtain ⟨r_4, s_4, e_4, hf⟩ := mm_bd_ok hf
      have F := F.trans (mm_fr.eq (fr_X11_isOut v2 σ r_4 s_4 e_4))
      by_cases c_5 : r_4 = (0 : Int32)
      · replace hf := mm_it c_5 hf
        obtain ⟨r_7, s_7, e_7, hf⟩ := mm_bd_ok hf
        have F := F.trans (mm_fr.eq (fr_X11_rank v2 v1 s_4 r_7 s_7 e_7))
        by_cases c_8 : r_7 ≤ (0 : Int32)
        · replace hf := mm_it c_8 hf
          obtain ⟨y_9, e_9, hf⟩ := mm_li_ok hf
          exact F.trans (ih v1 y_9 s_7 hf)
        · replace hf := mm_if c_8 hf
          obtain ⟨y_10, e_10, hf⟩ := mm_li_ok hf
          exact F.trans (fr_X11_orders_L46 rv σ1 (fun z0 z1 z => fx_X11_orders_L14 fu z0 z1 z) ih mm_FU v1 v2 y_10 s_7 hf)
      · replace hf := mm_if c_5 hf
        obtain ⟨y_6, e_6, hf⟩ := mm_li_ok hf
        exact F.trans (ih v1 y_6 s_4 hf)
theorem fr_X11_orders  (σ : mm_M) (rv : Int32) (σ1 : mm_M) (hf : fx_X11_orders  σ = some (rv, σ1)) : mm_fr (fw_X11_orders) σ σ1 := by
  rw [fx_X11_orders] at hf
  have F : mm_fr (fw_X11_orders) σ σ := mm_fr.rf
  obtain ⟨s_1, e_1, hf⟩ := mm_lt_ok hf
  have F := F.trans (mm_fr.u e_1 ((Or.inl ⟨rfl, rfl, rfl⟩)))
  obtain ⟨y_2, e_2, hf⟩ := mm_li_ok hf
  exact F.trans (fr_X11_orders_L14 rv σ1 mm_FU y_2 (0 : Int32) s_1 hf)
def fw_X11_isOnBelt (x1 : Int32) (q t i : Nat) : Prop := False
theorem fr_X11_isOnBelt (x1 : Int32) (σ : mm_M) (rv : Int32) (σ1 : mm_M) (hf : fx_X11_isOnBelt x1 σ = some (rv, σ1)) : σ1 = σ := by
  refine mm_fr.none (W := (fw_X11_isOnBelt x1)) (fun _ _ _ h => h) ?_
  rw [fx_X11_isOnBelt] at hf
  have F : mm_fr (fw_X11_isOnBelt x1) σ σ := mm_fr.rf
  obtain ⟨r_1, s_1, e_1, hf⟩ := mm_bd_ok hf
  have F := F.trans (mm_fr.eq (fr_X11_isOut x1 σ r_1 s_1 e_1))
  by_cases c_2 : r_1 = (0 : Int32)
  · replace hf := mm_it c_2 hf
    obtain ⟨r_3, s_3, e_3, hf⟩ := mm_bd_ok hf
    have F := F.trans (mm_fr.eq (fr_X11_of x1 (1 : Int32) s_1 r_3 s_3 e_3))
    obtain ⟨h_4, hf⟩ := mm_gd_ok hf
    obtain ⟨r_5, s_5, e_5, hf⟩ := mm_bd_ok hf
    have F := F.trans (mm_fr.eq (fr_X11_in (s_3 10 31 0 ((11 : Int32) + r_3).toNatClampNeg) (1 : Int32) (4 : Int32) s_3 r_5 s_5 e_5))
    by_cases c_6 : r_5 = (0 : Int32)
    · replace hf := mm_it c_6 hf
      exact mm_fr.ret hf F
    · replace hf := mm_if c_6 hf
      exact mm_fr.ret hf F
  · replace hf := mm_if c_2 hf
    exact mm_fr.ret hf F
def fw_X11_isWall (x1 : Int32) (x2 : Int32) (q t i : Nat) : Prop := False
theorem fr_X11_isWall (x1 : Int32) (x2 : Int32) (σ : mm_M) (rv : Int32) (σ1 : mm_M) (hf : fx_X11_isWall x1 x2 σ = some (rv, σ1)) : σ1 = σ := by
  refine mm_fr.none (W := (fw_X11_isWall x1 x2)) (fun _ _ _ h => h) ?_
  rw [fx_X11_isWall] at hf
  have F : mm_fr (fw_X11_isWall x1 x2) σ σ := mm_fr.rf
  obtain ⟨h_1, hf⟩ := mm_gd_ok hf
  by_cases c_2 : (((σ 10 31 0 ((75 : Int32) + x1).toNatClampNeg) >>> (x2 &&& 31)) &&& (1 : Int32)) = (1 : Int32)
  · replace hf := mm_it c_2 hf
    exact mm_fr.ret hf F
  · replace hf := mm_if c_2 hf
    exact mm_fr.ret hf F
def fw_X11_wants (x1 : Int32) (q t i : Nat) : Prop := False
theorem fr_X11_wants (x1 : Int32) (σ : mm_M) (rv : Int32) (σ1 : mm_M) (hf : fx_X11_wants x1 σ = some (rv, σ1)) : σ1 = σ := by
  refine mm_fr.none (W := (fw_X11_wants x1)) (fun _ _ _ h => h) ?_
  rw [fx_X11_wants] at hf
  have F : mm_fr (fw_X11_wants x1) σ σ := mm_fr.rf
  obtain ⟨r_1, s_1, e_1, hf⟩ := mm_bd_ok hf
  have F := F.trans (mm_fr.eq (fr_X11_isOnBelt x1 σ r_1 s_1 e_1))
  by_cases c_2 : r_1 = (0 : Int32)
  · replace hf := mm_it c_2 hf
    exact mm_fr.ret hf F
  · replace hf := mm_if c_2 hf
    obtain ⟨r_3, s_3, e_3, hf⟩ := mm_bd_ok hf
    have F := F.trans (mm_fr.eq (fr_X11_of x1 (1 : Int32) s_1 r_3 s_3 e_3))
    obtain ⟨r_4, s_4, e_4, hf⟩ := mm_bd_ok hf
    have F := F.trans (mm_fr.eq (fr_X11_of x1 (1 : Int32) s_3 r_4 s_4 e_4))
    obtain ⟨h_5, hf⟩ := mm_gd_ok hf
    obtain ⟨r_6, s_6, e_6, hf⟩ := mm_bd_ok hf
    have F := F.trans (mm_fr.eq (fr_X11_next r_3 ((s_4 10 31 0 ((11 : Int32) + r_4).toNatClampNeg) - (1 : Int32)) s_4 r_6 s_6 e_6))
    exact mm_fr.ret hf F
def fw_X11_more (x1 : Int32) (x2 : Int32) (q t i : Nat) : Prop := (q = 10 ∧ t = 31)
theorem fr_X11_more (x1 : Int32) (x2 : Int32) (σ : mm_M) (rv : Int32) (σ1 : mm_M) (hf : fx_X11_more x1 x2 σ = some (rv, σ1)) : mm_fr (fw_X11_more x1 x2) σ σ1 := by
  rw [fx_X11_more] at hf
  have F : mm_fr (fw_X11_more x1 x2) σ σ := mm_fr.rf
  obtain ⟨h_1, hf⟩ := mm_gd_ok hf
  obtain ⟨h_2, hf⟩ := mm_gd_ok hf
  obtain ⟨s_3, e_3, hf⟩ := mm_lt_ok hf
  have F := F.trans (mm_fr.a e_3 (fun _ => ⟨rfl, rfl⟩))
  exact mm_fr.ret hf F
def fw_X11_goesOut (x1 : Int32) (q t i : Nat) : Prop := (q = 10 ∧ t = 31)
theorem fr_X11_goesOut (x1 : Int32) (σ : mm_M) (rv : Int32) (σ1 : mm_M) (hf : fx_X11_goesOut x1 σ = some (rv, σ1)) : mm_fr (fw_X11_goesOut x1) σ σ1 := by
  rw [fx_X11_goesOut] at hf
  have F : mm_fr (fw_X11_goesOut x1) σ σ := mm_fr.rf
  obtain ⟨r_1, s_1, e_1, hf⟩ := mm_bd_ok hf
  have F := F.trans ((fr_X11_lays x1 (1 : Int32) (-1 : Int32) σ r_1 s_1 e_1).mono (fun q t i h => (fun h => h) h))
  obtain ⟨r_2, s_2, e_2, hf⟩ := mm_bd_ok hf
  have F := F.trans ((fr_X11_more x1 (5 : Int32) s_1 r_2 s_2 e_2).mono (fun q t i h => (fun h => h) h))
  exact mm_fr.ret hf F
def fw_X11_comesTo (x1 : Int32) (x2 : Int32) (q t i : Nat) : Prop := (q = 10 ∧ t = 31)
theorem fr_X11_comesTo_J18 (x1 : Int32) (x2 : Int32) (rv : Int32) (σ1 : mm_M)  : ∀ (σ : mm_M), fx_X11_comesTo_J18 x1 x2  σ = some (rv, σ1) → mm_fr (fw_X11_comesTo x1 x2) σ σ1 := by
  intro  σ hf
  rw [fx_X11_comesTo_J18] at hf
  have F : mm_fr (fw_X11_comesTo x1 x2) σ σ := mm_fr.rf
  obtain ⟨r_5, s_5, e_5, hf⟩ := mm_bd_ok hf
  have F := F.trans ((fr_X11_goesOut x1 σ r_5 s_5 e_5).mono (fun q t i h => (fun h => h) h))
  exact mm_fr.ret hf F
theorem fr_X11_comesTo (x1 : Int32) (x2 : Int32) (σ : mm_M) (rv : Int32) (σ1 : mm_M) (hf : fx_X11_comesTo x1 x2 σ = some (rv, σ1)) : mm_fr (fw_X11_comesTo x1 x2) σ σ1 := by
  rw [fx_X11_comesTo] at hf
  have F : mm_fr (fw_X11_comesTo x1 x2) σ σ := mm_fr.rf
  by_cases c_1 : x2 < (0 : Int32)
  · replace hf := mm_it c_1 hf
    exact F.trans (fr_X11_comesTo_J18 x1 x2 rv σ1 σ hf)
  · replace hf := mm_if c_1 hf
    obtain ⟨h_2, hf⟩ := mm_gd_ok hf
    by_cases c_3 : (σ 10 31 0 ((11 : Int32) + x2).toNatClampNeg) = (7 : Int32)
    · replace hf := mm_it c_3 hf
      exact F.trans (fr_X11_comesTo_J18 x1 x2 rv σ1 σ hf)
    · replace hf := mm_if c_3 hf
      obtain ⟨r_4, s_4, e_4, hf⟩ := mm_bd_ok hf
      have F := F.trans ((fr_X11_lays x1 (1 : Int32) x2 σ r_4 s_4 e_4).mono (fun q t i h => (fun h => h) h))
      exact mm_fr.ret hf F
def fw_X11_isInTheWay (x1 : Int32) (x2 : Int32) (x3 : Int32) (q t i : Nat) : Prop := False
theorem fr_X11_isInTheWay_J61 (x1 : Int32) (x2 : Int32) (x3 : Int32) (rv : Int32) (σ1 : mm_M)  : ∀ (v4 : Int32) (w0 : Int32) (σ : mm_M), fx_X11_isInTheWay_J61 x1 x2 x3 v4 w0 σ = some (rv, σ1) → mm_fr (fw_X11_isInTheWay x1 x2 x3) σ σ1 := by
  intro v4 w0 σ hf
  rw [fx_X11_isInTheWay_J61] at hf
  have F : mm_fr (fw_X11_isInTheWay x1 x2 x3) σ σ := mm_fr.rf
  by_cases c_12 : w0 = (0 : Int32)
  · replace hf := mm_it c_12 hf
    obtain ⟨r_13, s_13, e_13, hf⟩ := mm_bd_ok hf
    have F := F.trans (mm_fr.eq (fr_X11_wants x2 σ r_13 s_13 e_13))
    by_cases c_14 : r_13 = v4
    · replace hf := mm_it c_14 hf
      exact mm_fr.ret hf F
    · replace hf := mm_if c_14 hf
      exact mm_fr.ret hf F
  · replace hf := mm_if c_12 hf
    exact mm_fr.ret hf F
theorem fr_X11_isInTheWay_J60 (x1 : Int32) (x2 : Int32) (x3 : Int32) (rv : Int32) (σ1 : mm_M)  : ∀ (v4 : Int32) (σ : mm_M), fx_X11_isInTheWay_J60 x1 x2 x3 v4 σ = some (rv, σ1) → mm_fr (fw_X11_isInTheWay x1 x2 x3) σ σ1 := by
  intro v4 σ hf
  rw [fx_X11_isInTheWay_J60] at hf
  have F : mm_fr (fw_X11_isInTheWay x1 x2 x3) σ σ := mm_fr.rf
  exact F.trans (fr_X11_isInTheWay_J61 x1 x2 x3 rv σ1 v4 (0 : Int32) σ hf)
theorem fr_X11_isInTheWay (x1 : Int32) (x2 : Int32) (x3 : Int32) (σ : mm_M) (rv : Int32) (σ1 : mm_M) (hf : fx_X11_isInTheWay x1 x2 x3 σ = some (rv, σ1)) : σ1 = σ := by
  refine mm_fr.none (W := (fw_X11_isInTheWay x1 x2 x3)) (fun _ _ _ h => h) ?_
  rw [fx_X11_isInTheWay] at hf
  have F : mm_fr (fw_X11_isInTheWay x1 x2 x3) σ σ := mm_fr.rf
  obtain ⟨r_1, s_1, e_1, hf⟩ := mm_bd_ok hf
  have F := F.trans (mm_fr.eq (fr_X11_wants x1 σ r_1 s_1 e_1))
  by_cases c_2 : x2 = x1
  · replace hf := mm_it c_2 hf
    exact mm_fr.ret hf F
  · replace hf := mm_if c_2 hf
    by_cases c_3 : r_1 < (0 : Int32)
    · replace hf := mm_it c_3 hf
      exact mm_fr.ret hf F
    · replace hf := mm_if c_3 hf
      obtain ⟨r_4, s_4, e_4, hf⟩ := mm_bd_ok hf
      have F := F.trans (mm_fr.eq (fr_X11_isOut x2 s_1 r_4 s_4 e_4))
      by_cases c_5 : r_4 = (0 : Int32)
      · replace hf := mm_it c_5 hf
        obtain ⟨r_6, s_6, e_6, hf⟩ := mm_bd_ok hf
        have F := F.trans (mm_fr.eq (fr_X11_of x2 (1 : Int32) s_4 r_6 s_6 e_6))
        by_cases c_7 : r_6 = r_1
        · replace hf := mm_it c_7 hf
          by_cases c_8 : x3 = (0 : Int32)
          · replace hf := mm_it c_8 hf
            exact F.trans (fr_X11_isInTheWay_J61 x1 x2 x3 rv σ1 r_1 (1 : Int32) s_6 hf)
          · replace hf := mm_if c_8 hf
            obtain ⟨r_9, s_9, e_9, hf⟩ := mm_bd_ok hf
            have F := F.trans (mm_fr.eq (fr_X11_wants x2 s_6 r_9 s_9 e_9))
            obtain ⟨r_10, s_10, e_10, hf⟩ := mm_bd_ok hf
            have F := F.trans (mm_fr.eq (fr_X11_of x1 (1 : Int32) s_9 r_10 s_10 e_10))
            by_cases c_11 : r_9 = r_10
            · replace hf := mm_it c_11 hf
              exact F.trans (fr_X11_isInTheWay_J61 x1 x2 x3 rv σ1 r_1 (1 : Int32) s_10 hf)
            · replace hf := mm_if c_11 hf
              exact F.trans (fr_X11_isInTheWay_J60 x1 x2 x3 rv σ1 r_1 s_10 hf)
        · replace hf := mm_if c_7 hf
          exact F.trans (fr_X11_isInTheWay_J60 x1 x2 x3 rv σ1 r_1 s_6 hf)
      · replace hf := mm_if c_5 hf
        exact mm_fr.ret hf F
def fw_X11_stays (x1 : Int32) (q t i : Nat) : Prop := False
theorem fr_X11_stays_J38 (x1 : Int32) (rv : Int32) (σ1 : mm_M) (k4 : Int32 → Int32 → mm_M → mm_R) (hk4 : ∀ (v2 : Int32) (v3 : Int32) (σ : mm_M), k4 v2 v3 σ = some (rv, σ1) → mm_fr (fw_X11_stays x1) σ σ1) : ∀ (v3 : Int32) (w0 : Int32) (σ : mm_M), fx_X11_stays_J38 x1 k4 v3 w0 σ = some (rv, σ1) → mm_fr (fw_X11_stays x1) σ σ1 := by
  intro v3 w0 σ hf
  rw [fx_X11_stays_J38] at hf
  have F : mm_fr (fw_X11_stays x1) σ σ := mm_fr.rf
  obtain ⟨y_7, e_7, hf⟩ := mm_li_ok hf
  exact F.trans (hk4 w0 y_7 σ hf)
theorem fr_X11_stays_L4 (x1 : Int32) (rv : Int32) (σ1 : mm_M)  : ∀ (fu : Nat) (v2 : Int32) (v3 : Int32) (σ : mm_M), fx_X11_stays_L4 x1 fu v2 v3 σ = some (rv, σ1) → mm_fr (fw_X11_stays x1) σ σ1 := by
  intro fu
  induction fu with
  | zero =>
    intro v2 v3 σ hf
    exact mm_no hf
  | succ fu ih =>
    intro v2 v3 σ hf
    rw [fx_X11_stays_L4] at hf
    have F : mm_fr (fw_X11_stays x1) σ σ := mm_fr.rf
    by_cases c_1 : (σ 10 31 0 (0 : Int32).toNatClampNeg) ≤ v3
    · replace hf := mm_it c_1 hf
      obtain ⟨h_2, hf⟩ := mm_gd_ok hf
      exact mm_fr.ret hf F
    · replace hf := mm_if c_1 hf
      by_cases c_3 : v2 = (0 : Int32)
      · replace hf := mm_it c_3 hf
        obtain ⟨h_4, hf⟩ := mm_gd_ok hf
        obtain ⟨r_5, s_5, e_5, hf⟩ := mm_bd_ok hf
        have F := F.trans (mm_fr.eq (fr_X11_isInTheWay x1 v3 (σ 10 38 0 v3.toNatClampNeg) σ r_5 s_5 e_5))
        by_cases c_6 : r_5 = (0 : Int32)
        · replace hf := mm_it c_6 hf
          exact F.trans (fr_X11_stays_J38 x1 rv σ1 (fun z0 z1 z => fx_X11_stays_L4 x1 fu z0 z1 z) ih v3 (0 : Int32) s_5 hf)
        · replace hf := mm_if c_6 hf
          exact F.trans (fr_X11_stays_J38 x1 rv σ1 (fun z0 z1 z => fx_X11_stays_L4 x1 fu z0 z1 z) ih v3 (1 : Int32) s_5 hf)
      · replace hf := mm_if c_3 hf
        exact F.trans (fr_X11_stays_J38 x1 rv σ1 (fun z0 z1 z => fx_X11_stays_L4 x1 fu z0 z1 z) ih v3 (1 : Int32) σ hf)
theorem fr_X11_stays (x1 : Int32) (σ : mm_M) (rv : Int32) (σ1 : mm_M) (hf : fx_X11_stays x1 σ = some (rv, σ1)) : σ1 = σ := by
  refine mm_fr.none (W := (fw_X11_stays x1)) (fun _ _ _ h => h) ?_
  rw [fx_X11_stays] at hf
  have F : mm_fr (fw_X11_stays x1) σ σ := mm_fr.rf
  exact F.trans (fr_X11_stays_L4 x1 rv σ1 mm_FU (0 : Int32) (0 : Int32) σ hf)
def fw_X11_belts  (q t i : Nat) : Prop := (q = 10 ∧ t = 31) ∨ (q = 10 ∧ t = 38) ∨ (q = 10 ∧ t = 39)
theorem fr_X11_belts_J59  (rv : Int32) (σ1 : mm_M) (k2 : Int32 → mm_M → mm_R) (hk2 : ∀ (v1 : Int32) (σ : mm_M), k2 v1 σ = some (rv, σ1) → mm_fr (fw_X11_belts) σ σ1) : ∀ (v1 : Int32) (w1 : Int32) (w2 : Int32) (σ : mm_M), fx_X11_belts_J59 k2 v1 w1 w2 σ = some (rv, σ1) → mm_fr (fw_X11_belts) σ σ1 := by
  intro v1 w1 w2 σ hf
  rw [fx_X11_belts_J59] at hf
  have F : mm_fr (fw_X11_belts) σ σ := mm_fr.rf
  obtain ⟨h_10, hf⟩ := mm_gd_ok hf
  obtain ⟨h_11, hf⟩ := mm_gd_ok hf
  obtain ⟨s_12, e_12, hf⟩ := mm_lt_ok hf
  have F := F.trans (mm_fr.a e_12 (fun _ => (Or.inr (Or.inl ⟨rfl, rfl⟩))))
  obtain ⟨r_13, s_13, e_13, hf⟩ := mm_bd_ok hf
  have F := F.trans (mm_fr.eq (fr_X11_wants v1 s_12 r_13 s_13 e_13))
  obtain ⟨h_14, hf⟩ := mm_gd_ok hf
  obtain ⟨s_15, e_15, hf⟩ := mm_lt_ok hf
  have F := F.trans (mm_fr.a e_15 (fun _ => (Or.inr (Or.inr ⟨rfl, rfl⟩))))
  obtain ⟨y_16, e_16, hf⟩ := mm_li_ok hf
  exact F.trans (hk2 y_16 s_15 hf)
theorem fr_X11_belts_J58  (rv : Int32) (σ1 : mm_M) (k2 : Int32 → mm_M → mm_R) (hk2 : ∀ (v1 : Int32) (σ : mm_M), k2 v1 σ = some (rv, σ1) → mm_fr (fw_X11_belts) σ σ1) : ∀ (v1 : Int32) (w1 : Int32) (σ : mm_M), fx_X11_belts_J58 k2 v1 w1 σ = some (rv, σ1) → mm_fr (fw_X11_belts) σ σ1 := by
  intro v1 w1 σ hf
  rw [fx_X11_belts_J58] at hf
  have F : mm_fr (fw_X11_belts) σ σ := mm_fr.rf
  exact F.trans (fr_X11_belts_J59 rv σ1 k2 hk2 v1 w1 (0 : Int32) σ hf)
theorem fr_X11_belts_L87  (rv : Int32) (σ1 : mm_M) (k79 : Int32 → mm_M → mm_R) (hk79 : ∀ (v1 : Int32) (σ : mm_M), k79 v1 σ = some (rv, σ1) → mm_fr (fw_X11_belts) σ σ1) : ∀ (fu : Nat) (v1 : Int32) (v2 : Int32) (σ : mm_M), fx_X11_belts_L87 k79 fu v1 v2 σ = some (rv, σ1) → mm_fr (fw_X11_belts) σ σ1 := by
  intro fu
  induction fu with
  | zero =>
    intro v1 v2 σ hf
    exact mm_no hf
  | succ fu ih =>
    intro v1 v2 σ hf
    rw [fx_X11_belts_L87] at hf
    have F : mm_fr (fw_X11_belts) σ σ := mm_fr.rf
    by_cases c_24 : (σ 10 31 0 (0 : Int32).toNatClampNeg) ≤ v2
    · replace hf := mm_it c_24 hf
      exact F.trans (hk79 v1 σ hf)
    · replace hf := mm_if c_24 hf
      obtain ⟨h_25, hf⟩ := mm_gd_ok hf
      by_cases c_26 : (σ 10 38 0 v2.toNatClampNeg) = (0 : Int32)
      · replace hf := mm_it c_26 hf
        obtain ⟨y_27, e_27, hf⟩ := mm_li_ok hf
        exact F.trans (ih v1 y_27 σ hf)
      · replace hf := mm_if c_26 hf
        obtain ⟨r_28, s_28, e_28, hf⟩ := mm_bd_ok hf
        have F := F.trans (mm_fr.eq (fr_X11_stays v2 σ r_28 s_28 e_28))
        by_cases c_29 : r_28 = (0 : Int32)
        · replace hf := mm_it c_29 hf
          obtain ⟨y_30, e_30, hf⟩ := mm_li_ok hf
          exact F.trans (ih v1 y_30 s_28 hf)
        · replace hf := mm_if c_29 hf
          obtain ⟨h_31, hf⟩ := mm_gd_ok hf
          obtain ⟨s_32, e_32, hf⟩ := mm_lt_ok hf
          have F := F.trans (mm_fr.a e_32 (fun _ => (Or.inr (Or.inl ⟨rfl, rfl⟩))))
          obtain ⟨y_33, e_33, hf⟩ := mm_li_ok hf
          exact F.trans (ih (1 : Int32) y_33 s_32 hf)
theorem fr_X11_belts_L134  (rv : Int32) (σ1 : mm_M)  : ∀ (fu : Nat) (v2 : Int32) (σ : mm_M), fx_X11_belts_L134  fu v2 σ = some (rv, σ1) → mm_fr (fw_X11_belts) σ σ1 := by
  intro fu
  induction fu with
  | zero =>
    intro v2 σ hf
    exact mm_no hf
  | succ fu ih =>
    intro v2 σ hf
    rw [fx_X11_belts_L134] at hf
    have F : mm_fr (fw_X11_belts) σ σ := mm_fr.rf
    by_cases c_17 : (σ 10 31 0 (0 : Int32).toNatClampNeg) ≤ v2
    · replace hf := mm_it c_17 hf
      exact mm_fr.ret hf F
    · replace hf := mm_if c_17 hf
      obtain ⟨h_18, hf⟩ := mm_gd_ok hf
      by_cases c_19 : (σ 10 38 0 v2.toNatClampNeg) = (0 : Int32)
      · replace hf := mm_it c_19 hf
        obtain ⟨y_20, e_20, hf⟩ := mm_li_ok hf
        exact F.trans (ih y_20 σ hf)
      · replace hf := mm_if c_19 hf
        obtain ⟨h_21, hf⟩ := mm_gd_ok hf
        obtain ⟨r_22, s_22, e_22, hf⟩ := mm_bd_ok hf
        have F := F.trans ((fr_X11_comesTo v2 (σ 10 39 0 v2.toNatClampNeg) σ r_22 s_22 e_22).mono (fun q t i h => (fun h => (Or.inl h)) h))
        obtain ⟨y_23, e_23, hf⟩ := mm_li_ok hf
        exact F.trans (ih y_23 s_22 hf)
theorem fr_X11_belts_L79  (rv : Int32) (σ1 : mm_M)  : ∀ (fu : Nat) (v1 : Int32) (σ : mm_M), fx_X11_belts_L79  fu v1 σ = some (rv, σ1) → mm_fr (fw_X11_belts) σ σ1 := by
  intro fu
  induction fu with
  | zero =>
    intro v1 σ hf
    exact mm_no hf
  | succ fu ih =>
    intro v1 σ hf
    rw [fx_X11_belts_L79] at hf
    have F : mm_fr (fw_X11_belts) σ σ := mm_fr.rf
    by_cases c_9 : v1 = (0 : Int32)
    · replace hf := mm_it c_9 hf
      exact F.trans (fr_X11_belts_L134 rv σ1 mm_FU (0 : Int32) σ hf)
    · replace hf := mm_if c_9 hf
      exact F.trans (fr_X11_belts_L87 rv σ1 (fun z0 z => fx_X11_belts_L79 fu z0 z) ih mm_FU (0 : Int32) (0 : Int32) σ hf)
theorem fr_X11_belts_L2  (rv : Int32) (σ1 : mm_M)  : ∀ (fu : Nat) (v1 : Int32) (σ : mm_M), fx_X11_belts_L2  fu v1 σ = some (rv, σ1) → mm_fr (fw_X11_belts) σ σ1 := by
  intro fu
  induction fu with
  | zero =>
    intro v1 σ hf
    exact mm_no hf
  | succ fu ih =>
    intro v1 σ hf
    rw [fx_X11_belts_L2] at hf
    have F : mm_fr (fw_X11_belts) σ σ := mm_fr.rf
    by_cases c_1 : (σ 10 31 0 (0 : Int32).toNatClampNeg) ≤ v1
    · replace hf := mm_it c_1 hf
      exact F.trans (fr_X11_belts_L79 rv σ1 mm_FU (1 : Int32) σ hf)
    · replace hf := mm_if c_1 hf
      obtain ⟨r_2, s_2, e_2, hf⟩ := mm_bd_ok hf
      have F := F.trans (mm_fr.eq (fr_X11_isOnBelt v1 σ r_2 s_2 e_2))
      by_cases c_3 : r_2 = (0 : Int32)
      · replace hf := mm_it c_3 hf
        exact F.trans (fr_X11_belts_J58 rv σ1 (fun z0 z => fx_X11_belts_L2 fu z0 z) ih v1 v1 s_2 hf)
      · replace hf := mm_if c_3 hf
        obtain ⟨r_4, s_4, e_4, hf⟩ := mm_bd_ok hf
        have F := F.trans (mm_fr.eq (fr_X11_of v1 (1 : Int32) s_2 r_4 s_4 e_4))
        obtain ⟨r_5, s_5, e_5, hf⟩ := mm_bd_ok hf
        have F := F.trans (mm_fr.eq (fr_X11_of v1 (1 : Int32) s_4 r_5 s_5 e_5))
        obtain ⟨h_6, hf⟩ := mm_gd_ok hf
        obtain ⟨r_7, s_7, e_7, hf⟩ := mm_bd_ok hf
        have F := F.trans (mm_fr.eq (fr_X11_isWall r_4 ((s_5 10 31 0 ((11 : Int32) + r_5).toNatClampNeg) - (1 : Int32)) s_5 r_7 s_7 e_7))
        by_cases c_8 : r_7 = (0 : Int32)
        · replace hf := mm_it c_8 hf
          exact F.trans (fr_X11_belts_J59 rv σ1 (fun z0 z => fx_X11_belts_L2 fu z0 z) ih v1 v1 (1 : Int32) s_7 hf)
        · replace hf := mm_if c_8 hf
          exact F.trans (fr_X11_belts_J58 rv σ1 (fun z0 z => fx_X11_belts_L2 fu z0 z) ih v1 v1 s_7 hf)
theorem fr_X11_belts  (σ : mm_M) (rv : Int32) (σ1 : mm_M) (hf : fx_X11_belts  σ = some (rv, σ1)) : mm_fr (fw_X11_belts) σ σ1 := by
  rw [fx_X11_belts] at hf
  have F : mm_fr (fw_X11_belts) σ σ := mm_fr.rf
  exact F.trans (fr_X11_belts_L2 rv σ1 mm_FU (0 : Int32) σ hf)
def fw_X11_turns (x1 : Int32) (x2 : Int32) (q t i : Nat) : Prop := (q = 10 ∧ t = 31)
theorem fr_X11_turns (x1 : Int32) (x2 : Int32) (σ : mm_M) (rv : Int32) (σ1 : mm_M) (hf : fx_X11_turns x1 x2 σ = some (rv, σ1)) : mm_fr (fw_X11_turns x1 x2) σ σ1 := by
  rw [fx_X11_turns] at hf
  have F : mm_fr (fw_X11_turns x1 x2) σ σ := mm_fr.rf
  obtain ⟨r_1, s_1, e_1, hf⟩ := mm_bd_ok hf
  have F := F.trans (mm_fr.eq (fr_X11_of x1 (2 : Int32) σ r_1 s_1 e_1))
  obtain ⟨r_2, s_2, e_2, hf⟩ := mm_bd_ok hf
  have F := F.trans ((fr_X11_lays x1 (2 : Int32) ((r_1 + x2) - (r_1 + x2) / (4 : Int32) * (4 : Int32)) s_1 r_2 s_2 e_2).mono (fun q t i h => (fun h => h) h))
  exact mm_fr.ret hf F
def fw_X11_gears  (q t i : Nat) : Prop := (q = 10 ∧ t = 31)
theorem fr_X11_gears_J61  (rv : Int32) (σ1 : mm_M) (k2 : Int32 → mm_M → mm_R) (hk2 : ∀ (v1 : Int32) (σ : mm_M), k2 v1 σ = some (rv, σ1) → mm_fr (fw_X11_gears) σ σ1) : ∀ (v1 : Int32) (w1 : Int32) (w2 : Int32) (σ : mm_M), fx_X11_gears_J61 k2 v1 w1 w2 σ = some (rv, σ1) → mm_fr (fw_X11_gears) σ σ1 := by
  intro v1 w1 w2 σ hf
  rw [fx_X11_gears_J61] at hf
  have F : mm_fr (fw_X11_gears) σ σ := mm_fr.rf
  obtain ⟨r_8, s_8, e_8, hf⟩ := mm_bd_ok hf
  have F := F.trans ((fr_X11_turns w1 w2 σ r_8 s_8 e_8).mono (fun q t i h => (fun h => h) h))
  obtain ⟨y_9, e_9, hf⟩ := mm_li_ok hf
  exact F.trans (hk2 y_9 s_8 hf)
theorem fr_X11_gears_J38  (rv : Int32) (σ1 : mm_M) (k2 : Int32 → mm_M → mm_R) (hk2 : ∀ (v1 : Int32) (σ : mm_M), k2 v1 σ = some (rv, σ1) → mm_fr (fw_X11_gears) σ σ1) : ∀ (v1 : Int32) (w0 : Int32) (σ : mm_M), fx_X11_gears_J38 k2 v1 w0 σ = some (rv, σ1) → mm_fr (fw_X11_gears) σ σ1 := by
  intro v1 w0 σ hf
  rw [fx_X11_gears_J38] at hf
  have F : mm_fr (fw_X11_gears) σ σ := mm_fr.rf
  by_cases c_6 : w0 = (5 : Int32)
  · replace hf := mm_it c_6 hf
    exact F.trans (fr_X11_gears_J61 rv σ1 k2 hk2 v1 v1 (3 : Int32) σ hf)
  · replace hf := mm_if c_6 hf
    by_cases c_7 : w0 = (6 : Int32)
    · replace hf := mm_it c_7 hf
      exact F.trans (fr_X11_gears_J61 rv σ1 k2 hk2 v1 v1 (1 : Int32) σ hf)
    · replace hf := mm_if c_7 hf
      exact F.trans (fr_X11_gears_J61 rv σ1 k2 hk2 v1 v1 (0 : Int32) σ hf)
theorem fr_X11_gears_L2  (rv : Int32) (σ1 : mm_M)  : ∀ (fu : Nat) (v1 : Int32) (σ : mm_M), fx_X11_gears_L2  fu v1 σ = some (rv, σ1) → mm_fr (fw_X11_gears) σ σ1 := by
  intro fu
  induction fu with
  | zero =>
    intro v1 σ hf
    exact mm_no hf
  | succ fu ih =>
    intro v1 σ hf
    rw [fx_X11_gears_L2] at hf
    have F : mm_fr (fw_X11_gears) σ σ := mm_fr.rf
    by_cases c_1 : (σ 10 31 0 (0 : Int32).toNatClampNeg) ≤ v1
    · replace hf := mm_it c_1 hf
      exact mm_fr.ret hf F
    · replace hf := mm_if c_1 hf
      obtain ⟨r_2, s_2, e_2, hf⟩ := mm_bd_ok hf
      have F := F.trans (mm_fr.eq (fr_X11_isOut v1 σ r_2 s_2 e_2))
      by_cases c_3 : r_2 = (0 : Int32)
      · replace hf := mm_it c_3 hf
        obtain ⟨r_4, s_4, e_4, hf⟩ := mm_bd_ok hf
        have F := F.trans (mm_fr.eq (fr_X11_of v1 (1 : Int32) s_2 r_4 s_4 e_4))
        obtain ⟨h_5, hf⟩ := mm_gd_ok hf
        exact F.trans (fr_X11_gears_J38 rv σ1 (fun z0 z => fx_X11_gears_L2 fu z0 z) ih v1 (s_4 10 31 0 ((11 : Int32) + r_4).toNatClampNeg) s_4 hf)
      · replace hf := mm_if c_3 hf
        exact F.trans (fr_X11_gears_J38 rv σ1 (fun z0 z => fx_X11_gears_L2 fu z0 z) ih v1 (0 : Int32) s_2 hf)
theorem fr_X11_gears  (σ : mm_M) (rv : Int32) (σ1 : mm_M) (hf : fx_X11_gears  σ = some (rv, σ1)) : mm_fr (fw_X11_gears) σ σ1 := by
  rw [fx_X11_gears] at hf
  have F : mm_fr (fw_X11_gears) σ σ := mm_fr.rf
  exact F.trans (fr_X11_gears_L2 rv σ1 mm_FU (0 : Int32) σ hf)
def fw_X11_nextFlag (x1 : Int32) (q t i : Nat) : Prop := False
theorem fr_X11_nextFlag (x1 : Int32) (σ : mm_M) (rv : Int32) (σ1 : mm_M) (hf : fx_X11_nextFlag x1 σ = some (rv, σ1)) : σ1 = σ := by
  refine mm_fr.none (W := (fw_X11_nextFlag x1)) (fun _ _ _ h => h) ?_
  rw [fx_X11_nextFlag] at hf
  have F : mm_fr (fw_X11_nextFlag x1) σ σ := mm_fr.rf
  obtain ⟨r_1, s_1, e_1, hf⟩ := mm_bd_ok hf
  have F := F.trans (mm_fr.eq (fr_X11_of x1 (4 : Int32) σ r_1 s_1 e_1))
  by_cases c_2 : (s_1 10 31 0 (3 : Int32).toNatClampNeg) ≤ r_1
  · replace hf := mm_it c_2 hf
    exact mm_fr.ret hf F
  · replace hf := mm_if c_2 hf
    obtain ⟨r_3, s_3, e_3, hf⟩ := mm_bd_ok hf
    have F := F.trans (mm_fr.eq (fr_X11_of x1 (4 : Int32) s_1 r_3 s_3 e_3))
    obtain ⟨h_4, hf⟩ := mm_gd_ok hf
    exact mm_fr.ret hf F
def fw_X11_touches  (q t i : Nat) : Prop := (q = 10 ∧ t = 31)
theorem fr_X11_touches_J79  (rv : Int32) (σ1 : mm_M) (k2 : Int32 → mm_M → mm_R) (hk2 : ∀ (v1 : Int32) (σ : mm_M), k2 v1 σ = some (rv, σ1) → mm_fr (fw_X11_touches) σ σ1) : ∀ (v1 : Int32) (w1 : Int32) (w2 : Int32) (σ : mm_M), fx_X11_touches_J79 k2 v1 w1 w2 σ = some (rv, σ1) → mm_fr (fw_X11_touches) σ σ1 := by
  intro v1 w1 w2 σ hf
  rw [fx_X11_touches_J79] at hf
  have F : mm_fr (fw_X11_touches) σ σ := mm_fr.rf
  obtain ⟨h_13, hf⟩ := mm_gd_ok hf
  obtain ⟨s_14, e_14, hf⟩ := mm_lt_ok hf
  have F := F.trans (mm_fr.a e_14 (fun _ => ⟨rfl, rfl⟩))
  obtain ⟨y_15, e_15, hf⟩ := mm_li_ok hf
  exact F.trans (hk2 y_15 s_14 hf)
theorem fr_X11_touches_J73  (rv : Int32) (σ1 : mm_M) (k2 : Int32 → mm_M → mm_R) (hk2 : ∀ (v1 : Int32) (σ : mm_M), k2 v1 σ = some (rv, σ1) → mm_fr (fw_X11_touches) σ σ1) : ∀ (v1 : Int32) (w1 : Int32) (σ : mm_M), fx_X11_touches_J73 k2 v1 w1 σ = some (rv, σ1) → mm_fr (fw_X11_touches) σ σ1 := by
  intro v1 w1 σ hf
  rw [fx_X11_touches_J73] at hf
  have F : mm_fr (fw_X11_touches) σ σ := mm_fr.rf
  exact F.trans (fr_X11_touches_J79 rv σ1 k2 hk2 v1 w1 (σ 10 31 0 (4 : Int32).toNatClampNeg) σ hf)
theorem fr_X11_touches_L2  (rv : Int32) (σ1 : mm_M)  : ∀ (fu : Nat) (v1 : Int32) (σ : mm_M), fx_X11_touches_L2  fu v1 σ = some (rv, σ1) → mm_fr (fw_X11_touches) σ σ1 := by
  intro fu
  induction fu with
  | zero =>
    intro v1 σ hf
    exact mm_no hf
  | succ fu ih =>
    intro v1 σ hf
    rw [fx_X11_touches_L2] at hf
    have F : mm_fr (fw_X11_touches) σ σ := mm_fr.rf
    by_cases c_1 : (σ 10 31 0 (0 : Int32).toNatClampNeg) ≤ v1
    · replace hf := mm_it c_1 hf
      exact mm_fr.ret hf F
    · replace hf := mm_if c_1 hf
      obtain ⟨r_2, s_2, e_2, hf⟩ := mm_bd_ok hf
      have F := F.trans (mm_fr.eq (fr_X11_isOut v1 σ r_2 s_2 e_2))
      by_cases c_3 : r_2 = (0 : Int32)
      · replace hf := mm_it c_3 hf
        obtain ⟨r_5, s_5, e_5, hf⟩ := mm_bd_ok hf
        have F := F.trans (mm_fr.eq (fr_X11_nextFlag v1 s_2 r_5 s_5 e_5))
        obtain ⟨r_6, s_6, e_6, hf⟩ := mm_bd_ok hf
        have F := F.trans (mm_fr.eq (fr_X11_of v1 (1 : Int32) s_5 r_6 s_6 e_6))
        by_cases c_7 : r_5 = r_6
        · replace hf := mm_it c_7 hf
          obtain ⟨r_9, s_9, e_9, hf⟩ := mm_bd_ok hf
          have F := F.trans ((fr_X11_more v1 (4 : Int32) s_6 r_9 s_9 e_9).mono (fun q t i h => (fun h => h) h))
          by_cases c_10 : (0 : Int32) ≤ (s_9 10 31 0 (4 : Int32).toNatClampNeg)
          · replace hf := mm_it c_10 hf
            exact F.trans (fr_X11_touches_J73 rv σ1 (fun z0 z => fx_X11_touches_L2 fu z0 z) ih v1 (4 : Int32) s_9 hf)
          · replace hf := mm_if c_10 hf
            obtain ⟨r_11, s_11, e_11, hf⟩ := mm_bd_ok hf
            have F := F.trans (mm_fr.eq (fr_X11_of v1 (4 : Int32) s_9 r_11 s_11 e_11))
            by_cases c_12 : r_11 = (s_11 10 31 0 (3 : Int32).toNatClampNeg)
            · replace hf := mm_it c_12 hf
              exact F.trans (fr_X11_touches_J79 rv σ1 (fun z0 z => fx_X11_touches_L2 fu z0 z) ih v1 (4 : Int32) v1 s_11 hf)
            · replace hf := mm_if c_12 hf
              exact F.trans (fr_X11_touches_J73 rv σ1 (fun z0 z => fx_X11_touches_L2 fu z0 z) ih v1 (4 : Int32) s_11 hf)
        · replace hf := mm_if c_7 hf
          obtain ⟨y_8, e_8, hf⟩ := mm_li_ok hf
          exact F.trans (ih y_8 s_6 hf)
      · replace hf := mm_if c_3 hf
        obtain ⟨y_4, e_4, hf⟩ := mm_li_ok hf
        exact F.trans (ih y_4 s_2 hf)
theorem fr_X11_touches  (σ : mm_M) (rv : Int32) (σ1 : mm_M) (hf : fx_X11_touches  σ = some (rv, σ1)) : mm_fr (fw_X11_touches) σ σ1 := by
  rw [fx_X11_touches] at hf
  have F : mm_fr (fw_X11_touches) σ σ := mm_fr.rf
  exact F.trans (fr_X11_touches_L2 rv σ1 mm_FU (0 : Int32) σ hf)
def fw_X11_empties (x1 : Int32) (x2 : Int32) (q t i : Nat) : Prop := (q = 10 ∧ t = 31)
theorem fr_X11_empties_J20 (x1 : Int32) (x2 : Int32) (rv : Int32) (σ1 : mm_M) (k2 : Int32 → mm_M → mm_R) (hk2 : ∀ (v3 : Int32) (σ : mm_M), k2 v3 σ = some (rv, σ1) → mm_fr (fw_X11_empties x1 x2) σ σ1) : ∀ (v3 : Int32) (σ : mm_M), fx_X11_empties_J20 x1 x2 k2 v3 σ = some (rv, σ1) → mm_fr (fw_X11_empties x1 x2) σ σ1 := by
  intro v3 σ hf
  rw [fx_X11_empties_J20] at hf
  have F : mm_fr (fw_X11_empties x1 x2) σ σ := mm_fr.rf
  obtain ⟨r_6, s_6, e_6, hf⟩ := mm_bd_ok hf
  have F := F.trans ((fr_X11_lays x1 ((7 : Int32) + ((2 : Int32) * v3)) (0 : Int32) σ r_6 s_6 e_6).mono (fun q t i h => (fun h => h) h))
  obtain ⟨r_7, s_7, e_7, hf⟩ := mm_bd_ok hf
  have F := F.trans ((fr_X11_lays x1 (((7 : Int32) + ((2 : Int32) * v3)) + (1 : Int32)) (0 : Int32) s_6 r_7 s_7 e_7).mono (fun q t i h => (fun h => h) h))
  obtain ⟨y_8, e_8, hf⟩ := mm_li_ok hf
  exact F.trans (hk2 y_8 s_7 hf)
theorem fr_X11_empties_L2 (x1 : Int32) (x2 : Int32) (rv : Int32) (σ1 : mm_M)  : ∀ (fu : Nat) (v3 : Int32) (σ : mm_M), fx_X11_empties_L2 x1 x2 fu v3 σ = some (rv, σ1) → mm_fr (fw_X11_empties x1 x2) σ σ1 := by
  intro fu
  induction fu with
  | zero =>
    intro v3 σ hf
    exact mm_no hf
  | succ fu ih =>
    intro v3 σ hf
    rw [fx_X11_empties_L2] at hf
    have F : mm_fr (fw_X11_empties x1 x2) σ σ := mm_fr.rf
    by_cases c_1 : (5 : Int32) ≤ v3
    · replace hf := mm_it c_1 hf
      exact mm_fr.ret hf F
    · replace hf := mm_if c_1 hf
      by_cases c_2 : x2 = (0 : Int32)
      · replace hf := mm_it c_2 hf
        obtain ⟨r_3, s_3, e_3, hf⟩ := mm_bd_ok hf
        have F := F.trans (mm_fr.eq (fr_X11_isLocked x1 v3 σ r_3 s_3 e_3))
        by_cases c_4 : r_3 = (0 : Int32)
        · replace hf := mm_it c_4 hf
          exact F.trans (fr_X11_empties_J20 x1 x2 rv σ1 (fun z0 z => fx_X11_empties_L2 x1 x2 fu z0 z) ih v3 s_3 hf)
        · replace hf := mm_if c_4 hf
          obtain ⟨y_5, e_5, hf⟩ := mm_li_ok hf
          exact F.trans (ih y_5 s_3 hf)
      · replace hf := mm_if c_2 hf
        exact F.trans (fr_X11_empties_J20 x1 x2 rv σ1 (fun z0 z => fx_X11_empties_L2 x1 x2 fu z0 z) ih v3 σ hf)
theorem fr_X11_empties (x1 : Int32) (x2 : Int32) (σ : mm_M) (rv : Int32) (σ1 : mm_M) (hf : fx_X11_empties x1 x2 σ = some (rv, σ1)) : mm_fr (fw_X11_empties x1 x2) σ σ1 := by
  rw [fx_X11_empties] at hf
  have F : mm_fr (fw_X11_empties x1 x2) σ σ := mm_fr.rf
  exact F.trans (fr_X11_empties_L2 x1 x2 rv σ1 mm_FU (0 : Int32) σ hf)
def fw_X11_comesBack (x1 : Int32) (q t i : Nat) : Prop := (q = 10 ∧ t = 31)
theorem fr_X11_comesBack_J51 (x1 : Int32) (rv : Int32) (σ1 : mm_M)  : ∀ (w1 : Int32) (w2 : Int32) (w3 : Int32) (σ : mm_M), fx_X11_comesBack_J51 x1 w1 w2 w3 σ = some (rv, σ1) → mm_fr (fw_X11_comesBack x1) σ σ1 := by
  intro w1 w2 w3 σ hf
  rw [fx_X11_comesBack_J51] at hf
  have F : mm_fr (fw_X11_comesBack x1) σ σ := mm_fr.rf
  obtain ⟨r_9, s_9, e_9, hf⟩ := mm_bd_ok hf
  have F := F.trans ((fr_X11_lays w1 w2 w3 σ r_9 s_9 e_9).mono (fun q t i h => (fun h => h) h))
  obtain ⟨r_10, s_10, e_10, hf⟩ := mm_bd_ok hf
  have F := F.trans ((fr_X11_lays x1 (2 : Int32) (0 : Int32) s_9 r_10 s_10 e_10).mono (fun q t i h => (fun h => h) h))
  obtain ⟨r_11, s_11, e_11, hf⟩ := mm_bd_ok hf
  have F := F.trans ((fr_X11_lays x1 (3 : Int32) (2 : Int32) s_10 r_11 s_11 e_11).mono (fun q t i h => (fun h => h) h))
  obtain ⟨r_12, s_12, e_12, hf⟩ := mm_bd_ok hf
  have F := F.trans ((fr_X11_empties x1 (1 : Int32) s_11 r_12 s_12 e_12).mono (fun q t i h => (fun h => h) h))
  exact mm_fr.ret hf F
theorem fr_X11_comesBack_J37 (x1 : Int32) (rv : Int32) (σ1 : mm_M)  : ∀ (v2 : Int32) (σ : mm_M), fx_X11_comesBack_J37 x1 v2 σ = some (rv, σ1) → mm_fr (fw_X11_comesBack x1) σ σ1 := by
  intro v2 σ hf
  rw [fx_X11_comesBack_J37] at hf
  have F : mm_fr (fw_X11_comesBack x1) σ σ := mm_fr.rf
  by_cases c_4 : v2 = (64 : Int32)
  · replace hf := mm_it c_4 hf
    exact F.trans (fr_X11_comesBack_J51 x1 rv σ1 x1 (1 : Int32) (-1 : Int32) σ hf)
  · replace hf := mm_if c_4 hf
    exact F.trans (fr_X11_comesBack_J51 x1 rv σ1 x1 (1 : Int32) v2 σ hf)
theorem fr_X11_comesBack_L17 (x1 : Int32) (rv : Int32) (σ1 : mm_M)  : ∀ (fu : Nat) (v2 : Int32) (σ : mm_M), fx_X11_comesBack_L17 x1 fu v2 σ = some (rv, σ1) → mm_fr (fw_X11_comesBack x1) σ σ1 := by
  intro fu
  induction fu with
  | zero =>
    intro v2 σ hf
    exact mm_no hf
  | succ fu ih =>
    intro v2 σ hf
    rw [fx_X11_comesBack_L17] at hf
    have F : mm_fr (fw_X11_comesBack x1) σ σ := mm_fr.rf
    by_cases c_5 : (64 : Int32) ≤ v2
    · replace hf := mm_it c_5 hf
      exact F.trans (fr_X11_comesBack_J37 x1 rv σ1 v2 σ hf)
    · replace hf := mm_if c_5 hf
      obtain ⟨r_6, s_6, e_6, hf⟩ := mm_bd_ok hf
      have F := F.trans (mm_fr.eq (fr_X11_isGood v2 σ r_6 s_6 e_6))
      by_cases c_7 : r_6 = (0 : Int32)
      · replace hf := mm_it c_7 hf
        obtain ⟨y_8, e_8, hf⟩ := mm_li_ok hf
        exact F.trans (ih y_8 s_6 hf)
      · replace hf := mm_if c_7 hf
        exact F.trans (fr_X11_comesBack_J37 x1 rv σ1 v2 s_6 hf)
theorem fr_X11_comesBack (x1 : Int32) (σ : mm_M) (rv : Int32) (σ1 : mm_M) (hf : fx_X11_comesBack x1 σ = some (rv, σ1)) : mm_fr (fw_X11_comesBack x1) σ σ1 := by
  rw [fx_X11_comesBack] at hf
  have F : mm_fr (fw_X11_comesBack x1) σ σ := mm_fr.rf
  obtain ⟨r_1, s_1, e_1, hf⟩ := mm_bd_ok hf
  have F := F.trans (mm_fr.eq (fr_X11_of x1 (0 : Int32) σ r_1 s_1 e_1))
  obtain ⟨r_2, s_2, e_2, hf⟩ := mm_bd_ok hf
  have F := F.trans (mm_fr.eq (fr_X11_isGood r_1 s_1 r_2 s_2 e_2))
  by_cases c_3 : r_2 = (0 : Int32)
  · replace hf := mm_it c_3 hf
    exact F.trans (fr_X11_comesBack_L17 x1 rv σ1 mm_FU (0 : Int32) s_2 hf)
  · replace hf := mm_if c_3 hf
    exact F.trans (fr_X11_comesBack_J37 x1 rv σ1 r_1 s_2 hf)
def fw_X11_ends  (q t i : Nat) : Prop := (q = 10 ∧ t = 31)
theorem fr_X11_ends_J72  (rv : Int32) (σ1 : mm_M) (k2 : Int32 → mm_M → mm_R) (hk2 : ∀ (v1 : Int32) (σ : mm_M), k2 v1 σ = some (rv, σ1) → mm_fr (fw_X11_ends) σ σ1) : ∀ (v1 : Int32) (w1 : Int32) (w2 : Int32) (w3 : Int32) (w4 : Int32) (σ : mm_M), fx_X11_ends_J72 k2 v1 w1 w2 w3 w4 σ = some (rv, σ1) → mm_fr (fw_X11_ends) σ σ1 := by
  intro v1 w1 w2 w3 w4 σ hf
  rw [fx_X11_ends_J72] at hf
  have F : mm_fr (fw_X11_ends) σ σ := mm_fr.rf
  obtain ⟨r_19, s_19, e_19, hf⟩ := mm_bd_ok hf
  have F := F.trans ((fr_X11_lays w1 w2 (w3 - w4) σ r_19 s_19 e_19).mono (fun q t i h => (fun h => h) h))
  obtain ⟨r_20, s_20, e_20, hf⟩ := mm_bd_ok hf
  have F := F.trans ((fr_X11_empties v1 (0 : Int32) s_19 r_20 s_20 e_20).mono (fun q t i h => (fun h => h) h))
  obtain ⟨y_21, e_21, hf⟩ := mm_li_ok hf
  exact F.trans (hk2 y_21 s_20 hf)
theorem fr_X11_ends_J53  (rv : Int32) (σ1 : mm_M) (k2 : Int32 → mm_M → mm_R) (hk2 : ∀ (v1 : Int32) (σ : mm_M), k2 v1 σ = some (rv, σ1) → mm_fr (fw_X11_ends) σ σ1) : ∀ (v1 : Int32) (w0 : Int32) (σ : mm_M), fx_X11_ends_J53 k2 v1 w0 σ = some (rv, σ1) → mm_fr (fw_X11_ends) σ σ1 := by
  intro v1 w0 σ hf
  rw [fx_X11_ends_J53] at hf
  have F : mm_fr (fw_X11_ends) σ σ := mm_fr.rf
  obtain ⟨r_17, s_17, e_17, hf⟩ := mm_bd_ok hf
  have F := F.trans (mm_fr.eq (fr_X11_of v1 (3 : Int32) σ r_17 s_17 e_17))
  by_cases c_18 : w0 = (0 : Int32)
  · replace hf := mm_it c_18 hf
    exact F.trans (fr_X11_ends_J72 rv σ1 k2 hk2 v1 v1 (3 : Int32) r_17 (0 : Int32) s_17 hf)
  · replace hf := mm_if c_18 hf
    exact F.trans (fr_X11_ends_J72 rv σ1 k2 hk2 v1 v1 (3 : Int32) r_17 (1 : Int32) s_17 hf)
theorem fr_X11_ends_J52  (rv : Int32) (σ1 : mm_M) (k2 : Int32 → mm_M → mm_R) (hk2 : ∀ (v1 : Int32) (σ : mm_M), k2 v1 σ = some (rv, σ1) → mm_fr (fw_X11_ends) σ σ1) : ∀ (v1 : Int32) (σ : mm_M), fx_X11_ends_J52 k2 v1 σ = some (rv, σ1) → mm_fr (fw_X11_ends) σ σ1 := by
  intro v1 σ hf
  rw [fx_X11_ends_J52] at hf
  have F : mm_fr (fw_X11_ends) σ σ := mm_fr.rf
  exact F.trans (fr_X11_ends_J53 rv σ1 k2 hk2 v1 (0 : Int32) σ hf)
theorem fr_X11_ends_L90  (rv : Int32) (σ1 : mm_M)  : ∀ (fu : Nat) (v1 : Int32) (σ : mm_M), fx_X11_ends_L90  fu v1 σ = some (rv, σ1) → mm_fr (fw_X11_ends) σ σ1 := by
  intro fu
  induction fu with
  | zero =>
    intro v1 σ hf
    exact mm_no hf
  | succ fu ih =>
    intro v1 σ hf
    rw [fx_X11_ends_L90] at hf
    have F : mm_fr (fw_X11_ends) σ σ := mm_fr.rf
    by_cases c_9 : (σ 10 31 0 (0 : Int32).toNatClampNeg) ≤ v1
    · replace hf := mm_it c_9 hf
      obtain ⟨s_10, e_10, hf⟩ := mm_lt_ok hf
      have F := F.trans (mm_fr.a e_10 (fun _ => ⟨rfl, rfl⟩))
      obtain ⟨s_11, e_11, hf⟩ := mm_lt_ok hf
      have F := F.trans (mm_fr.a e_11 (fun _ => ⟨rfl, rfl⟩))
      exact mm_fr.ret hf F
    · replace hf := mm_if c_9 hf
      obtain ⟨r_12, s_12, e_12, hf⟩ := mm_bd_ok hf
      have F := F.trans (mm_fr.eq (fr_X11_isOut v1 σ r_12 s_12 e_12))
      by_cases c_13 : r_12 = (0 : Int32)
      · replace hf := mm_it c_13 hf
        obtain ⟨y_14, e_14, hf⟩ := mm_li_ok hf
        exact F.trans (ih y_14 s_12 hf)
      · replace hf := mm_if c_13 hf
        obtain ⟨r_15, s_15, e_15, hf⟩ := mm_bd_ok hf
        have F := F.trans ((fr_X11_comesBack v1 s_12 r_15 s_15 e_15).mono (fun q t i h => (fun h => h) h))
        obtain ⟨y_16, e_16, hf⟩ := mm_li_ok hf
        exact F.trans (ih y_16 s_15 hf)
theorem fr_X11_ends_L2  (rv : Int32) (σ1 : mm_M)  : ∀ (fu : Nat) (v1 : Int32) (σ : mm_M), fx_X11_ends_L2  fu v1 σ = some (rv, σ1) → mm_fr (fw_X11_ends) σ σ1 := by
  intro fu
  induction fu with
  | zero =>
    intro v1 σ hf
    exact mm_no hf
  | succ fu ih =>
    intro v1 σ hf
    rw [fx_X11_ends_L2] at hf
    have F : mm_fr (fw_X11_ends) σ σ := mm_fr.rf
    by_cases c_1 : (σ 10 31 0 (0 : Int32).toNatClampNeg) ≤ v1
    · replace hf := mm_it c_1 hf
      exact F.trans (fr_X11_ends_L90 rv σ1 mm_FU (0 : Int32) σ hf)
    · replace hf := mm_if c_1 hf
      obtain ⟨r_2, s_2, e_2, hf⟩ := mm_bd_ok hf
      have F := F.trans (mm_fr.eq (fr_X11_isOut v1 σ r_2 s_2 e_2))
      by_cases c_3 : r_2 = (0 : Int32)
      · replace hf := mm_it c_3 hf
        obtain ⟨r_4, s_4, e_4, hf⟩ := mm_bd_ok hf
        have F := F.trans (mm_fr.eq (fr_X11_of v1 (1 : Int32) s_2 r_4 s_4 e_4))
        obtain ⟨h_5, hf⟩ := mm_gd_ok hf
        by_cases c_6 : (s_4 10 31 0 ((11 : Int32) + r_4).toNatClampNeg) = (8 : Int32)
        · replace hf := mm_it c_6 hf
          obtain ⟨r_7, s_7, e_7, hf⟩ := mm_bd_ok hf
          have F := F.trans (mm_fr.eq (fr_X11_of v1 (3 : Int32) s_4 r_7 s_7 e_7))
          by_cases c_8 : r_7 ≤ (0 : Int32)
          · replace hf := mm_it c_8 hf
            exact F.trans (fr_X11_ends_J52 rv σ1 (fun z0 z => fx_X11_ends_L2 fu z0 z) ih v1 s_7 hf)
          · replace hf := mm_if c_8 hf
            exact F.trans (fr_X11_ends_J53 rv σ1 (fun z0 z => fx_X11_ends_L2 fu z0 z) ih v1 (1 : Int32) s_7 hf)
        · replace hf := mm_if c_6 hf
          exact F.trans (fr_X11_ends_J52 rv σ1 (fun z0 z => fx_X11_ends_L2 fu z0 z) ih v1 s_4 hf)
      · replace hf := mm_if c_3 hf
        exact F.trans (fr_X11_ends_J52 rv σ1 (fun z0 z => fx_X11_ends_L2 fu z0 z) ih v1 s_2 hf)
theorem fr_X11_ends  (σ : mm_M) (rv : Int32) (σ1 : mm_M) (hf : fx_X11_ends  σ = some (rv, σ1)) : mm_fr (fw_X11_ends) σ σ1 := by
  rw [fx_X11_ends] at hf
  have F : mm_fr (fw_X11_ends) σ σ := mm_fr.rf
  exact F.trans (fr_X11_ends_L2 rv σ1 mm_FU (0 : Int32) σ hf)
def fw_X11_steps1 (x1 : Int32) (x2 : Int32) (q t i : Nat) : Prop := (q = 10 ∧ t = 31) ∨ (q = 10 ∧ t = 36)
theorem fr_X11_steps1_J133 (x1 : Int32) (x2 : Int32) (rv : Int32) (σ1 : mm_M) (k79 : Int32 → mm_M → mm_R) (hk79 : ∀ (v6 : Int32) (σ : mm_M), k79 v6 σ = some (rv, σ1) → mm_fr (fw_X11_steps1 x1 x2) σ σ1) : ∀ (v6 : Int32) (w1 : Int32) (w2 : Int32) (w3 : Int32) (σ : mm_M), fx_X11_steps1_J133 x1 x2 k79 v6 w1 w2 w3 σ = some (rv, σ1) → mm_fr (fw_X11_steps1 x1 x2) σ σ1 := by
  intro v6 w1 w2 w3 σ hf
  rw [fx_X11_steps1_J133] at hf
  have F : mm_fr (fw_X11_steps1 x1 x2) σ σ := mm_fr.rf
  obtain ⟨h_20, hf⟩ := mm_gd_ok hf
  obtain ⟨s_21, e_21, hf⟩ := mm_lt_ok hf
  have F := F.trans (mm_fr.a e_21 (fun _ => (Or.inl ⟨rfl, rfl⟩)))
  obtain ⟨y_22, e_22, hf⟩ := mm_li_ok hf
  exact F.trans (hk79 y_22 s_21 hf)
theorem fr_X11_steps1_L79 (x1 : Int32) (x2 : Int32) (rv : Int32) (σ1 : mm_M)  : ∀ (fu : Nat) (v6 : Int32) (σ : mm_M), fx_X11_steps1_L79 x1 x2 fu v6 σ = some (rv, σ1) → mm_fr (fw_X11_steps1 x1 x2) σ σ1 := by
  intro fu
  induction fu with
  | zero =>
    intro v6 σ hf
    exact mm_no hf
  | succ fu ih =>
    intro v6 σ hf
    rw [fx_X11_steps1_L79] at hf
    have F : mm_fr (fw_X11_steps1 x1 x2) σ σ := mm_fr.rf
    by_cases c_13 : v6 < (0 : Int32)
    · replace hf := mm_it c_13 hf
      exact mm_fr.ret hf F
    · replace hf := mm_if c_13 hf
      obtain ⟨h_14, hf⟩ := mm_gd_ok hf
      obtain ⟨r_15, s_15, e_15, hf⟩ := mm_bd_ok hf
      have F := F.trans (mm_fr.eq (fr_X11_of (σ 10 36 0 v6.toNatClampNeg) (1 : Int32) σ r_15 s_15 e_15))
      obtain ⟨r_16, s_16, e_16, hf⟩ := mm_bd_ok hf
      have F := F.trans (mm_fr.eq (fr_X11_next r_15 x2 s_15 r_16 s_16 e_16))
      obtain ⟨h_17, hf⟩ := mm_gd_ok hf
      obtain ⟨r_18, s_18, e_18, hf⟩ := mm_bd_ok hf
      have F := F.trans ((fr_X11_comesTo (s_16 10 36 0 v6.toNatClampNeg) r_16 s_16 r_18 s_18 e_18).mono (fun q t i h => (fun h => (Or.inl h)) h))
      by_cases c_19 : v6 ≤ (0 : Int32)
      · replace hf := mm_it c_19 hf
        exact F.trans (fr_X11_steps1_J133 x1 x2 rv σ1 (fun z0 z => fx_X11_steps1_L79 x1 x2 fu z0 z) ih v6 (6 : Int32) (s_18 10 31 0 (6 : Int32).toNatClampNeg) (0 : Int32) s_18 hf)
      · replace hf := mm_if c_19 hf
        exact F.trans (fr_X11_steps1_J133 x1 x2 rv σ1 (fun z0 z => fx_X11_steps1_L79 x1 x2 fu z0 z) ih v6 (6 : Int32) (s_18 10 31 0 (6 : Int32).toNatClampNeg) (1 : Int32) s_18 hf)
theorem fr_X11_steps1_L8 (x1 : Int32) (x2 : Int32) (rv : Int32) (σ1 : mm_M)  : ∀ (fu : Nat) (v3 : Int32) (v4 : Int32) (σ : mm_M), fx_X11_steps1_L8 x1 x2 fu v3 v4 σ = some (rv, σ1) → mm_fr (fw_X11_steps1 x1 x2) σ σ1 := by
  intro fu
  induction fu with
  | zero =>
    intro v3 v4 σ hf
    exact mm_no hf
  | succ fu ih =>
    intro v3 v4 σ hf
    rw [fx_X11_steps1_L8] at hf
    have F : mm_fr (fw_X11_steps1 x1 x2) σ σ := mm_fr.rf
    by_cases c_1 : v4 < (0 : Int32)
    · replace hf := mm_it c_1 hf
      obtain ⟨y_2, e_2, hf⟩ := mm_li_ok hf
      exact F.trans (fr_X11_steps1_L79 x1 x2 rv σ1 mm_FU y_2 σ hf)
    · replace hf := mm_if c_1 hf
      obtain ⟨h_3, hf⟩ := mm_gd_ok hf
      obtain ⟨s_4, e_4, hf⟩ := mm_lt_ok hf
      have F := F.trans (mm_fr.a e_4 (fun _ => (Or.inr ⟨rfl, rfl⟩)))
      obtain ⟨y_5, e_5, hf⟩ := mm_li_ok hf
      obtain ⟨r_6, s_6, e_6, hf⟩ := mm_bd_ok hf
      have F := F.trans (mm_fr.eq (fr_X11_of v4 (1 : Int32) s_4 r_6 s_6 e_6))
      obtain ⟨r_7, s_7, e_7, hf⟩ := mm_bd_ok hf
      have F := F.trans (mm_fr.eq (fr_X11_isWall r_6 x2 s_6 r_7 s_7 e_7))
      by_cases c_8 : r_7 = (0 : Int32)
      · replace hf := mm_it c_8 hf
        obtain ⟨r_9, s_9, e_9, hf⟩ := mm_bd_ok hf
        have F := F.trans (mm_fr.eq (fr_X11_of v4 (1 : Int32) s_7 r_9 s_9 e_9))
        obtain ⟨r_10, s_10, e_10, hf⟩ := mm_bd_ok hf
        have F := F.trans (mm_fr.eq (fr_X11_next r_9 x2 s_9 r_10 s_10 e_10))
        by_cases c_11 : (0 : Int32) ≤ r_10
        · replace hf := mm_it c_11 hf
          obtain ⟨r_12, s_12, e_12, hf⟩ := mm_bd_ok hf
          have F := F.trans (mm_fr.eq (fr_X11_cartOn r_10 s_10 r_12 s_12 e_12))
          exact F.trans (ih y_5 r_12 s_12 hf)
        · replace hf := mm_if c_11 hf
          exact F.trans (ih y_5 (-1 : Int32) s_10 hf)
      · replace hf := mm_if c_8 hf
        exact mm_fr.ret hf F
theorem fr_X11_steps1 (x1 : Int32) (x2 : Int32) (σ : mm_M) (rv : Int32) (σ1 : mm_M) (hf : fx_X11_steps1 x1 x2 σ = some (rv, σ1)) : mm_fr (fw_X11_steps1 x1 x2) σ σ1 := by
  rw [fx_X11_steps1] at hf
  have F : mm_fr (fw_X11_steps1 x1 x2) σ σ := mm_fr.rf
  exact F.trans (fr_X11_steps1_L8 x1 x2 rv σ1 mm_FU (0 : Int32) x1 σ hf)
def fw_X11_drives (x1 : Int32) (x2 : Int32) (x3 : Int32) (q t i : Nat) : Prop := (q = 10 ∧ t = 31) ∨ (q = 10 ∧ t = 36)
theorem fr_X11_drives_J60 (x1 : Int32) (x2 : Int32) (x3 : Int32) (rv : Int32) (σ1 : mm_M)  : ∀ (w1 : Int32) (w2 : Int32) (w3 : Int32) (σ : mm_M), fx_X11_drives_J60 x1 x2 x3 w1 w2 w3 σ = some (rv, σ1) → mm_fr (fw_X11_drives x1 x2 x3) σ σ1 := by
  intro w1 w2 w3 σ hf
  rw [fx_X11_drives_J60] at hf
  have F : mm_fr (fw_X11_drives x1 x2 x3) σ σ := mm_fr.rf
  obtain ⟨r_11, s_11, e_11, hf⟩ := mm_bd_ok hf
  have F := F.trans ((fr_X11_lays w1 w2 w3 σ r_11 s_11 e_11).mono (fun q t i h => (fun h => (Or.inl h)) h))
  exact mm_fr.ret hf F
theorem fr_X11_drives_L3 (x1 : Int32) (x2 : Int32) (x3 : Int32) (rv : Int32) (σ1 : mm_M)  : ∀ (fu : Nat) (v4 : Int32) (σ : mm_M), fx_X11_drives_L3 x1 x2 x3 fu v4 σ = some (rv, σ1) → mm_fr (fw_X11_drives x1 x2 x3) σ σ1 := by
  intro fu
  induction fu with
  | zero =>
    intro v4 σ hf
    exact mm_no hf
  | succ fu ih =>
    intro v4 σ hf
    rw [fx_X11_drives_L3] at hf
    have F : mm_fr (fw_X11_drives x1 x2 x3) σ σ := mm_fr.rf
    by_cases c_1 : x2 ≤ v4
    · replace hf := mm_it c_1 hf
      exact mm_fr.ret hf F
    · replace hf := mm_if c_1 hf
      obtain ⟨r_2, s_2, e_2, hf⟩ := mm_bd_ok hf
      have F := F.trans (mm_fr.eq (fr_X11_isOut x1 σ r_2 s_2 e_2))
      by_cases c_3 : r_2 = (0 : Int32)
      · replace hf := mm_it c_3 hf
        obtain ⟨r_4, s_4, e_4, hf⟩ := mm_bd_ok hf
        have F := F.trans ((fr_X11_steps1 x1 x3 s_2 r_4 s_4 e_4).mono (fun q t i h => (fun h => h.elim (fun h => (Or.inl h)) (fun h => (Or.inr h))) h))
        by_cases c_5 : r_4 = (0 : Int32)
        · replace hf := mm_it c_5 hf
          obtain ⟨r_7, s_7, e_7, hf⟩ := mm_bd_ok hf
          have F := F.trans ((fr_X11_more x1 (6 : Int32) s_4 r_7 s_7 e_7).mono (fun q t i h => (fun h => (Or.inl h)) h))
          obtain ⟨r_8, s_8, e_8, hf⟩ := mm_bd_ok hf
          have F := F.trans (mm_fr.eq (fr_X11_of x1 (3 : Int32) s_7 r_8 s_8 e_8))
          by_cases c_9 : (9 : Int32) ≤ r_8
          · replace hf := mm_it c_9 hf
            exact F.trans (fr_X11_drives_J60 x1 x2 x3 rv σ1 x1 (3 : Int32) (9 : Int32) s_8 hf)
          · replace hf := mm_if c_9 hf
            obtain ⟨r_10, s_10, e_10, hf⟩ := mm_bd_ok hf
            have F := F.trans (mm_fr.eq (fr_X11_of x1 (3 : Int32) s_8 r_10 s_10 e_10))
            exact F.trans (fr_X11_drives_J60 x1 x2 x3 rv σ1 x1 (3 : Int32) (r_10 + (1 : Int32)) s_10 hf)
        · replace hf := mm_if c_5 hf
          obtain ⟨y_6, e_6, hf⟩ := mm_li_ok hf
          exact F.trans (ih y_6 s_4 hf)
      · replace hf := mm_if c_3 hf
        exact mm_fr.ret hf F
theorem fr_X11_drives (x1 : Int32) (x2 : Int32) (x3 : Int32) (σ : mm_M) (rv : Int32) (σ1 : mm_M) (hf : fx_X11_drives x1 x2 x3 σ = some (rv, σ1)) : mm_fr (fw_X11_drives x1 x2 x3) σ σ1 := by
  rw [fx_X11_drives] at hf
  have F : mm_fr (fw_X11_drives x1 x2 x3) σ σ := mm_fr.rf
  exact F.trans (fr_X11_drives_L3 x1 x2 x3 rv σ1 mm_FU (0 : Int32) σ hf)
def fw_X11_does (x1 : Int32) (x2 : Int32) (q t i : Nat) : Prop := (q = 10 ∧ t = 31) ∨ (q = 10 ∧ t = 36)
theorem fr_X11_does_J64 (x1 : Int32) (x2 : Int32) (rv : Int32) (σ1 : mm_M)  : ∀ (w1 : Int32) (w2 : Int32) (σ : mm_M), fx_X11_does_J64 x1 x2 w1 w2 σ = some (rv, σ1) → mm_fr (fw_X11_does x1 x2) σ σ1 := by
  intro w1 w2 σ hf
  rw [fx_X11_does_J64] at hf
  have F : mm_fr (fw_X11_does x1 x2) σ σ := mm_fr.rf
  obtain ⟨r_8, s_8, e_8, hf⟩ := mm_bd_ok hf
  have F := F.trans ((fr_X11_turns w1 w2 σ r_8 s_8 e_8).mono (fun q t i h => (fun h => (Or.inl h)) h))
  exact mm_fr.ret hf F
theorem fr_X11_does (x1 : Int32) (x2 : Int32) (σ : mm_M) (rv : Int32) (σ1 : mm_M) (hf : fx_X11_does x1 x2 σ = some (rv, σ1)) : mm_fr (fw_X11_does x1 x2) σ σ1 := by
  rw [fx_X11_does] at hf
  have F : mm_fr (fw_X11_does x1 x2) σ σ := mm_fr.rf
  obtain ⟨r_1, s_1, e_1, hf⟩ := mm_bd_ok hf
  have F := F.trans (mm_fr.eq (fr_X11_of x1 (2 : Int32) σ r_1 s_1 e_1))
  by_cases c_2 : (3 : Int32) ≤ x2
  · replace hf := mm_it c_2 hf
    by_cases c_3 : x2 = (3 : Int32)
    · replace hf := mm_it c_3 hf
      obtain ⟨r_6, s_6, e_6, hf⟩ := mm_bd_ok hf
      have F := F.trans ((fr_X11_drives x1 (1 : Int32) ((r_1 + (2 : Int32)) - (r_1 + (2 : Int32)) / (4 : Int32) * (4 : Int32)) s_1 r_6 s_6 e_6).mono (fun q t i h => (fun h => h.elim (fun h => (Or.inl h)) (fun h => (Or.inr h))) h))
      exact mm_fr.ret hf F
    · replace hf := mm_if c_3 hf
      by_cases c_4 : x2 = (4 : Int32)
      · replace hf := mm_it c_4 hf
        exact F.trans (fr_X11_does_J64 x1 x2 rv σ1 x1 (3 : Int32) s_1 hf)
      · replace hf := mm_if c_4 hf
        by_cases c_5 : x2 = (5 : Int32)
        · replace hf := mm_it c_5 hf
          exact F.trans (fr_X11_does_J64 x1 x2 rv σ1 x1 (1 : Int32) s_1 hf)
        · replace hf := mm_if c_5 hf
          exact F.trans (fr_X11_does_J64 x1 x2 rv σ1 x1 (2 : Int32) s_1 hf)
  · replace hf := mm_if c_2 hf
    obtain ⟨r_7, s_7, e_7, hf⟩ := mm_bd_ok hf
    have F := F.trans ((fr_X11_drives x1 (x2 + (1 : Int32)) r_1 s_1 r_7 s_7 e_7).mono (fun q t i h => (fun h => h.elim (fun h => (Or.inl h)) (fun h => (Or.inr h))) h))
    exact mm_fr.ret hf F
def fw_X11_passes  (q t i : Nat) : Prop := (q = 10 ∧ t = 30 ∧ i = 9) ∨ (q = 10 ∧ t = 31) ∨ (q = 10 ∧ t = 36) ∨ (q = 10 ∧ t = 37) ∨ (q = 10 ∧ t = 38) ∨ (q = 10 ∧ t = 39)
theorem fr_X11_passes_J117  (rv : Int32) (σ1 : mm_M)  : ∀ (v1 : Int32) (σ : mm_M), fx_X11_passes_J117  v1 σ = some (rv, σ1) → mm_fr (fw_X11_passes) σ σ1 := by
  intro v1 σ hf
  rw [fx_X11_passes_J117] at hf
  have F : mm_fr (fw_X11_passes) σ σ := mm_fr.rf
  obtain ⟨r_21, s_21, e_21, hf⟩ := mm_bd_ok hf
  have F := F.trans (mm_fr.eq (fr_X11_outs  σ r_21 s_21 e_21))
  exact mm_fr.ret hf F
theorem fr_X11_passes_L18  (rv : Int32) (σ1 : mm_M)  : ∀ (fu : Nat) (v1 : Int32) (v2 : Int32) (v3 : Int32) (σ : mm_M), fx_X11_passes_L18  fu v1 v2 v3 σ = some (rv, σ1) → mm_fr (fw_X11_passes) σ σ1 := by
  intro fu
  induction fu with
  | zero =>
    intro v1 v2 v3 σ hf
    exact mm_no hf
  | succ fu ih =>
    intro v1 v2 v3 σ hf
    rw [fx_X11_passes_L18] at hf
    have F : mm_fr (fw_X11_passes) σ σ := mm_fr.rf
    by_cases c_4 : (σ 10 30 0 9) ≤ v3
    · replace hf := mm_it c_4 hf
      obtain ⟨r_5, s_5, e_5, hf⟩ := mm_bd_ok hf
      have F := F.trans ((fr_X11_belts  σ r_5 s_5 e_5).mono (fun q t i h => (fun h => h.elim (fun h => (Or.inr (Or.inl h))) (fun h => h.elim (fun h => (Or.inr (Or.inr (Or.inr (Or.inr (Or.inl h)))))) (fun h => (Or.inr (Or.inr (Or.inr (Or.inr (Or.inr h)))))))) h))
      obtain ⟨r_6, s_6, e_6, hf⟩ := mm_bd_ok hf
      have F := F.trans ((fr_X11_gears  s_5 r_6 s_6 e_6).mono (fun q t i h => (fun h => (Or.inr (Or.inl h))) h))
      obtain ⟨r_7, s_7, e_7, hf⟩ := mm_bd_ok hf
      have F := F.trans ((fr_X11_touches  s_6 r_7 s_7 e_7).mono (fun q t i h => (fun h => (Or.inr (Or.inl h))) h))
      obtain ⟨s_8, e_8, hf⟩ := mm_lt_ok hf
      have F := F.trans (mm_fr.a e_8 (fun _ => (Or.inr (Or.inl ⟨rfl, rfl⟩))))
      obtain ⟨s_9, e_9, hf⟩ := mm_lt_ok hf
      have F := F.trans (mm_fr.a e_9 (fun _ => (Or.inr (Or.inl ⟨rfl, rfl⟩))))
      by_cases c_10 : (s_9 10 31 0 (1 : Int32).toNatClampNeg) = (5 : Int32)
      · replace hf := mm_it c_10 hf
        obtain ⟨r_11, s_11, e_11, hf⟩ := mm_bd_ok hf
        have F := F.trans ((fr_X11_ends  s_9 r_11 s_11 e_11).mono (fun q t i h => (fun h => (Or.inr (Or.inl h))) h))
        exact F.trans (fr_X11_passes_J117 rv σ1 v1 s_11 hf)
      · replace hf := mm_if c_10 hf
        exact F.trans (fr_X11_passes_J117 rv σ1 v1 s_9 hf)
    · replace hf := mm_if c_4 hf
      obtain ⟨h_12, hf⟩ := mm_gd_ok hf
      obtain ⟨r_13, s_13, e_13, hf⟩ := mm_bd_ok hf
      have F := F.trans (mm_fr.eq (fr_X11_isOut (σ 10 37 0 v3.toNatClampNeg) σ r_13 s_13 e_13))
      by_cases c_14 : r_13 = (0 : Int32)
      · replace hf := mm_it c_14 hf
        obtain ⟨h_16, hf⟩ := mm_gd_ok hf
        obtain ⟨h_17, hf⟩ := mm_gd_ok hf
        obtain ⟨r_18, s_18, e_18, hf⟩ := mm_bd_ok hf
        have F := F.trans (mm_fr.eq (fr_X11_of (s_13 10 37 0 v3.toNatClampNeg) ((7 : Int32) + ((2 : Int32) * v2)) s_13 r_18 s_18 e_18))
        obtain ⟨r_19, s_19, e_19, hf⟩ := mm_bd_ok hf
        have F := F.trans ((fr_X11_does (s_13 10 37 0 v3.toNatClampNeg) r_18 s_18 r_19 s_19 e_19).mono (fun q t i h => (fun h => h.elim (fun h => (Or.inr (Or.inl h))) (fun h => (Or.inr (Or.inr (Or.inl h))))) h))
        obtain ⟨y_20, e_20, hf⟩ := mm_li_ok hf
        exact F.trans (ih v1 v2 y_20 s_19 hf)
      · replace hf := mm_if c_14 hf
        obtain ⟨y_15, e_15, hf⟩ := mm_li_ok hf
        exact F.trans (ih v1 v2 y_15 s_13 hf)
theorem fr_X11_passes  (σ : mm_M) (rv : Int32) (σ1 : mm_M) (hf : fx_X11_passes  σ = some (rv, σ1)) : mm_fr (fw_X11_passes) σ σ1 := by
  rw [fx_X11_passes] at hf
  have F : mm_fr (fw_X11_passes) σ σ := mm_fr.rf
  obtain ⟨r_1, s_1, e_1, hf⟩ := mm_bd_ok hf
  have F := F.trans (mm_fr.eq (fr_X11_outs  σ r_1 s_1 e_1))
  obtain ⟨y_2, e_2, hf⟩ := mm_li_ok hf
  obtain ⟨r_3, s_3, e_3, hf⟩ := mm_bd_ok hf
  have F := F.trans ((fr_X11_orders  s_1 r_3 s_3 e_3).mono (fun q t i h => (fun h => h.elim (fun h => (Or.inl h)) (fun h => (Or.inr (Or.inr (Or.inr (Or.inl h)))))) h))
  exact F.trans (fr_X11_passes_L18 rv σ1 mm_FU r_1 y_2 (0 : Int32) s_3 hf)
def fw_X11_phases  (q t i : Nat) : Prop := (q = 10 ∧ t = 30 ∧ i = 9) ∨ (q = 10 ∧ t = 31) ∨ (q = 10 ∧ t = 36) ∨ (q = 10 ∧ t = 37) ∨ (q = 10 ∧ t = 38) ∨ (q = 10 ∧ t = 39)
theorem fr_X11_phases  (σ : mm_M) (rv : Int32) (σ1 : mm_M) (hf : fx_X11_phases  σ = some (rv, σ1)) : mm_fr (fw_X11_phases) σ σ1 := by
  rw [fx_X11_phases] at hf
  have F : mm_fr (fw_X11_phases) σ σ := mm_fr.rf
  by_cases c_1 : (σ 10 31 0 (0 : Int32).toNatClampNeg) = (0 : Int32)
  · replace hf := mm_it c_1 hf
    exact mm_fr.ret hf F
  · replace hf := mm_if c_1 hf
    obtain ⟨r_2, s_2, e_2, hf⟩ := mm_bd_ok hf
    have F := F.trans ((fr_X11_passes  σ r_2 s_2 e_2).mono (fun q t i h => (fun h => h.elim (fun h => (Or.inl h)) (fun h => h.elim (fun h => (Or.inr (Or.inl h))) (fun h => h.elim (fun h => (Or.inr (Or.inr (Or.inl h)))) (fun h => h.elim (fun h => (Or.inr (Or.inr (Or.inr (Or.inl h))))) (fun h => h.elim (fun h => (Or.inr (Or.inr (Or.inr (Or.inr (Or.inl h)))))) (fun h => (Or.inr (Or.inr (Or.inr (Or.inr (Or.inr h))))))))))) h))
    exact mm_fr.ret hf F
def fw_X11_phase  (q t i : Nat) : Prop := (q = 10 ∧ t = 30 ∧ i = 4) ∨ (q = 10 ∧ t = 30 ∧ i = 9) ∨ (q = 10 ∧ t = 31) ∨ (q = 10 ∧ t = 32) ∨ (q = 10 ∧ t = 34) ∨ (q = 10 ∧ t = 36) ∨ (q = 10 ∧ t = 37) ∨ (q = 10 ∧ t = 38) ∨ (q = 10 ∧ t = 39)
theorem fr_X11_phase  (σ : mm_M) (rv : Int32) (σ1 : mm_M) (hf : fx_X11_phase  σ = some (rv, σ1)) : mm_fr (fw_X11_phase) σ σ1 := by
  rw [fx_X11_phase] at hf
  have F : mm_fr (fw_X11_phase) σ σ := mm_fr.rf
  obtain ⟨r_1, s_1, e_1, hf⟩ := mm_bd_ok hf
  have F := F.trans ((fr_X11_begins  σ r_1 s_1 e_1).mono (fun q t i h => (fun h => (Or.inr (Or.inr (Or.inr (Or.inl h))))) h))
  obtain ⟨r_2, s_2, e_2, hf⟩ := mm_bd_ok hf
  have F := F.trans ((fr_X11_phases  s_1 r_2 s_2 e_2).mono (fun q t i h => (fun h => h.elim (fun h => (Or.inr (Or.inl h))) (fun h => h.elim (fun h => (Or.inr (Or.inr (Or.inl h)))) (fun h => h.elim (fun h => (Or.inr (Or.inr (Or.inr (Or.inr (Or.inr (Or.inl h))))))) (fun h => h.elim (fun h => (Or.inr (Or.inr (Or.inr (Or.inr (Or.inr (Or.inr (Or.inl h)))))))) (fun h => h.elim (fun h => (Or.inr (Or.inr (Or.inr (Or.inr (Or.inr (Or.inr (Or.inr (Or.inl h))))))))) (fun h => (Or.inr (Or.inr (Or.inr (Or.inr (Or.inr (Or.inr (Or.inr (Or.inr h)))))))))))))) h))
  obtain ⟨r_3, s_3, e_3, hf⟩ := mm_bd_ok hf
  have F := F.trans ((fr_X11_acted r_2 s_2 r_3 s_3 e_3).mono (fun q t i h => (fun h => h.elim (fun h => (Or.inl h)) (fun h => h.elim (fun h => (Or.inr (Or.inr (Or.inl h)))) (fun h => (Or.inr (Or.inr (Or.inr (Or.inr (Or.inl h)))))))) h))
  exact mm_fr.ret hf F
def fw_X11_round  (q t i : Nat) : Prop := (q = 10 ∧ t = 30 ∧ i = 4) ∨ (q = 10 ∧ t = 30 ∧ i = 9) ∨ (q = 10 ∧ t = 31) ∨ (q = 10 ∧ t = 32) ∨ (q = 10 ∧ t = 34) ∨ (q = 10 ∧ t = 36) ∨ (q = 10 ∧ t = 37) ∨ (q = 10 ∧ t = 38) ∨ (q = 10 ∧ t = 39)
theorem fr_X11_round_L21  (rv : Int32) (σ1 : mm_M)  : ∀ (fu : Nat) (v1 : Int32) (σ : mm_M), fx_X11_round_L21  fu v1 σ = some (rv, σ1) → mm_fr (fw_X11_round) σ σ1 := by
  intro fu
  induction fu with
  | zero =>
    intro v1 σ hf
    exact mm_no hf
  | succ fu ih =>
    intro v1 σ hf
    rw [fx_X11_round_L21] at hf
    have F : mm_fr (fw_X11_round) σ σ := mm_fr.rf
    by_cases c_4 : (σ 10 31 0 (1 : Int32).toNatClampNeg) ≤ (0 : Int32)
    · replace hf := mm_it c_4 hf
      obtain ⟨r_5, s_5, e_5, hf⟩ := mm_bd_ok hf
      have F := F.trans ((fr_X11_acted v1 σ r_5 s_5 e_5).mono (fun q t i h => (fun h => h.elim (fun h => (Or.inl h)) (fun h => h.elim (fun h => (Or.inr (Or.inr (Or.inl h)))) (fun h => (Or.inr (Or.inr (Or.inr (Or.inr (Or.inl h)))))))) h))
      exact mm_fr.ret hf F
    · replace hf := mm_if c_4 hf
      obtain ⟨r_6, s_6, e_6, hf⟩ := mm_bd_ok hf
      have F := F.trans ((fr_X11_passes  σ r_6 s_6 e_6).mono (fun q t i h => (fun h => h.elim (fun h => (Or.inr (Or.inl h))) (fun h => h.elim (fun h => (Or.inr (Or.inr (Or.inl h)))) (fun h => h.elim (fun h => (Or.inr (Or.inr (Or.inr (Or.inr (Or.inr (Or.inl h))))))) (fun h => h.elim (fun h => (Or.inr (Or.inr (Or.inr (Or.inr (Or.inr (Or.inr (Or.inl h)))))))) (fun h => h.elim (fun h => (Or.inr (Or.inr (Or.inr (Or.inr (Or.inr (Or.inr (Or.inr (Or.inl h))))))))) (fun h => (Or.inr (Or.inr (Or.inr (Or.inr (Or.inr (Or.inr (Or.inr (Or.inr h)))))))))))))) h))
      obtain ⟨y_7, e_7, hf⟩ := mm_li_ok hf
      exact F.trans (ih y_7 s_6 hf)
theorem fr_X11_round  (σ : mm_M) (rv : Int32) (σ1 : mm_M) (hf : fx_X11_round  σ = some (rv, σ1)) : mm_fr (fw_X11_round) σ σ1 := by
  rw [fx_X11_round] at hf
  have F : mm_fr (fw_X11_round) σ σ := mm_fr.rf
  obtain ⟨r_1, s_1, e_1, hf⟩ := mm_bd_ok hf
  have F := F.trans ((fr_X11_begins  σ r_1 s_1 e_1).mono (fun q t i h => (fun h => (Or.inr (Or.inr (Or.inr (Or.inl h))))) h))
  by_cases c_2 : (s_1 10 31 0 (0 : Int32).toNatClampNeg) = (0 : Int32)
  · replace hf := mm_it c_2 hf
    exact mm_fr.ret hf F
  · replace hf := mm_if c_2 hf
    obtain ⟨r_3, s_3, e_3, hf⟩ := mm_bd_ok hf
    have F := F.trans ((fr_X11_passes  s_1 r_3 s_3 e_3).mono (fun q t i h => (fun h => h.elim (fun h => (Or.inr (Or.inl h))) (fun h => h.elim (fun h => (Or.inr (Or.inr (Or.inl h)))) (fun h => h.elim (fun h => (Or.inr (Or.inr (Or.inr (Or.inr (Or.inr (Or.inl h))))))) (fun h => h.elim (fun h => (Or.inr (Or.inr (Or.inr (Or.inr (Or.inr (Or.inr (Or.inl h)))))))) (fun h => h.elim (fun h => (Or.inr (Or.inr (Or.inr (Or.inr (Or.inr (Or.inr (Or.inr (Or.inl h))))))))) (fun h => (Or.inr (Or.inr (Or.inr (Or.inr (Or.inr (Or.inr (Or.inr (Or.inr h)))))))))))))) h))
    exact F.trans (fr_X11_round_L21 rv σ1 mm_FU r_3 s_3 hf)
def fw_X11_orNone (x0 : Int32) (q t i : Nat) : Prop := False
theorem fr_X11_orNone (x0 : Int32) (σ : mm_M) (rv : Int32) (σ1 : mm_M) (hf : fx_X11_orNone x0 σ = some (rv, σ1)) : σ1 = σ := by
  refine mm_fr.none (W := (fw_X11_orNone x0)) (fun _ _ _ h => h) ?_
  rw [fx_X11_orNone] at hf
  have F : mm_fr (fw_X11_orNone x0) σ σ := mm_fr.rf
  by_cases c_1 : (0 : Int32) ≤ x0
  · replace hf := mm_it c_1 hf
    exact mm_fr.ret hf F
  · replace hf := mm_if c_1 hf
    exact mm_fr.ret hf F
def fw_X11_flagOn (x1 : Int32) (q t i : Nat) : Prop := False
theorem fr_X11_flagOn_J33 (x1 : Int32) (rv : Int32) (σ1 : mm_M) (k11 : Int32 → Int32 → mm_M → mm_R) (hk11 : ∀ (v2 : Int32) (v3 : Int32) (σ : mm_M), k11 v2 v3 σ = some (rv, σ1) → mm_fr (fw_X11_flagOn x1) σ σ1) : ∀ (v3 : Int32) (w0 : Int32) (σ : mm_M), fx_X11_flagOn_J33 x1 k11 v3 w0 σ = some (rv, σ1) → mm_fr (fw_X11_flagOn x1) σ σ1 := by
  intro v3 w0 σ hf
  rw [fx_X11_flagOn_J33] at hf
  have F : mm_fr (fw_X11_flagOn x1) σ σ := mm_fr.rf
  obtain ⟨y_5, e_5, hf⟩ := mm_li_ok hf
  exact F.trans (hk11 w0 y_5 σ hf)
theorem fr_X11_flagOn_L11 (x1 : Int32) (rv : Int32) (σ1 : mm_M)  : ∀ (fu : Nat) (v2 : Int32) (v3 : Int32) (σ : mm_M), fx_X11_flagOn_L11 x1 fu v2 v3 σ = some (rv, σ1) → mm_fr (fw_X11_flagOn x1) σ σ1 := by
  intro fu
  induction fu with
  | zero =>
    intro v2 v3 σ hf
    exact mm_no hf
  | succ fu ih =>
    intro v2 v3 σ hf
    rw [fx_X11_flagOn_L11] at hf
    have F : mm_fr (fw_X11_flagOn x1) σ σ := mm_fr.rf
    by_cases c_2 : v3 < (0 : Int32)
    · replace hf := mm_it c_2 hf
      exact mm_fr.ret hf F
    · replace hf := mm_if c_2 hf
      obtain ⟨h_3, hf⟩ := mm_gd_ok hf
      by_cases c_4 : (σ 10 31 0 ((7 : Int32) + v3).toNatClampNeg) = x1
      · replace hf := mm_it c_4 hf
        exact F.trans (fr_X11_flagOn_J33 x1 rv σ1 (fun z0 z1 z => fx_X11_flagOn_L11 x1 fu z0 z1 z) ih v3 v3 σ hf)
      · replace hf := mm_if c_4 hf
        exact F.trans (fr_X11_flagOn_J33 x1 rv σ1 (fun z0 z1 z => fx_X11_flagOn_L11 x1 fu z0 z1 z) ih v3 v2 σ hf)
theorem fr_X11_flagOn (x1 : Int32) (σ : mm_M) (rv : Int32) (σ1 : mm_M) (hf : fx_X11_flagOn x1 σ = some (rv, σ1)) : σ1 = σ := by
  refine mm_fr.none (W := (fw_X11_flagOn x1)) (fun _ _ _ h => h) ?_
  rw [fx_X11_flagOn] at hf
  have F : mm_fr (fw_X11_flagOn x1) σ σ := mm_fr.rf
  obtain ⟨y_1, e_1, hf⟩ := mm_li_ok hf
  exact F.trans (fr_X11_flagOn_L11 x1 rv σ1 mm_FU (-1 : Int32) y_1 σ hf)
def fw_X11_cellOf (x1 : Int32) (x2 : Int32) (q t i : Nat) : Prop := False
theorem fr_X11_cellOf (x1 : Int32) (x2 : Int32) (σ : mm_M) (rv : Int32) (σ1 : mm_M) (hf : fx_X11_cellOf x1 x2 σ = some (rv, σ1)) : σ1 = σ := by
  refine mm_fr.none (W := (fw_X11_cellOf x1 x2)) (fun _ _ _ h => h) ?_
  rw [fx_X11_cellOf] at hf
  have F : mm_fr (fw_X11_cellOf x1 x2) σ σ := mm_fr.rf
  obtain ⟨r_1, s_1, e_1, hf⟩ := mm_bd_ok hf
  have F := F.trans (mm_fr.eq (fr_X11_isCell x1 σ r_1 s_1 e_1))
  by_cases c_2 : r_1 = (0 : Int32)
  · replace hf := mm_it c_2 hf
    exact mm_fr.ret hf F
  · replace hf := mm_if c_2 hf
    obtain ⟨r_3, s_3, e_3, hf⟩ := mm_bd_ok hf
    have F := F.trans (mm_fr.eq (fr_X11_in x2 (0 : Int32) (3 : Int32) s_1 r_3 s_3 e_3))
    by_cases c_4 : r_3 = (0 : Int32)
    · replace hf := mm_it c_4 hf
      exact mm_fr.ret hf F
    · replace hf := mm_if c_4 hf
      by_cases c_5 : x2 = (0 : Int32)
      · replace hf := mm_it c_5 hf
        obtain ⟨h_6, hf⟩ := mm_gd_ok hf
        exact mm_fr.ret hf F
      replace hf := mm_if c_5 hf
      by_cases c_7 : x2 = (1 : Int32)
      · replace hf := mm_it c_7 hf
        obtain ⟨h_8, hf⟩ := mm_gd_ok hf
        exact mm_fr.ret hf F
      replace hf := mm_if c_7 hf
      by_cases c_9 : x2 = (2 : Int32)
      · replace hf := mm_it c_9 hf
        obtain ⟨r_10, s_10, e_10, hf⟩ := mm_bd_ok hf
        have F := F.trans (mm_fr.eq (fr_X11_cartOn x1 s_3 r_10 s_10 e_10))
        obtain ⟨r_11, s_11, e_11, hf⟩ := mm_bd_ok hf
        have F := F.trans (mm_fr.eq (fr_X11_orNone r_10 s_10 r_11 s_11 e_11))
        exact mm_fr.ret hf F
      replace hf := mm_if c_9 hf
      obtain ⟨r_12, s_12, e_12, hf⟩ := mm_bd_ok hf
      have F := F.trans (mm_fr.eq (fr_X11_flagOn x1 s_3 r_12 s_12 e_12))
      obtain ⟨r_13, s_13, e_13, hf⟩ := mm_bd_ok hf
      have F := F.trans (mm_fr.eq (fr_X11_orNone r_12 s_12 r_13 s_13 e_13))
      exact mm_fr.ret hf F
def fw_X11_locked (x1 : Int32) (q t i : Nat) : Prop := False
theorem fr_X11_locked_J26 (x1 : Int32) (rv : Int32) (σ1 : mm_M) (k4 : Int32 → Int32 → mm_M → mm_R) (hk4 : ∀ (v2 : Int32) (v3 : Int32) (σ : mm_M), k4 v2 v3 σ = some (rv, σ1) → mm_fr (fw_X11_locked x1) σ σ1) : ∀ (v3 : Int32) (w0 : Int32) (w1 : Int32) (σ : mm_M), fx_X11_locked_J26 x1 k4 v3 w0 w1 σ = some (rv, σ1) → mm_fr (fw_X11_locked x1) σ σ1 := by
  intro v3 w0 w1 σ hf
  rw [fx_X11_locked_J26] at hf
  have F : mm_fr (fw_X11_locked x1) σ σ := mm_fr.rf
  obtain ⟨y_4, e_4, hf⟩ := mm_li_ok hf
  obtain ⟨y_5, e_5, hf⟩ := mm_li_ok hf
  exact F.trans (hk4 y_4 y_5 σ hf)
theorem fr_X11_locked_L4 (x1 : Int32) (rv : Int32) (σ1 : mm_M)  : ∀ (fu : Nat) (v2 : Int32) (v3 : Int32) (σ : mm_M), fx_X11_locked_L4 x1 fu v2 v3 σ = some (rv, σ1) → mm_fr (fw_X11_locked x1) σ σ1 := by
  intro fu
  induction fu with
  | zero =>
    intro v2 v3 σ hf
    exact mm_no hf
  | succ fu ih =>
    intro v2 v3 σ hf
    rw [fx_X11_locked_L4] at hf
    have F : mm_fr (fw_X11_locked x1) σ σ := mm_fr.rf
    by_cases c_1 : (5 : Int32) ≤ v3
    · replace hf := mm_it c_1 hf
      exact mm_fr.ret hf F
    · replace hf := mm_if c_1 hf
      obtain ⟨r_2, s_2, e_2, hf⟩ := mm_bd_ok hf
      have F := F.trans (mm_fr.eq (fr_X11_isLocked x1 v3 σ r_2 s_2 e_2))
      by_cases c_3 : r_2 = (0 : Int32)
      · replace hf := mm_it c_3 hf
        exact F.trans (fr_X11_locked_J26 x1 rv σ1 (fun z0 z1 z => fx_X11_locked_L4 x1 fu z0 z1 z) ih v3 v2 (0 : Int32) s_2 hf)
      · replace hf := mm_if c_3 hf
        exact F.trans (fr_X11_locked_J26 x1 rv σ1 (fun z0 z1 z => fx_X11_locked_L4 x1 fu z0 z1 z) ih v3 v2 ((1 : Int32) <<< (v3 &&& 31)) s_2 hf)
theorem fr_X11_locked (x1 : Int32) (σ : mm_M) (rv : Int32) (σ1 : mm_M) (hf : fx_X11_locked x1 σ = some (rv, σ1)) : σ1 = σ := by
  refine mm_fr.none (W := (fw_X11_locked x1)) (fun _ _ _ h => h) ?_
  rw [fx_X11_locked] at hf
  have F : mm_fr (fw_X11_locked x1) σ σ := mm_fr.rf
  exact F.trans (fr_X11_locked_L4 x1 rv σ1 mm_FU (0 : Int32) (0 : Int32) σ hf)
def fw_X11_cartOf (x1 : Int32) (x2 : Int32) (q t i : Nat) : Prop := False
theorem fr_X11_cartOf (x1 : Int32) (x2 : Int32) (σ : mm_M) (rv : Int32) (σ1 : mm_M) (hf : fx_X11_cartOf x1 x2 σ = some (rv, σ1)) : σ1 = σ := by
  refine mm_fr.none (W := (fw_X11_cartOf x1 x2)) (fun _ _ _ h => h) ?_
  rw [fx_X11_cartOf] at hf
  have F : mm_fr (fw_X11_cartOf x1 x2) σ σ := mm_fr.rf
  obtain ⟨r_1, s_1, e_1, hf⟩ := mm_bd_ok hf
  have F := F.trans (mm_fr.eq (fr_X11_isCart x1 σ r_1 s_1 e_1))
  by_cases c_2 : r_1 = (0 : Int32)
  · replace hf := mm_it c_2 hf
    exact mm_fr.ret hf F
  · replace hf := mm_if c_2 hf
    obtain ⟨r_3, s_3, e_3, hf⟩ := mm_bd_ok hf
    have F := F.trans (mm_fr.eq (fr_X11_in x2 (0 : Int32) (8 : Int32) s_1 r_3 s_3 e_3))
    by_cases c_4 : r_3 = (0 : Int32)
    · replace hf := mm_it c_4 hf
      exact mm_fr.ret hf F
    · replace hf := mm_if c_4 hf
      by_cases c_5 : x2 = (0 : Int32)
      · replace hf := mm_it c_5 hf
        obtain ⟨r_6, s_6, e_6, hf⟩ := mm_bd_ok hf
        have F := F.trans (mm_fr.eq (fr_X11_isOut x1 s_3 r_6 s_6 e_6))
        by_cases c_7 : r_6 = (0 : Int32)
        · replace hf := mm_it c_7 hf
          obtain ⟨r_8, s_8, e_8, hf⟩ := mm_bd_ok hf
          have F := F.trans (mm_fr.eq (fr_X11_of x1 ((1 : Int32) + x2) s_6 r_8 s_8 e_8))
          exact mm_fr.ret hf F
        · replace hf := mm_if c_7 hf
          exact mm_fr.ret hf F
      replace hf := mm_if c_5 hf
      by_cases c_9 : x2 = (1 : Int32)
      · replace hf := mm_it c_9 hf
        obtain ⟨r_10, s_10, e_10, hf⟩ := mm_bd_ok hf
        have F := F.trans (mm_fr.eq (fr_X11_isOut x1 s_3 r_10 s_10 e_10))
        by_cases c_11 : r_10 = (0 : Int32)
        · replace hf := mm_it c_11 hf
          obtain ⟨r_12, s_12, e_12, hf⟩ := mm_bd_ok hf
          have F := F.trans (mm_fr.eq (fr_X11_of x1 ((1 : Int32) + x2) s_10 r_12 s_12 e_12))
          exact mm_fr.ret hf F
        · replace hf := mm_if c_11 hf
          exact mm_fr.ret hf F
      replace hf := mm_if c_9 hf
      by_cases c_13 : x2 = (2 : Int32)
      · replace hf := mm_it c_13 hf
        obtain ⟨r_14, s_14, e_14, hf⟩ := mm_bd_ok hf
        have F := F.trans (mm_fr.eq (fr_X11_of x1 (((3 : Int32) + x2) - (2 : Int32)) s_3 r_14 s_14 e_14))
        exact mm_fr.ret hf F
      replace hf := mm_if c_13 hf
      by_cases c_15 : x2 = (3 : Int32)
      · replace hf := mm_it c_15 hf
        obtain ⟨r_16, s_16, e_16, hf⟩ := mm_bd_ok hf
        have F := F.trans (mm_fr.eq (fr_X11_of x1 (((3 : Int32) + x2) - (2 : Int32)) s_3 r_16 s_16 e_16))
        exact mm_fr.ret hf F
      replace hf := mm_if c_15 hf
      by_cases c_17 : x2 = (4 : Int32)
      · replace hf := mm_it c_17 hf
        obtain ⟨r_18, s_18, e_18, hf⟩ := mm_bd_ok hf
        have F := F.trans (mm_fr.eq (fr_X11_of x1 (0 : Int32) s_3 r_18 s_18 e_18))
        exact mm_fr.ret hf F
      replace hf := mm_if c_17 hf
      by_cases c_19 : x2 = (5 : Int32)
      · replace hf := mm_it c_19 hf
        obtain ⟨r_20, s_20, e_20, hf⟩ := mm_bd_ok hf
        have F := F.trans (mm_fr.eq (fr_X11_locked x1 s_3 r_20 s_20 e_20))
        exact mm_fr.ret hf F
      replace hf := mm_if c_19 hf
      by_cases c_21 : x2 = (6 : Int32)
      · replace hf := mm_it c_21 hf
        obtain ⟨r_22, s_22, e_22, hf⟩ := mm_bd_ok hf
        have F := F.trans (mm_fr.eq (fr_X11_withCards x1 s_3 r_22 s_22 e_22))
        exact mm_fr.ret hf F
      replace hf := mm_if c_21 hf
      by_cases c_23 : x2 = (7 : Int32)
      · replace hf := mm_it c_23 hf
        obtain ⟨r_24, s_24, e_24, hf⟩ := mm_bd_ok hf
        have F := F.trans (mm_fr.eq (fr_X11_of x1 (((5 : Int32) + x2) - (7 : Int32)) s_3 r_24 s_24 e_24))
        exact mm_fr.ret hf F
      replace hf := mm_if c_23 hf
      by_cases c_25 : x2 = (8 : Int32)
      · replace hf := mm_it c_25 hf
        obtain ⟨r_26, s_26, e_26, hf⟩ := mm_bd_ok hf
        have F := F.trans (mm_fr.eq (fr_X11_of x1 (((5 : Int32) + x2) - (7 : Int32)) s_3 r_26 s_26 e_26))
        exact mm_fr.ret hf F
      replace hf := mm_if c_25 hf
      obtain ⟨r_27, s_27, e_27, hf⟩ := mm_bd_ok hf
      have F := F.trans (mm_fr.eq (fr_X11_of x1 (((3 : Int32) + x2) - (2 : Int32)) s_3 r_27 s_27 e_27))
      exact mm_fr.ret hf F
def fw_X11_cardOf (x1 : Int32) (x2 : Int32) (x3 : Int32) (q t i : Nat) : Prop := False
theorem fr_X11_cardOf (x1 : Int32) (x2 : Int32) (x3 : Int32) (σ : mm_M) (rv : Int32) (σ1 : mm_M) (hf : fx_X11_cardOf x1 x2 x3 σ = some (rv, σ1)) : σ1 = σ := by
  refine mm_fr.none (W := (fw_X11_cardOf x1 x2 x3)) (fun _ _ _ h => h) ?_
  rw [fx_X11_cardOf] at hf
  have F : mm_fr (fw_X11_cardOf x1 x2 x3) σ σ := mm_fr.rf
  obtain ⟨r_1, s_1, e_1, hf⟩ := mm_bd_ok hf
  have F := F.trans (mm_fr.eq (fr_X11_isCart x1 σ r_1 s_1 e_1))
  by_cases c_2 : r_1 = (0 : Int32)
  · replace hf := mm_it c_2 hf
    exact mm_fr.ret hf F
  · replace hf := mm_if c_2 hf
    obtain ⟨r_3, s_3, e_3, hf⟩ := mm_bd_ok hf
    have F := F.trans (mm_fr.eq (fr_X11_in x2 (0 : Int32) (4 : Int32) s_1 r_3 s_3 e_3))
    by_cases c_4 : r_3 = (0 : Int32)
    · replace hf := mm_it c_4 hf
      exact mm_fr.ret hf F
    · replace hf := mm_if c_4 hf
      obtain ⟨r_5, s_5, e_5, hf⟩ := mm_bd_ok hf
      have F := F.trans (mm_fr.eq (fr_X11_in x3 (0 : Int32) (1 : Int32) s_3 r_5 s_5 e_5))
      by_cases c_6 : r_5 = (0 : Int32)
      · replace hf := mm_it c_6 hf
        exact mm_fr.ret hf F
      · replace hf := mm_if c_6 hf
        obtain ⟨r_7, s_7, e_7, hf⟩ := mm_bd_ok hf
        have F := F.trans (mm_fr.eq (fr_X11_rank x1 x2 s_5 r_7 s_7 e_7))
        by_cases c_8 : r_7 = (0 : Int32)
        · replace hf := mm_it c_8 hf
          exact mm_fr.ret hf F
        · replace hf := mm_if c_8 hf
          obtain ⟨r_9, s_9, e_9, hf⟩ := mm_bd_ok hf
          have F := F.trans (mm_fr.eq (fr_X11_of x1 (((7 : Int32) + ((2 : Int32) * x2)) + x3) s_7 r_9 s_9 e_9))
          exact mm_fr.ret hf F
def fw_X11_turn (x1 : Int32) (q t i : Nat) : Prop := (q = 10 ∧ t = 30 ∧ i = 9) ∨ (q = 10 ∧ t = 37)
theorem fr_X11_turn (x1 : Int32) (σ : mm_M) (rv : Int32) (σ1 : mm_M) (hf : fx_X11_turn x1 σ = some (rv, σ1)) : mm_fr (fw_X11_turn x1) σ σ1 := by
  rw [fx_X11_turn] at hf
  have F : mm_fr (fw_X11_turn x1) σ σ := mm_fr.rf
  by_cases c_1 : (0 : Int32) ≤ x1
  · replace hf := mm_it c_1 hf
    obtain ⟨r_2, s_2, e_2, hf⟩ := mm_bd_ok hf
    have F := F.trans ((fr_X11_orders  σ r_2 s_2 e_2).mono (fun q t i h => (fun h => h.elim (fun h => (Or.inl h)) (fun h => (Or.inr h))) h))
    by_cases c_3 : (s_2 10 30 0 9) ≤ x1
    · replace hf := mm_it c_3 hf
      exact mm_fr.ret hf F
    · replace hf := mm_if c_3 hf
      obtain ⟨h_4, hf⟩ := mm_gd_ok hf
      exact mm_fr.ret hf F
  · replace hf := mm_if c_1 hf
    exact mm_fr.ret hf F
def fw_X11_putsAside  (q t i : Nat) : Prop := (q = 10 ∧ t = 33)
theorem fr_X11_putsAside_L2  (rv : Int32) (σ1 : mm_M)  : ∀ (fu : Nat) (v1 : Int32) (σ : mm_M), fx_X11_putsAside_L2  fu v1 σ = some (rv, σ1) → mm_fr (fw_X11_putsAside) σ σ1 := by
  intro fu
  induction fu with
  | zero =>
    intro v1 σ hf
    exact mm_no hf
  | succ fu ih =>
    intro v1 σ hf
    rw [fx_X11_putsAside_L2] at hf
    have F : mm_fr (fw_X11_putsAside) σ σ := mm_fr.rf
    by_cases c_1 : (207 : Int32) ≤ v1
    · replace hf := mm_it c_1 hf
      exact mm_fr.ret hf F
    · replace hf := mm_if c_1 hf
      obtain ⟨h_2, hf⟩ := mm_gd_ok hf
      obtain ⟨h_3, hf⟩ := mm_gd_ok hf
      obtain ⟨s_4, e_4, hf⟩ := mm_lt_ok hf
      have F := F.trans (mm_fr.a e_4 (fun _ => ⟨rfl, rfl⟩))
      obtain ⟨y_5, e_5, hf⟩ := mm_li_ok hf
      exact F.trans (ih y_5 s_4 hf)
theorem fr_X11_putsAside  (σ : mm_M) (rv : Int32) (σ1 : mm_M) (hf : fx_X11_putsAside  σ = some (rv, σ1)) : mm_fr (fw_X11_putsAside) σ σ1 := by
  rw [fx_X11_putsAside] at hf
  have F : mm_fr (fw_X11_putsAside) σ σ := mm_fr.rf
  exact F.trans (fr_X11_putsAside_L2 rv σ1 mm_FU (0 : Int32) σ hf)
def fw_X11_takesBack  (q t i : Nat) : Prop := (q = 10 ∧ t = 31)
theorem fr_X11_takesBack_L2  (rv : Int32) (σ1 : mm_M)  : ∀ (fu : Nat) (v1 : Int32) (σ : mm_M), fx_X11_takesBack_L2  fu v1 σ = some (rv, σ1) → mm_fr (fw_X11_takesBack) σ σ1 := by
  intro fu
  induction fu with
  | zero =>
    intro v1 σ hf
    exact mm_no hf
  | succ fu ih =>
    intro v1 σ hf
    rw [fx_X11_takesBack_L2] at hf
    have F : mm_fr (fw_X11_takesBack) σ σ := mm_fr.rf
    by_cases c_1 : (207 : Int32) ≤ v1
    · replace hf := mm_it c_1 hf
      exact mm_fr.ret hf F
    · replace hf := mm_if c_1 hf
      obtain ⟨h_2, hf⟩ := mm_gd_ok hf
      obtain ⟨h_3, hf⟩ := mm_gd_ok hf
      obtain ⟨s_4, e_4, hf⟩ := mm_lt_ok hf
      have F := F.trans (mm_fr.a e_4 (fun _ => ⟨rfl, rfl⟩))
      obtain ⟨y_5, e_5, hf⟩ := mm_li_ok hf
      exact F.trans (ih y_5 s_4 hf)
theorem fr_X11_takesBack  (σ : mm_M) (rv : Int32) (σ1 : mm_M) (hf : fx_X11_takesBack  σ = some (rv, σ1)) : mm_fr (fw_X11_takesBack) σ σ1 := by
  rw [fx_X11_takesBack] at hf
  have F : mm_fr (fw_X11_takesBack) σ σ := mm_fr.rf
  exact F.trans (fr_X11_takesBack_L2 rv σ1 mm_FU (0 : Int32) σ hf)
def fw_X11_would (x1 : Int32) (x2 : Int32) (x3 : Int32) (q t i : Nat) : Prop := (q = 10 ∧ t = 30 ∧ i = 9) ∨ (q = 10 ∧ t = 31) ∨ (q = 10 ∧ t = 33) ∨ (q = 10 ∧ t = 36) ∨ (q = 10 ∧ t = 37) ∨ (q = 10 ∧ t = 38) ∨ (q = 10 ∧ t = 39)
theorem fr_X11_would_L37 (x1 : Int32) (x2 : Int32) (x3 : Int32) (rv : Int32) (σ1 : mm_M)  : ∀ (fu : Nat) (v4 : Int32) (σ : mm_M), fx_X11_would_L37 x1 x2 x3 fu v4 σ = some (rv, σ1) → mm_fr (fw_X11_would x1 x2 x3) σ σ1 := by
  intro fu
  induction fu with
  | zero =>
    intro v4 σ hf
    exact mm_no hf
  | succ fu ih =>
    intro v4 σ hf
    rw [fx_X11_would_L37] at hf
    have F : mm_fr (fw_X11_would x1 x2 x3) σ σ := mm_fr.rf
    by_cases c_8 : x2 ≤ v4
    · replace hf := mm_it c_8 hf
      obtain ⟨r_9, s_9, e_9, hf⟩ := mm_bd_ok hf
      have F := F.trans (mm_fr.eq (fr_X11_cartOf x1 x3 σ r_9 s_9 e_9))
      obtain ⟨r_10, s_10, e_10, hf⟩ := mm_bd_ok hf
      have F := F.trans ((fr_X11_takesBack  s_9 r_10 s_10 e_10).mono (fun q t i h => (fun h => (Or.inr (Or.inl h))) h))
      exact mm_fr.ret hf F
    · replace hf := mm_if c_8 hf
      obtain ⟨r_11, s_11, e_11, hf⟩ := mm_bd_ok hf
      have F := F.trans ((fr_X11_passes  σ r_11 s_11 e_11).mono (fun q t i h => (fun h => h.elim (fun h => (Or.inl h)) (fun h => h.elim (fun h => (Or.inr (Or.inl h))) (fun h => h.elim (fun h => (Or.inr (Or.inr (Or.inr (Or.inl h))))) (fun h => h.elim (fun h => (Or.inr (Or.inr (Or.inr (Or.inr (Or.inl h)))))) (fun h => h.elim (fun h => (Or.inr (Or.inr (Or.inr (Or.inr (Or.inr (Or.inl h))))))) (fun h => (Or.inr (Or.inr (Or.inr (Or.inr (Or.inr (Or.inr h)))))))))))) h))
      obtain ⟨y_12, e_12, hf⟩ := mm_li_ok hf
      exact F.trans (ih y_12 s_11 hf)
theorem fr_X11_would (x1 : Int32) (x2 : Int32) (x3 : Int32) (σ : mm_M) (rv : Int32) (σ1 : mm_M) (hf : fx_X11_would x1 x2 x3 σ = some (rv, σ1)) : mm_fr (fw_X11_would x1 x2 x3) σ σ1 := by
  rw [fx_X11_would] at hf
  have F : mm_fr (fw_X11_would x1 x2 x3) σ σ := mm_fr.rf
  obtain ⟨r_1, s_1, e_1, hf⟩ := mm_bd_ok hf
  have F := F.trans (mm_fr.eq (fr_X11_isCart x1 σ r_1 s_1 e_1))
  by_cases c_2 : r_1 = (0 : Int32)
  · replace hf := mm_it c_2 hf
    exact mm_fr.ret hf F
  · replace hf := mm_if c_2 hf
    obtain ⟨r_3, s_3, e_3, hf⟩ := mm_bd_ok hf
    have F := F.trans (mm_fr.eq (fr_X11_in x2 (0 : Int32) (20 : Int32) s_1 r_3 s_3 e_3))
    by_cases c_4 : r_3 = (0 : Int32)
    · replace hf := mm_it c_4 hf
      exact mm_fr.ret hf F
    · replace hf := mm_if c_4 hf
      obtain ⟨r_5, s_5, e_5, hf⟩ := mm_bd_ok hf
      have F := F.trans (mm_fr.eq (fr_X11_in x3 (0 : Int32) (3 : Int32) s_3 r_5 s_5 e_5))
      by_cases c_6 : r_5 = (0 : Int32)
      · replace hf := mm_it c_6 hf
        exact mm_fr.ret hf F
      · replace hf := mm_if c_6 hf
        obtain ⟨r_7, s_7, e_7, hf⟩ := mm_bd_ok hf
        have F := F.trans ((fr_X11_putsAside  s_5 r_7 s_7 e_7).mono (fun q t i h => (fun h => (Or.inr (Or.inr (Or.inl h)))) h))
        exact F.trans (fr_X11_would_L37 x1 x2 x3 rv σ1 mm_FU (0 : Int32) s_7 hf)
def fw_X11_difference (x0 : Int32) (x1 : Int32) (q t i : Nat) : Prop := False
theorem fr_X11_difference (x0 : Int32) (x1 : Int32) (σ : mm_M) (rv : Int32) (σ1 : mm_M) (hf : fx_X11_difference x0 x1 σ = some (rv, σ1)) : σ1 = σ := by
  refine mm_fr.none (W := (fw_X11_difference x0 x1)) (fun _ _ _ h => h) ?_
  rw [fx_X11_difference] at hf
  have F : mm_fr (fw_X11_difference x0 x1) σ σ := mm_fr.rf
  by_cases c_1 : x1 ≤ x0
  · replace hf := mm_it c_1 hf
    exact mm_fr.ret hf F
  · replace hf := mm_if c_1 hf
    exact mm_fr.ret hf F
def fw_X11_far (x0 : Int32) (x1 : Int32) (q t i : Nat) : Prop := False
theorem fr_X11_far (x0 : Int32) (x1 : Int32) (σ : mm_M) (rv : Int32) (σ1 : mm_M) (hf : fx_X11_far x0 x1 σ = some (rv, σ1)) : σ1 = σ := by
  refine mm_fr.none (W := (fw_X11_far x0 x1)) (fun _ _ _ h => h) ?_
  rw [fx_X11_far] at hf
  have F : mm_fr (fw_X11_far x0 x1) σ σ := mm_fr.rf
  obtain ⟨r_1, s_1, e_1, hf⟩ := mm_bd_ok hf
  have F := F.trans (mm_fr.eq (fr_X11_difference (x0 - x0 / (8 : Int32) * (8 : Int32)) (x1 - x1 / (8 : Int32) * (8 : Int32)) σ r_1 s_1 e_1))
  obtain ⟨r_2, s_2, e_2, hf⟩ := mm_bd_ok hf
  have F := F.trans (mm_fr.eq (fr_X11_difference (x0 / (8 : Int32)) (x1 / (8 : Int32)) s_1 r_2 s_2 e_2))
  exact mm_fr.ret hf F
def fw_X11_farBy (x1 : Int32) (x2 : Int32) (x3 : Int32) (x4 : Int32) (q t i : Nat) : Prop := (q = 10 ∧ t = 30 ∧ i = 9) ∨ (q = 10 ∧ t = 31) ∨ (q = 10 ∧ t = 36) ∨ (q = 10 ∧ t = 37) ∨ (q = 10 ∧ t = 38) ∨ (q = 10 ∧ t = 39)
theorem fr_X11_farBy_J76 (x1 : Int32) (x2 : Int32) (x3 : Int32) (x4 : Int32) (rv : Int32) (σ1 : mm_M)  : ∀ (w0 : Int32) (σ : mm_M), fx_X11_farBy_J76 x1 x2 x3 x4 w0 σ = some (rv, σ1) → mm_fr (fw_X11_farBy x1 x2 x3 x4) σ σ1 := by
  intro w0 σ hf
  rw [fx_X11_farBy_J76] at hf
  have F : mm_fr (fw_X11_farBy x1 x2 x3 x4) σ σ := mm_fr.rf
  obtain ⟨r_10, s_10, e_10, hf⟩ := mm_bd_ok hf
  have F := F.trans ((fr_X11_takesBack  σ r_10 s_10 e_10).mono (fun q t i h => (fun h => (Or.inr (Or.inl h))) h))
  exact mm_fr.ret hf F
theorem fr_X11_farBy (x1 : Int32) (x2 : Int32) (x3 : Int32) (x4 : Int32) (σ : mm_M) (rv : Int32) (σ1 : mm_M) (hf : fx_X11_farBy x1 x2 x3 x4 σ = some (rv, σ1)) : mm_fr (fw_X11_farBy x1 x2 x3 x4) σ σ1 := by
  rw [fx_X11_farBy] at hf
  have F : mm_fr (fw_X11_farBy x1 x2 x3 x4) σ σ := mm_fr.rf
  obtain ⟨r_1, s_1, e_1, hf⟩ := mm_bd_ok hf
  have F := F.trans (mm_fr.eq (fr_X11_of x1 (5 : Int32) σ r_1 s_1 e_1))
  obtain ⟨y_2, e_2, hf⟩ := mm_li_ok hf
  obtain ⟨r_3, s_3, e_3, hf⟩ := mm_bd_ok hf
  have F := F.trans ((fr_X11_lays x1 ((7 : Int32) + ((2 : Int32) * y_2)) x2 s_1 r_3 s_3 e_3).mono (fun q t i h => (fun h => (Or.inr (Or.inl h))) h))
  obtain ⟨r_4, s_4, e_4, hf⟩ := mm_bd_ok hf
  have F := F.trans ((fr_X11_lays x1 (((7 : Int32) + ((2 : Int32) * y_2)) + (1 : Int32)) x3 s_3 r_4 s_4 e_4).mono (fun q t i h => (fun h => (Or.inr (Or.inl h))) h))
  obtain ⟨r_5, s_5, e_5, hf⟩ := mm_bd_ok hf
  have F := F.trans ((fr_X11_passes  s_4 r_5 s_5 e_5).mono (fun q t i h => (fun h => h.elim (fun h => (Or.inl h)) (fun h => h.elim (fun h => (Or.inr (Or.inl h))) (fun h => h.elim (fun h => (Or.inr (Or.inr (Or.inl h)))) (fun h => h.elim (fun h => (Or.inr (Or.inr (Or.inr (Or.inl h))))) (fun h => h.elim (fun h => (Or.inr (Or.inr (Or.inr (Or.inr (Or.inl h)))))) (fun h => (Or.inr (Or.inr (Or.inr (Or.inr (Or.inr h))))))))))) h))
  obtain ⟨r_6, s_6, e_6, hf⟩ := mm_bd_ok hf
  have F := F.trans (mm_fr.eq (fr_X11_of x1 (5 : Int32) s_5 r_6 s_6 e_6))
  by_cases c_7 : r_6 ≤ r_1
  · replace hf := mm_it c_7 hf
    obtain ⟨r_8, s_8, e_8, hf⟩ := mm_bd_ok hf
    have F := F.trans (mm_fr.eq (fr_X11_of x1 (1 : Int32) s_6 r_8 s_8 e_8))
    obtain ⟨r_9, s_9, e_9, hf⟩ := mm_bd_ok hf
    have F := F.trans (mm_fr.eq (fr_X11_far r_8 x4 s_8 r_9 s_9 e_9))
    exact F.trans (fr_X11_farBy_J76 x1 x2 x3 x4 rv σ1 r_9 s_9 hf)
  · replace hf := mm_if c_7 hf
    exact F.trans (fr_X11_farBy_J76 x1 x2 x3 x4 rv σ1 (-1 : Int32) s_6 hf)
def fw_X11_best (x1 : Int32) (x2 : Int32) (x3 : Int32) (q t i : Nat) : Prop := (q = 10 ∧ t = 30 ∧ i = 9) ∨ (q = 10 ∧ t = 31) ∨ (q = 10 ∧ t = 33) ∨ (q = 10 ∧ t = 36) ∨ (q = 10 ∧ t = 37) ∨ (q = 10 ∧ t = 38) ∨ (q = 10 ∧ t = 39)
theorem fr_X11_best_J150 (x1 : Int32) (x2 : Int32) (x3 : Int32) (rv : Int32) (σ1 : mm_M) (k81 : Int32 → Int32 → Int32 → Int32 → mm_M → mm_R) (hk81 : ∀ (v4 : Int32) (v5 : Int32) (v6 : Int32) (v7 : Int32) (σ : mm_M), k81 v4 v5 v6 v7 σ = some (rv, σ1) → mm_fr (fw_X11_best x1 x2 x3) σ σ1) : ∀ (v4 : Int32) (v5 : Int32) (v7 : Int32) (w0 : Int32) (σ : mm_M), fx_X11_best_J150 x1 x2 x3 k81 v4 v5 v7 w0 σ = some (rv, σ1) → mm_fr (fw_X11_best x1 x2 x3) σ σ1 := by
  intro v4 v5 v7 w0 σ hf
  rw [fx_X11_best_J150] at hf
  have F : mm_fr (fw_X11_best x1 x2 x3) σ σ := mm_fr.rf
  obtain ⟨y_23, e_23, hf⟩ := mm_li_ok hf
  exact F.trans (hk81 v4 v5 w0 y_23 σ hf)
theorem fr_X11_best_J136 (x1 : Int32) (x2 : Int32) (x3 : Int32) (rv : Int32) (σ1 : mm_M) (k81 : Int32 → Int32 → Int32 → Int32 → mm_M → mm_R) (hk81 : ∀ (v4 : Int32) (v5 : Int32) (v6 : Int32) (v7 : Int32) (σ : mm_M), k81 v4 v5 v6 v7 σ = some (rv, σ1) → mm_fr (fw_X11_best x1 x2 x3) σ σ1) : ∀ (v4 : Int32) (v6 : Int32) (v7 : Int32) (v8 : Int32) (v9 : Int32) (w0 : Int32) (σ : mm_M), fx_X11_best_J136 x1 x2 x3 k81 v4 v6 v7 v8 v9 w0 σ = some (rv, σ1) → mm_fr (fw_X11_best x1 x2 x3) σ σ1 := by
  intro v4 v6 v7 v8 v9 w0 σ hf
  rw [fx_X11_best_J136] at hf
  have F : mm_fr (fw_X11_best x1 x2 x3) σ σ := mm_fr.rf
  by_cases c_22 : v9 = (0 : Int32)
  · replace hf := mm_it c_22 hf
    exact F.trans (fr_X11_best_J150 x1 x2 x3 rv σ1 k81 hk81 v4 w0 v7 v6 σ hf)
  · replace hf := mm_if c_22 hf
    exact F.trans (fr_X11_best_J150 x1 x2 x3 rv σ1 k81 hk81 v4 w0 v7 v8 σ hf)
theorem fr_X11_best_J122 (x1 : Int32) (x2 : Int32) (x3 : Int32) (rv : Int32) (σ1 : mm_M) (k81 : Int32 → Int32 → Int32 → Int32 → mm_M → mm_R) (hk81 : ∀ (v4 : Int32) (v5 : Int32) (v6 : Int32) (v7 : Int32) (σ : mm_M), k81 v4 v5 v6 v7 σ = some (rv, σ1) → mm_fr (fw_X11_best x1 x2 x3) σ σ1) : ∀ (v4 : Int32) (v5 : Int32) (v6 : Int32) (v7 : Int32) (v8 : Int32) (w0 : Int32) (σ : mm_M), fx_X11_best_J122 x1 x2 x3 k81 v4 v5 v6 v7 v8 w0 σ = some (rv, σ1) → mm_fr (fw_X11_best x1 x2 x3) σ σ1 := by
  intro v4 v5 v6 v7 v8 w0 σ hf
  rw [fx_X11_best_J122] at hf
  have F : mm_fr (fw_X11_best x1 x2 x3) σ σ := mm_fr.rf
  by_cases c_21 : w0 = (0 : Int32)
  · replace hf := mm_it c_21 hf
    exact F.trans (fr_X11_best_J136 x1 x2 x3 rv σ1 k81 hk81 v4 v6 v7 v8 w0 v5 σ hf)
  · replace hf := mm_if c_21 hf
    exact F.trans (fr_X11_best_J136 x1 x2 x3 rv σ1 k81 hk81 v4 v6 v7 v8 w0 v7 σ hf)
theorem fr_X11_best_J121 (x1 : Int32) (x2 : Int32) (x3 : Int32) (rv : Int32) (σ1 : mm_M) (k81 : Int32 → Int32 → Int32 → Int32 → mm_M → mm_R) (hk81 : ∀ (v4 : Int32) (v5 : Int32) (v6 : Int32) (v7 : Int32) (σ : mm_M), k81 v4 v5 v6 v7 σ = some (rv, σ1) → mm_fr (fw_X11_best x1 x2 x3) σ σ1) : ∀ (v4 : Int32) (v5 : Int32) (v6 : Int32) (v7 : Int32) (v8 : Int32) (σ : mm_M), fx_X11_best_J121 x1 x2 x3 k81 v4 v5 v6 v7 v8 σ = some (rv, σ1) → mm_fr (fw_X11_best x1 x2 x3) σ σ1 := by
  intro v4 v5 v6 v7 v8 σ hf
  rw [fx_X11_best_J121] at hf
  have F : mm_fr (fw_X11_best x1 x2 x3) σ σ := mm_fr.rf
  exact F.trans (fr_X11_best_J122 x1 x2 x3 rv σ1 k81 hk81 v4 v5 v6 v7 v8 (0 : Int32) σ hf)
theorem fr_X11_best_L81 (x1 : Int32) (x2 : Int32) (x3 : Int32) (rv : Int32) (σ1 : mm_M)  : ∀ (fu : Nat) (v4 : Int32) (v5 : Int32) (v6 : Int32) (v7 : Int32) (σ : mm_M), fx_X11_best_L81 x1 x2 x3 fu v4 v5 v6 v7 σ = some (rv, σ1) → mm_fr (fw_X11_best x1 x2 x3) σ σ1 := by
  intro fu
  induction fu with
  | zero =>
    intro v4 v5 v6 v7 σ hf
    exact mm_no hf
  | succ fu ih =>
    intro v4 v5 v6 v7 σ hf
    rw [fx_X11_best_L81] at hf
    have F : mm_fr (fw_X11_best x1 x2 x3) σ σ := mm_fr.rf
    by_cases c_14 : (7 : Int32) ≤ v7
    · replace hf := mm_it c_14 hf
      by_cases c_15 : (0 : Int32) ≤ v5
      · replace hf := mm_it c_15 hf
        by_cases c_16 : x3 = (0 : Int32)
        · replace hf := mm_it c_16 hf
          exact mm_fr.ret hf F
        · replace hf := mm_if c_16 hf
          exact mm_fr.ret hf F
      · replace hf := mm_if c_15 hf
        exact mm_fr.ret hf F
    · replace hf := mm_if c_14 hf
      obtain ⟨r_17, s_17, e_17, hf⟩ := mm_bd_ok hf
      have F := F.trans ((fr_X11_farBy x1 v7 x2 v4 σ r_17 s_17 e_17).mono (fun q t i h => (fun h => h.elim (fun h => (Or.inl h)) (fun h => h.elim (fun h => (Or.inr (Or.inl h))) (fun h => h.elim (fun h => (Or.inr (Or.inr (Or.inr (Or.inl h))))) (fun h => h.elim (fun h => (Or.inr (Or.inr (Or.inr (Or.inr (Or.inl h)))))) (fun h => h.elim (fun h => (Or.inr (Or.inr (Or.inr (Or.inr (Or.inr (Or.inl h))))))) (fun h => (Or.inr (Or.inr (Or.inr (Or.inr (Or.inr (Or.inr h)))))))))))) h))
      by_cases c_18 : r_17 < (0 : Int32)
      · replace hf := mm_it c_18 hf
        exact F.trans (fr_X11_best_J121 x1 x2 x3 rv σ1 (fun z0 z1 z2 z3 z => fx_X11_best_L81 x1 x2 x3 fu z0 z1 z2 z3 z) ih v4 v5 v6 v7 r_17 s_17 hf)
      · replace hf := mm_if c_18 hf
        by_cases c_19 : v5 < (0 : Int32)
        · replace hf := mm_it c_19 hf
          exact F.trans (fr_X11_best_J122 x1 x2 x3 rv σ1 (fun z0 z1 z2 z3 z => fx_X11_best_L81 x1 x2 x3 fu z0 z1 z2 z3 z) ih v4 v5 v6 v7 r_17 (1 : Int32) s_17 hf)
        · replace hf := mm_if c_19 hf
          by_cases c_20 : v6 ≤ r_17
          · replace hf := mm_it c_20 hf
            exact F.trans (fr_X11_best_J121 x1 x2 x3 rv σ1 (fun z0 z1 z2 z3 z => fx_X11_best_L81 x1 x2 x3 fu z0 z1 z2 z3 z) ih v4 v5 v6 v7 r_17 s_17 hf)
          · replace hf := mm_if c_20 hf
            exact F.trans (fr_X11_best_J122 x1 x2 x3 rv σ1 (fun z0 z1 z2 z3 z => fx_X11_best_L81 x1 x2 x3 fu z0 z1 z2 z3 z) ih v4 v5 v6 v7 r_17 (1 : Int32) s_17 hf)
theorem fr_X11_best (x1 : Int32) (x2 : Int32) (x3 : Int32) (σ : mm_M) (rv : Int32) (σ1 : mm_M) (hf : fx_X11_best x1 x2 x3 σ = some (rv, σ1)) : mm_fr (fw_X11_best x1 x2 x3) σ σ1 := by
  rw [fx_X11_best] at hf
  have F : mm_fr (fw_X11_best x1 x2 x3) σ σ := mm_fr.rf
  obtain ⟨r_1, s_1, e_1, hf⟩ := mm_bd_ok hf
  have F := F.trans (mm_fr.eq (fr_X11_isCart x1 σ r_1 s_1 e_1))
  by_cases c_2 : r_1 = (0 : Int32)
  · replace hf := mm_it c_2 hf
    exact mm_fr.ret hf F
  · replace hf := mm_if c_2 hf
    obtain ⟨r_3, s_3, e_3, hf⟩ := mm_bd_ok hf
    have F := F.trans (mm_fr.eq (fr_X11_in x2 (1 : Int32) (999 : Int32) s_1 r_3 s_3 e_3))
    by_cases c_4 : r_3 = (0 : Int32)
    · replace hf := mm_it c_4 hf
      exact mm_fr.ret hf F
    · replace hf := mm_if c_4 hf
      obtain ⟨r_5, s_5, e_5, hf⟩ := mm_bd_ok hf
      have F := F.trans (mm_fr.eq (fr_X11_in x3 (0 : Int32) (1 : Int32) s_3 r_5 s_5 e_5))
      by_cases c_6 : r_5 = (0 : Int32)
      · replace hf := mm_it c_6 hf
        exact mm_fr.ret hf F
      · replace hf := mm_if c_6 hf
        obtain ⟨r_7, s_7, e_7, hf⟩ := mm_bd_ok hf
        have F := F.trans (mm_fr.eq (fr_X11_nextFlag x1 s_5 r_7 s_7 e_7))
        obtain ⟨r_8, s_8, e_8, hf⟩ := mm_bd_ok hf
        have F := F.trans (mm_fr.eq (fr_X11_isOut x1 s_7 r_8 s_8 e_8))
        by_cases c_9 : r_8 = (0 : Int32)
        · replace hf := mm_it c_9 hf
          obtain ⟨r_10, s_10, e_10, hf⟩ := mm_bd_ok hf
          have F := F.trans (mm_fr.eq (fr_X11_isLocked x1 (s_8 10 31 0 (1 : Int32).toNatClampNeg) s_8 r_10 s_10 e_10))
          by_cases c_11 : r_10 = (0 : Int32)
          · replace hf := mm_it c_11 hf
            by_cases c_12 : (0 : Int32) ≤ r_7
            · replace hf := mm_it c_12 hf
              obtain ⟨r_13, s_13, e_13, hf⟩ := mm_bd_ok hf
              have F := F.trans ((fr_X11_putsAside  s_10 r_13 s_13 e_13).mono (fun q t i h => (fun h => (Or.inr (Or.inr (Or.inl h)))) h))
              exact F.trans (fr_X11_best_L81 x1 x2 x3 rv σ1 mm_FU r_7 (-1 : Int32) (0 : Int32) (0 : Int32) s_13 hf)
            · replace hf := mm_if c_12 hf
              exact mm_fr.ret hf F
          · replace hf := mm_if c_11 hf
            exact mm_fr.ret hf F
        · replace hf := mm_if c_9 hf
          exact mm_fr.ret hf F
def fw_X11_spreads (x1 : Int32) (q t i : Nat) : Prop := (q = 10 ∧ t = 40)
theorem fr_X11_spreads_J49 (x1 : Int32) (rv : Int32) (σ1 : mm_M) (k4 : Int32 → Int32 → mm_M → mm_R) (hk4 : ∀ (v2 : Int32) (v3 : Int32) (σ : mm_M), k4 v2 v3 σ = some (rv, σ1) → mm_fr (fw_X11_spreads x1) σ σ1) (k13 : Int32 → Int32 → Int32 → mm_M → mm_R) (hk13 : ∀ (v2 : Int32) (v3 : Int32) (v4 : Int32) (σ : mm_M), k13 v2 v3 v4 σ = some (rv, σ1) → mm_fr (fw_X11_spreads x1) σ σ1) : ∀ (v2 : Int32) (v3 : Int32) (v4 : Int32) (w0 : Int32) (σ : mm_M), fx_X11_spreads_J49 x1 k4 k13 v2 v3 v4 w0 σ = some (rv, σ1) → mm_fr (fw_X11_spreads x1) σ σ1 := by
  intro v2 v3 v4 w0 σ hf
  rw [fx_X11_spreads_J49] at hf
  have F : mm_fr (fw_X11_spreads x1) σ σ := mm_fr.rf
  by_cases c_11 : w0 < (0 : Int32)
  · replace hf := mm_it c_11 hf
    obtain ⟨y_12, e_12, hf⟩ := mm_li_ok hf
    exact F.trans (hk13 v2 v3 y_12 σ hf)
  · replace hf := mm_if c_11 hf
    obtain ⟨h_13, hf⟩ := mm_gd_ok hf
    by_cases c_14 : (σ 10 31 0 ((11 : Int32) + w0).toNatClampNeg) = (7 : Int32)
    · replace hf := mm_it c_14 hf
      obtain ⟨y_15, e_15, hf⟩ := mm_li_ok hf
      exact F.trans (hk13 v2 v3 y_15 σ hf)
    · replace hf := mm_if c_14 hf
      obtain ⟨h_16, hf⟩ := mm_gd_ok hf
      by_cases c_17 : (0 : Int32) ≤ (σ 10 40 0 w0.toNatClampNeg)
      · replace hf := mm_it c_17 hf
        obtain ⟨y_18, e_18, hf⟩ := mm_li_ok hf
        exact F.trans (hk13 v2 v3 y_18 σ hf)
      · replace hf := mm_if c_17 hf
        obtain ⟨h_19, hf⟩ := mm_gd_ok hf
        obtain ⟨s_20, e_20, hf⟩ := mm_lt_ok hf
        have F := F.trans (mm_fr.a e_20 (fun _ => ⟨rfl, rfl⟩))
        obtain ⟨y_21, e_21, hf⟩ := mm_li_ok hf
        exact F.trans (hk13 (1 : Int32) v3 y_21 s_20 hf)
theorem fr_X11_spreads_L13 (x1 : Int32) (rv : Int32) (σ1 : mm_M) (k4 : Int32 → Int32 → mm_M → mm_R) (hk4 : ∀ (v2 : Int32) (v3 : Int32) (σ : mm_M), k4 v2 v3 σ = some (rv, σ1) → mm_fr (fw_X11_spreads x1) σ σ1) : ∀ (fu : Nat) (v2 : Int32) (v3 : Int32) (v4 : Int32) (σ : mm_M), fx_X11_spreads_L13 x1 k4 fu v2 v3 v4 σ = some (rv, σ1) → mm_fr (fw_X11_spreads x1) σ σ1 := by
  intro fu
  induction fu with
  | zero =>
    intro v2 v3 v4 σ hf
    exact mm_no hf
  | succ fu ih =>
    intro v2 v3 v4 σ hf
    rw [fx_X11_spreads_L13] at hf
    have F : mm_fr (fw_X11_spreads x1) σ σ := mm_fr.rf
    by_cases c_3 : (4 : Int32) ≤ v4
    · replace hf := mm_it c_3 hf
      obtain ⟨y_4, e_4, hf⟩ := mm_li_ok hf
      exact F.trans (hk4 v2 y_4 σ hf)
    · replace hf := mm_if c_3 hf
      obtain ⟨h_5, hf⟩ := mm_gd_ok hf
      by_cases c_6 : (σ 10 40 0 v3.toNatClampNeg) = x1
      · replace hf := mm_it c_6 hf
        obtain ⟨r_8, s_8, e_8, hf⟩ := mm_bd_ok hf
        have F := F.trans (mm_fr.eq (fr_X11_isWall v3 v4 σ r_8 s_8 e_8))
        by_cases c_9 : r_8 = (0 : Int32)
        · replace hf := mm_it c_9 hf
          obtain ⟨r_10, s_10, e_10, hf⟩ := mm_bd_ok hf
          have F := F.trans (mm_fr.eq (fr_X11_next v3 v4 s_8 r_10 s_10 e_10))
          exact F.trans (fr_X11_spreads_J49 x1 rv σ1 k4 hk4 (fun z0 z1 z2 z => fx_X11_spreads_L13 x1 k4 fu z0 z1 z2 z) ih v2 v3 v4 r_10 s_10 hf)
        · replace hf := mm_if c_9 hf
          exact F.trans (fr_X11_spreads_J49 x1 rv σ1 k4 hk4 (fun z0 z1 z2 z => fx_X11_spreads_L13 x1 k4 fu z0 z1 z2 z) ih v2 v3 v4 (-1 : Int32) s_8 hf)
      · replace hf := mm_if c_6 hf
        obtain ⟨y_7, e_7, hf⟩ := mm_li_ok hf
        exact F.trans (hk4 v2 y_7 σ hf)
theorem fr_X11_spreads_L4 (x1 : Int32) (rv : Int32) (σ1 : mm_M)  : ∀ (fu : Nat) (v2 : Int32) (v3 : Int32) (σ : mm_M), fx_X11_spreads_L4 x1 fu v2 v3 σ = some (rv, σ1) → mm_fr (fw_X11_spreads x1) σ σ1 := by
  intro fu
  induction fu with
  | zero =>
    intro v2 v3 σ hf
    exact mm_no hf
  | succ fu ih =>
    intro v2 v3 σ hf
    rw [fx_X11_spreads_L4] at hf
    have F : mm_fr (fw_X11_spreads x1) σ σ := mm_fr.rf
    by_cases c_1 : (64 : Int32) ≤ v3
    · replace hf := mm_it c_1 hf
      obtain ⟨h_2, hf⟩ := mm_gd_ok hf
      exact mm_fr.ret hf F
    · replace hf := mm_if c_1 hf
      exact F.trans (fr_X11_spreads_L13 x1 rv σ1 (fun z0 z1 z => fx_X11_spreads_L4 x1 fu z0 z1 z) ih mm_FU v2 v3 (0 : Int32) σ hf)
theorem fr_X11_spreads (x1 : Int32) (σ : mm_M) (rv : Int32) (σ1 : mm_M) (hf : fx_X11_spreads x1 σ = some (rv, σ1)) : mm_fr (fw_X11_spreads x1) σ σ1 := by
  rw [fx_X11_spreads] at hf
  have F : mm_fr (fw_X11_spreads x1) σ σ := mm_fr.rf
  exact F.trans (fr_X11_spreads_L4 x1 rv σ1 mm_FU (0 : Int32) (0 : Int32) σ hf)
def fw_X11_steps (x1 : Int32) (x2 : Int32) (q t i : Nat) : Prop := (q = 10 ∧ t = 40)
theorem fr_X11_steps_J40 (x1 : Int32) (x2 : Int32) (rv : Int32) (σ1 : mm_M) (k19 : Int32 → mm_M → mm_R) (hk19 : ∀ (v3 : Int32) (σ : mm_M), k19 v3 σ = some (rv, σ1) → mm_fr (fw_X11_steps x1 x2) σ σ1) : ∀ (v3 : Int32) (w1 : Int32) (w2 : Int32) (σ : mm_M), fx_X11_steps_J40 x1 x2 k19 v3 w1 w2 σ = some (rv, σ1) → mm_fr (fw_X11_steps x1 x2) σ σ1 := by
  intro v3 w1 w2 σ hf
  rw [fx_X11_steps_J40] at hf
  have F : mm_fr (fw_X11_steps x1 x2) σ σ := mm_fr.rf
  obtain ⟨h_12, hf⟩ := mm_gd_ok hf
  obtain ⟨s_13, e_13, hf⟩ := mm_lt_ok hf
  have F := F.trans (mm_fr.a e_13 (fun _ => ⟨rfl, rfl⟩))
  obtain ⟨y_14, e_14, hf⟩ := mm_li_ok hf
  exact F.trans (hk19 y_14 s_13 hf)
theorem fr_X11_steps_L49 (x1 : Int32) (x2 : Int32) (rv : Int32) (σ1 : mm_M)  : ∀ (fu : Nat) (v3 : Int32) (σ : mm_M), fx_X11_steps_L49 x1 x2 fu v3 σ = some (rv, σ1) → mm_fr (fw_X11_steps x1 x2) σ σ1 := by
  intro fu
  induction fu with
  | zero =>
    intro v3 σ hf
    exact mm_no hf
  | succ fu ih =>
    intro v3 σ hf
    rw [fx_X11_steps_L49] at hf
    have F : mm_fr (fw_X11_steps x1 x2) σ σ := mm_fr.rf
    obtain ⟨r_7, s_7, e_7, hf⟩ := mm_bd_ok hf
    have F := F.trans ((fr_X11_spreads v3 σ r_7 s_7 e_7).mono (fun q t i h => (fun h => h) h))
    by_cases c_8 : r_7 = (0 : Int32)
    · replace hf := mm_it c_8 hf
      obtain ⟨h_9, hf⟩ := mm_gd_ok hf
      obtain ⟨r_10, s_10, e_10, hf⟩ := mm_bd_ok hf
      have F := F.trans (mm_fr.eq (fr_X11_orNone (s_7 10 40 0 x2.toNatClampNeg) s_7 r_10 s_10 e_10))
      exact mm_fr.ret hf F
    · replace hf := mm_if c_8 hf
      obtain ⟨y_11, e_11, hf⟩ := mm_li_ok hf
      exact F.trans (ih y_11 s_7 hf)
theorem fr_X11_steps_L19 (x1 : Int32) (x2 : Int32) (rv : Int32) (σ1 : mm_M)  : ∀ (fu : Nat) (v3 : Int32) (σ : mm_M), fx_X11_steps_L19 x1 x2 fu v3 σ = some (rv, σ1) → mm_fr (fw_X11_steps x1 x2) σ σ1 := by
  intro fu
  induction fu with
  | zero =>
    intro v3 σ hf
    exact mm_no hf
  | succ fu ih =>
    intro v3 σ hf
    rw [fx_X11_steps_L19] at hf
    have F : mm_fr (fw_X11_steps x1 x2) σ σ := mm_fr.rf
    by_cases c_5 : (64 : Int32) ≤ v3
    · replace hf := mm_it c_5 hf
      exact F.trans (fr_X11_steps_L49 x1 x2 rv σ1 mm_FU (0 : Int32) σ hf)
    · replace hf := mm_if c_5 hf
      by_cases c_6 : v3 = x1
      · replace hf := mm_it c_6 hf
        exact F.trans (fr_X11_steps_J40 x1 x2 rv σ1 (fun z0 z => fx_X11_steps_L19 x1 x2 fu z0 z) ih v3 v3 (0 : Int32) σ hf)
      · replace hf := mm_if c_6 hf
        exact F.trans (fr_X11_steps_J40 x1 x2 rv σ1 (fun z0 z => fx_X11_steps_L19 x1 x2 fu z0 z) ih v3 v3 (-1 : Int32) σ hf)
theorem fr_X11_steps (x1 : Int32) (x2 : Int32) (σ : mm_M) (rv : Int32) (σ1 : mm_M) (hf : fx_X11_steps x1 x2 σ = some (rv, σ1)) : mm_fr (fw_X11_steps x1 x2) σ σ1 := by
  rw [fx_X11_steps] at hf
  have F : mm_fr (fw_X11_steps x1 x2) σ σ := mm_fr.rf
  obtain ⟨r_1, s_1, e_1, hf⟩ := mm_bd_ok hf
  have F := F.trans (mm_fr.eq (fr_X11_isCell x1 σ r_1 s_1 e_1))
  by_cases c_2 : r_1 = (0 : Int32)
  · replace hf := mm_it c_2 hf
    exact mm_fr.ret hf F
  · replace hf := mm_if c_2 hf
    obtain ⟨r_3, s_3, e_3, hf⟩ := mm_bd_ok hf
    have F := F.trans (mm_fr.eq (fr_X11_isCell x2 s_1 r_3 s_3 e_3))
    by_cases c_4 : r_3 = (0 : Int32)
    · replace hf := mm_it c_4 hf
      exact mm_fr.ret hf F
    · replace hf := mm_if c_4 hf
      exact F.trans (fr_X11_steps_L19 x1 x2 rv σ1 mm_FU (0 : Int32) s_3 hf)
def fw_X11_cartsOut  (q t i : Nat) : Prop := False
theorem fr_X11_cartsOut_J28  (rv : Int32) (σ1 : mm_M) (k4 : Int32 → Int32 → mm_M → mm_R) (hk4 : ∀ (v1 : Int32) (v2 : Int32) (σ : mm_M), k4 v1 v2 σ = some (rv, σ1) → mm_fr (fw_X11_cartsOut) σ σ1) : ∀ (v2 : Int32) (w0 : Int32) (w1 : Int32) (σ : mm_M), fx_X11_cartsOut_J28 k4 v2 w0 w1 σ = some (rv, σ1) → mm_fr (fw_X11_cartsOut) σ σ1 := by
  intro v2 w0 w1 σ hf
  rw [fx_X11_cartsOut_J28] at hf
  have F : mm_fr (fw_X11_cartsOut) σ σ := mm_fr.rf
  obtain ⟨y_4, e_4, hf⟩ := mm_li_ok hf
  obtain ⟨y_5, e_5, hf⟩ := mm_li_ok hf
  exact F.trans (hk4 y_4 y_5 σ hf)
theorem fr_X11_cartsOut_L4  (rv : Int32) (σ1 : mm_M)  : ∀ (fu : Nat) (v1 : Int32) (v2 : Int32) (σ : mm_M), fx_X11_cartsOut_L4  fu v1 v2 σ = some (rv, σ1) → mm_fr (fw_X11_cartsOut) σ σ1 := by
  intro fu
  induction fu with
  | zero =>
    intro v1 v2 σ hf
    exact mm_no hf
  | succ fu ih =>
    intro v1 v2 σ hf
    rw [fx_X11_cartsOut_L4] at hf
    have F : mm_fr (fw_X11_cartsOut) σ σ := mm_fr.rf
    by_cases c_1 : (σ 10 31 0 (0 : Int32).toNatClampNeg) ≤ v2
    · replace hf := mm_it c_1 hf
      exact mm_fr.ret hf F
    · replace hf := mm_if c_1 hf
      obtain ⟨r_2, s_2, e_2, hf⟩ := mm_bd_ok hf
      have F := F.trans (mm_fr.eq (fr_X11_isOut v2 σ r_2 s_2 e_2))
      by_cases c_3 : r_2 = (0 : Int32)
      · replace hf := mm_it c_3 hf
        exact F.trans (fr_X11_cartsOut_J28 rv σ1 (fun z0 z1 z => fx_X11_cartsOut_L4 fu z0 z1 z) ih v2 v1 (0 : Int32) s_2 hf)
      · replace hf := mm_if c_3 hf
        exact F.trans (fr_X11_cartsOut_J28 rv σ1 (fun z0 z1 z => fx_X11_cartsOut_L4 fu z0 z1 z) ih v2 v1 (1 : Int32) s_2 hf)
theorem fr_X11_cartsOut  (σ : mm_M) (rv : Int32) (σ1 : mm_M) (hf : fx_X11_cartsOut  σ = some (rv, σ1)) : σ1 = σ := by
  refine mm_fr.none (W := (fw_X11_cartsOut)) (fun _ _ _ h => h) ?_
  rw [fx_X11_cartsOut] at hf
  have F : mm_fr (fw_X11_cartsOut) σ σ := mm_fr.rf
  exact F.trans (fr_X11_cartsOut_L4 rv σ1 mm_FU (0 : Int32) (0 : Int32) σ hf)
def fw_X11_count (x1 : Int32) (q t i : Nat) : Prop := False
theorem fr_X11_count (x1 : Int32) (σ : mm_M) (rv : Int32) (σ1 : mm_M) (hf : fx_X11_count x1 σ = some (rv, σ1)) : σ1 = σ := by
  refine mm_fr.none (W := (fw_X11_count x1)) (fun _ _ _ h => h) ?_
  rw [fx_X11_count] at hf
  have F : mm_fr (fw_X11_count x1) σ σ := mm_fr.rf
  by_cases c_1 : x1 = (4 : Int32)
  · replace hf := mm_it c_1 hf
    obtain ⟨r_2, s_2, e_2, hf⟩ := mm_bd_ok hf
    have F := F.trans (mm_fr.eq (fr_X11_cartsOut  σ r_2 s_2 e_2))
    exact mm_fr.ret hf F
  replace hf := mm_if c_1 hf
  by_cases c_3 : x1 = (5 : Int32)
  · replace hf := mm_it c_3 hf
    obtain ⟨r_4, s_4, e_4, hf⟩ := mm_bd_ok hf
    have F := F.trans (mm_fr.eq (fr_X11_orNone (σ 10 31 0 (4 : Int32).toNatClampNeg) σ r_4 s_4 e_4))
    exact mm_fr.ret hf F
  replace hf := mm_if c_3 hf
  by_cases c_5 : x1 = (6 : Int32)
  · replace hf := mm_it c_5 hf
    exact mm_fr.ret hf F
  replace hf := mm_if c_5 hf
  by_cases c_6 : x1 = (7 : Int32)
  · replace hf := mm_it c_6 hf
    exact mm_fr.ret hf F
  replace hf := mm_if c_6 hf
  by_cases c_7 : x1 = (8 : Int32)
  · replace hf := mm_it c_7 hf
    exact mm_fr.ret hf F
  replace hf := mm_if c_7 hf
  by_cases c_8 : x1 = (9 : Int32)
  · replace hf := mm_it c_8 hf
    exact mm_fr.ret hf F
  replace hf := mm_if c_8 hf
  obtain ⟨r_9, s_9, e_9, hf⟩ := mm_bd_ok hf
  have F := F.trans (mm_fr.eq (fr_X11_in x1 (0 : Int32) (3 : Int32) σ r_9 s_9 e_9))
  by_cases c_10 : r_9 = (0 : Int32)
  · replace hf := mm_it c_10 hf
    exact mm_fr.ret hf F
  · replace hf := mm_if c_10 hf
    obtain ⟨h_11, hf⟩ := mm_gd_ok hf
    exact mm_fr.ret hf F
def fw_X11_undo  (q t i : Nat) : Prop := (q = 10 ∧ t = 30 ∧ i = 4) ∨ (q = 10 ∧ t = 31)
theorem fr_X11_undo_L22  (rv : Int32) (σ1 : mm_M)  : ∀ (fu : Nat) (v1 : Int32) (σ : mm_M), fx_X11_undo_L22  fu v1 σ = some (rv, σ1) → mm_fr (fw_X11_undo) σ σ1 := by
  intro fu
  induction fu with
  | zero =>
    intro v1 σ hf
    exact mm_no hf
  | succ fu ih =>
    intro v1 σ hf
    rw [fx_X11_undo_L22] at hf
    have F : mm_fr (fw_X11_undo) σ σ := mm_fr.rf
    by_cases c_3 : (207 : Int32) ≤ v1
    · replace hf := mm_it c_3 hf
      exact mm_fr.ret hf F
    · replace hf := mm_if c_3 hf
      obtain ⟨h_4, hf⟩ := mm_gd_ok hf
      obtain ⟨h_5, hf⟩ := mm_gd_ok hf
      obtain ⟨s_6, e_6, hf⟩ := mm_lt_ok hf
      have F := F.trans (mm_fr.a e_6 (fun _ => (Or.inr ⟨rfl, rfl⟩)))
      obtain ⟨y_7, e_7, hf⟩ := mm_li_ok hf
      exact F.trans (ih y_7 s_6 hf)
theorem fr_X11_undo  (σ : mm_M) (rv : Int32) (σ1 : mm_M) (hf : fx_X11_undo  σ = some (rv, σ1)) : mm_fr (fw_X11_undo) σ σ1 := by
  rw [fx_X11_undo] at hf
  have F : mm_fr (fw_X11_undo) σ σ := mm_fr.rf
  by_cases c_1 : (σ 10 30 0 4) = (0 : Int32)
  · replace hf := mm_it c_1 hf
    exact mm_fr.ret hf F
  · replace hf := mm_if c_1 hf
    obtain ⟨s_2, e_2, hf⟩ := mm_lt_ok hf
    have F := F.trans (mm_fr.u e_2 ((Or.inl ⟨rfl, rfl, rfl⟩)))
    exact F.trans (fr_X11_undo_L22 rv σ1 mm_FU (0 : Int32) s_2 hf)
def fw_X11_type (x1 : Int32) (q t i : Nat) : Prop := (q = 10 ∧ t = 30 ∧ i = 6) ∨ (q = 10 ∧ t = 35)
theorem fr_X11_type (x1 : Int32) (σ : mm_M) (rv : Int32) (σ1 : mm_M) (hf : fx_X11_type x1 σ = some (rv, σ1)) : mm_fr (fw_X11_type x1) σ σ1 := by
  rw [fx_X11_type] at hf
  have F : mm_fr (fw_X11_type x1) σ σ := mm_fr.rf
  obtain ⟨r_1, s_1, e_1, hf⟩ := mm_bd_ok hf
  have F := F.trans (mm_fr.eq (fr_X11_in x1 (32 : Int32) (126 : Int32) σ r_1 s_1 e_1))
  by_cases c_2 : r_1 = (0 : Int32)
  · replace hf := mm_it c_2 hf
    exact mm_fr.ret hf F
  · replace hf := mm_if c_2 hf
    by_cases c_3 : (s_1 10 30 0 6) = (60 : Int32)
    · replace hf := mm_it c_3 hf
      exact mm_fr.ret hf F
    · replace hf := mm_if c_3 hf
      obtain ⟨h_4, hf⟩ := mm_gd_ok hf
      obtain ⟨s_5, e_5, hf⟩ := mm_lt_ok hf
      have F := F.trans (mm_fr.a e_5 (fun _ => (Or.inr ⟨rfl, rfl⟩)))
      obtain ⟨s_6, e_6, hf⟩ := mm_lt_ok hf
      have F := F.trans (mm_fr.u e_6 ((Or.inl ⟨rfl, rfl, rfl⟩)))
      exact mm_fr.ret hf F
def fw_X11_clearText  (q t i : Nat) : Prop := (q = 10 ∧ t = 30 ∧ i = 6)
theorem fr_X11_clearText  (σ : mm_M) (rv : Int32) (σ1 : mm_M) (hf : fx_X11_clearText  σ = some (rv, σ1)) : mm_fr (fw_X11_clearText) σ σ1 := by
  rw [fx_X11_clearText] at hf
  have F : mm_fr (fw_X11_clearText) σ σ := mm_fr.rf
  obtain ⟨y_1, e_1, hf⟩ := mm_li_ok hf
  obtain ⟨s_2, e_2, hf⟩ := mm_lt_ok hf
  have F := F.trans (mm_fr.u e_2 (⟨rfl, rfl, rfl⟩))
  exact mm_fr.ret hf F
def fw_X11_here  (q t i : Nat) : Prop := False
theorem fr_X11_here  (σ : mm_M) (rv : Int32) (σ1 : mm_M) (hf : fx_X11_here  σ = some (rv, σ1)) : σ1 = σ := by
  refine mm_fr.none (W := (fw_X11_here)) (fun _ _ _ h => h) ?_
  rw [fx_X11_here] at hf
  have F : mm_fr (fw_X11_here) σ σ := mm_fr.rf
  by_cases c_1 : (σ 10 30 0 6) ≤ (σ 10 30 0 13)
  · replace hf := mm_it c_1 hf
    exact mm_fr.ret hf F
  · replace hf := mm_if c_1 hf
    obtain ⟨h_2, hf⟩ := mm_gd_ok hf
    exact mm_fr.ret hf F
def fw_X11_wantsOf (x0 : Int32) (q t i : Nat) : Prop := False
theorem fr_X11_wantsOf (x0 : Int32) (σ : mm_M) (rv : Int32) (σ1 : mm_M) (hf : fx_X11_wantsOf x0 σ = some (rv, σ1)) : σ1 = σ := by
  refine mm_fr.none (W := (fw_X11_wantsOf x0)) (fun _ _ _ h => h) ?_
  rw [fx_X11_wantsOf] at hf
  have F : mm_fr (fw_X11_wantsOf x0) σ σ := mm_fr.rf
  by_cases c_1 : x0 = (99 : Int32)
  · replace hf := mm_it c_1 hf
    exact mm_fr.ret hf F
  replace hf := mm_if c_1 hf
  by_cases c_2 : x0 = (107 : Int32)
  · replace hf := mm_it c_2 hf
    exact mm_fr.ret hf F
  replace hf := mm_if c_2 hf
  by_cases c_3 : x0 = (112 : Int32)
  · replace hf := mm_it c_3 hf
    exact mm_fr.ret hf F
  replace hf := mm_if c_3 hf
  by_cases c_4 : x0 = (119 : Int32)
  · replace hf := mm_it c_4 hf
    exact mm_fr.ret hf F
  replace hf := mm_if c_4 hf
  by_cases c_5 : x0 = (114 : Int32)
  · replace hf := mm_it c_5 hf
    exact mm_fr.ret hf F
  · replace hf := mm_if c_5 hf
    exact mm_fr.ret hf F
def fw_X11_takesSign (x1 : Int32) (q t i : Nat) : Prop := (q = 10 ∧ t = 30 ∧ i = 13) ∨ (q = 10 ∧ t = 30 ∧ i = 17)
theorem fr_X11_takesSign_J41 (x1 : Int32) (rv : Int32) (σ1 : mm_M)  : ∀ (w1 : Int32) (w2 : Int32) (σ : mm_M), fx_X11_takesSign_J41 x1 w1 w2 σ = some (rv, σ1) → mm_fr (fw_X11_takesSign x1) σ σ1 := by
  intro w1 w2 σ hf
  rw [fx_X11_takesSign_J41] at hf
  have F : mm_fr (fw_X11_takesSign x1) σ σ := mm_fr.rf
  obtain ⟨s_7, e_7, hf⟩ := mm_lt_ok hf
  have F := F.trans (mm_fr.u e_7 ((Or.inl ⟨rfl, rfl, rfl⟩)))
  exact mm_fr.ret hf F
theorem fr_X11_takesSign_J21 (x1 : Int32) (rv : Int32) (σ1 : mm_M)  : ∀ (w1 : Int32) (σ : mm_M), fx_X11_takesSign_J21 x1 w1 σ = some (rv, σ1) → mm_fr (fw_X11_takesSign x1) σ σ1 := by
  intro w1 σ hf
  rw [fx_X11_takesSign_J21] at hf
  have F : mm_fr (fw_X11_takesSign x1) σ σ := mm_fr.rf
  obtain ⟨h_4, hf⟩ := mm_gd_ok hf
  obtain ⟨s_5, e_5, hf⟩ := mm_lt_ok hf
  have F := F.trans (mm_fr.u e_5 ((Or.inr ⟨rfl, rfl, rfl⟩)))
  by_cases c_6 : (s_5 10 30 0 17) = (0 : Int32)
  · replace hf := mm_it c_6 hf
    exact F.trans (fr_X11_takesSign_J41 x1 rv σ1 (s_5 10 30 0 13) (0 : Int32) s_5 hf)
  · replace hf := mm_if c_6 hf
    exact F.trans (fr_X11_takesSign_J41 x1 rv σ1 (s_5 10 30 0 13) (1 : Int32) s_5 hf)
theorem fr_X11_takesSign_J20 (x1 : Int32) (rv : Int32) (σ1 : mm_M)  : ∀ (σ : mm_M), fx_X11_takesSign_J20 x1  σ = some (rv, σ1) → mm_fr (fw_X11_takesSign x1) σ σ1 := by
  intro  σ hf
  rw [fx_X11_takesSign_J20] at hf
  have F : mm_fr (fw_X11_takesSign x1) σ σ := mm_fr.rf
  exact F.trans (fr_X11_takesSign_J21 x1 rv σ1 (0 : Int32) σ hf)
theorem fr_X11_takesSign (x1 : Int32) (σ : mm_M) (rv : Int32) (σ1 : mm_M) (hf : fx_X11_takesSign x1 σ = some (rv, σ1)) : mm_fr (fw_X11_takesSign x1) σ σ1 := by
  rw [fx_X11_takesSign] at hf
  have F : mm_fr (fw_X11_takesSign x1) σ σ := mm_fr.rf
  by_cases c_1 : (σ 10 30 0 17) = (0 : Int32)
  · replace hf := mm_it c_1 hf
    exact F.trans (fr_X11_takesSign_J20 x1 rv σ1 σ hf)
  · replace hf := mm_if c_1 hf
    obtain ⟨r_2, s_2, e_2, hf⟩ := mm_bd_ok hf
    have F := F.trans (mm_fr.eq (fr_X11_here  σ r_2 s_2 e_2))
    by_cases c_3 : r_2 = x1
    · replace hf := mm_it c_3 hf
      exact F.trans (fr_X11_takesSign_J21 x1 rv σ1 (1 : Int32) s_2 hf)
    · replace hf := mm_if c_3 hf
      exact F.trans (fr_X11_takesSign_J20 x1 rv σ1 s_2 hf)
def fw_X11_called (x1 : Int32) (q t i : Nat) : Prop := (q = 10 ∧ t = 30 ∧ i = 9) ∨ (q = 10 ∧ t = 31) ∨ (q = 10 ∧ t = 36) ∨ (q = 10 ∧ t = 37) ∨ (q = 10 ∧ t = 38) ∨ (q = 10 ∧ t = 39)
theorem fr_X11_called (x1 : Int32) (σ : mm_M) (rv : Int32) (σ1 : mm_M) (hf : fx_X11_called x1 σ = some (rv, σ1)) : mm_fr (fw_X11_called x1) σ σ1 := by
  rw [fx_X11_called] at hf
  have F : mm_fr (fw_X11_called x1) σ σ := mm_fr.rf
  by_cases c_1 : x1 = (99 : Int32)
  · replace hf := mm_it c_1 hf
    obtain ⟨r_2, s_2, e_2, hf⟩ := mm_bd_ok hf
    have F := F.trans ((fr_X11_comes (σ 10 41 0 (0 : Int32).toNatClampNeg) (σ 10 41 0 (1 : Int32).toNatClampNeg) σ r_2 s_2 e_2).mono (fun q t i h => (fun h => (Or.inr (Or.inl h))) h))
    exact mm_fr.ret hf F
  replace hf := mm_if c_1 hf
  by_cases c_3 : x1 = (107 : Int32)
  · replace hf := mm_it c_3 hf
    obtain ⟨r_4, s_4, e_4, hf⟩ := mm_bd_ok hf
    have F := F.trans ((fr_X11_kinds (σ 10 41 0 (0 : Int32).toNatClampNeg) (σ 10 41 0 (1 : Int32).toNatClampNeg) σ r_4 s_4 e_4).mono (fun q t i h => (fun h => (Or.inr (Or.inl h))) h))
    exact mm_fr.ret hf F
  replace hf := mm_if c_3 hf
  by_cases c_5 : x1 = (112 : Int32)
  · replace hf := mm_it c_5 hf
    obtain ⟨r_6, s_6, e_6, hf⟩ := mm_bd_ok hf
    have F := F.trans ((fr_X11_cards (σ 10 41 0 (0 : Int32).toNatClampNeg) (σ 10 41 0 (1 : Int32).toNatClampNeg) (σ 10 41 0 (2 : Int32).toNatClampNeg) (σ 10 41 0 (3 : Int32).toNatClampNeg) σ r_6 s_6 e_6).mono (fun q t i h => (fun h => (Or.inr (Or.inl h))) h))
    exact mm_fr.ret hf F
  replace hf := mm_if c_5 hf
  by_cases c_7 : x1 = (119 : Int32)
  · replace hf := mm_it c_7 hf
    obtain ⟨r_8, s_8, e_8, hf⟩ := mm_bd_ok hf
    have F := F.trans ((fr_X11_walls (σ 10 41 0 (0 : Int32).toNatClampNeg) (σ 10 41 0 (1 : Int32).toNatClampNeg) σ r_8 s_8 e_8).mono (fun q t i h => (fun h => (Or.inr (Or.inl h))) h))
    exact mm_fr.ret hf F
  replace hf := mm_if c_7 hf
  obtain ⟨r_9, s_9, e_9, hf⟩ := mm_bd_ok hf
  have F := F.trans ((fr_X11_phases  σ r_9 s_9 e_9).mono (fun q t i h => (fun h => h.elim (fun h => (Or.inl h)) (fun h => h.elim (fun h => (Or.inr (Or.inl h))) (fun h => h.elim (fun h => (Or.inr (Or.inr (Or.inl h)))) (fun h => h.elim (fun h => (Or.inr (Or.inr (Or.inr (Or.inl h))))) (fun h => h.elim (fun h => (Or.inr (Or.inr (Or.inr (Or.inr (Or.inl h)))))) (fun h => (Or.inr (Or.inr (Or.inr (Or.inr (Or.inr h))))))))))) h))
  exact mm_fr.ret hf F
def fw_X11_isDigit  (q t i : Nat) : Prop := False
theorem fr_X11_isDigit  (σ : mm_M) (rv : Int32) (σ1 : mm_M) (hf : fx_X11_isDigit  σ = some (rv, σ1)) : σ1 = σ := by
  refine mm_fr.none (W := (fw_X11_isDigit)) (fun _ _ _ h => h) ?_
  rw [fx_X11_isDigit] at hf
  have F : mm_fr (fw_X11_isDigit) σ σ := mm_fr.rf
  obtain ⟨r_1, s_1, e_1, hf⟩ := mm_bd_ok hf
  have F := F.trans (mm_fr.eq (fr_X11_here  σ r_1 s_1 e_1))
  obtain ⟨r_2, s_2, e_2, hf⟩ := mm_bd_ok hf
  have F := F.trans (mm_fr.eq (fr_X11_in r_1 (48 : Int32) (57 : Int32) s_1 r_2 s_2 e_2))
  obtain ⟨h_3, hf⟩ := mm_gd_ok hf
  exact mm_fr.ret hf F
def fw_X11_number  (q t i : Nat) : Prop := (q = 10 ∧ t = 30 ∧ i = 13) ∨ (q = 10 ∧ t = 30 ∧ i = 17)
theorem fr_X11_number_L27  (rv : Int32) (σ1 : mm_M)  : ∀ (fu : Nat) (v1 : Int32) (v2 : Int32) (σ : mm_M), fx_X11_number_L27  fu v1 v2 σ = some (rv, σ1) → mm_fr (fw_X11_number) σ σ1 := by
  intro fu
  induction fu with
  | zero =>
    intro v1 v2 σ hf
    exact mm_no hf
  | succ fu ih =>
    intro v1 v2 σ hf
    rw [fx_X11_number_L27] at hf
    have F : mm_fr (fw_X11_number) σ σ := mm_fr.rf
    by_cases c_6 : (3 : Int32) ≤ v2
    · replace hf := mm_it c_6 hf
      exact mm_fr.ret hf F
    · replace hf := mm_if c_6 hf
      by_cases c_7 : (σ 10 30 0 17) = (0 : Int32)
      · replace hf := mm_it c_7 hf
        exact mm_fr.ret hf F
      · replace hf := mm_if c_7 hf
        obtain ⟨r_8, s_8, e_8, hf⟩ := mm_bd_ok hf
        have F := F.trans (mm_fr.eq (fr_X11_isDigit  σ r_8 s_8 e_8))
        by_cases c_9 : r_8 = (0 : Int32)
        · replace hf := mm_it c_9 hf
          exact mm_fr.ret hf F
        · replace hf := mm_if c_9 hf
          obtain ⟨r_10, s_10, e_10, hf⟩ := mm_bd_ok hf
          have F := F.trans (mm_fr.eq (fr_X11_here  s_8 r_10 s_10 e_10))
          obtain ⟨y_11, e_11, hf⟩ := mm_li_ok hf
          obtain ⟨s_12, e_12, hf⟩ := mm_lt_ok hf
          have F := F.trans (mm_fr.u e_12 ((Or.inl ⟨rfl, rfl, rfl⟩)))
          obtain ⟨y_13, e_13, hf⟩ := mm_li_ok hf
          exact F.trans (ih y_11 y_13 s_12 hf)
theorem fr_X11_number_J20  (rv : Int32) (σ1 : mm_M)  : ∀ (w1 : Int32) (σ : mm_M), fx_X11_number_J20  w1 σ = some (rv, σ1) → mm_fr (fw_X11_number) σ σ1 := by
  intro w1 σ hf
  rw [fx_X11_number_J20] at hf
  have F : mm_fr (fw_X11_number) σ σ := mm_fr.rf
  obtain ⟨h_4, hf⟩ := mm_gd_ok hf
  obtain ⟨s_5, e_5, hf⟩ := mm_lt_ok hf
  have F := F.trans (mm_fr.u e_5 ((Or.inr ⟨rfl, rfl, rfl⟩)))
  exact F.trans (fr_X11_number_L27 rv σ1 mm_FU (0 : Int32) (0 : Int32) s_5 hf)
theorem fr_X11_number_J19  (rv : Int32) (σ1 : mm_M)  : ∀ (σ : mm_M), fx_X11_number_J19   σ = some (rv, σ1) → mm_fr (fw_X11_number) σ σ1 := by
  intro  σ hf
  rw [fx_X11_number_J19] at hf
  have F : mm_fr (fw_X11_number) σ σ := mm_fr.rf
  exact F.trans (fr_X11_number_J20 rv σ1 (0 : Int32) σ hf)
theorem fr_X11_number  (σ : mm_M) (rv : Int32) (σ1 : mm_M) (hf : fx_X11_number  σ = some (rv, σ1)) : mm_fr (fw_X11_number) σ σ1 := by
  rw [fx_X11_number] at hf
  have F : mm_fr (fw_X11_number) σ σ := mm_fr.rf
  by_cases c_1 : (σ 10 30 0 17) = (0 : Int32)
  · replace hf := mm_it c_1 hf
    exact F.trans (fr_X11_number_J19 rv σ1 σ hf)
  · replace hf := mm_if c_1 hf
    obtain ⟨r_2, s_2, e_2, hf⟩ := mm_bd_ok hf
    have F := F.trans (mm_fr.eq (fr_X11_isDigit  σ r_2 s_2 e_2))
    by_cases c_3 : r_2 = (0 : Int32)
    · replace hf := mm_it c_3 hf
      exact F.trans (fr_X11_number_J19 rv σ1 s_2 hf)
    · replace hf := mm_if c_3 hf
      exact F.trans (fr_X11_number_J20 rv σ1 (1 : Int32) s_2 hf)
def fw_X11_doesAll  (q t i : Nat) : Prop := (q = 10 ∧ t = 30 ∧ i = 13) ∨ (q = 10 ∧ t = 30 ∧ i = 14) ∨ (q = 10 ∧ t = 30 ∧ i = 15) ∨ (q = 10 ∧ t = 30 ∧ i = 16) ∨ (q = 10 ∧ t = 30 ∧ i = 17) ∨ (q = 10 ∧ t = 30 ∧ i = 9) ∨ (q = 10 ∧ t = 31) ∨ (q = 10 ∧ t = 36) ∨ (q = 10 ∧ t = 37) ∨ (q = 10 ∧ t = 38) ∨ (q = 10 ∧ t = 39) ∨ (q = 10 ∧ t = 41)
theorem fr_X11_doesAll_J91  (rv : Int32) (σ1 : mm_M) (k10 : mm_M → mm_R) (hk10 : ∀ (σ : mm_M), k10  σ = some (rv, σ1) → mm_fr (fw_X11_doesAll) σ σ1) (k73 : Int32 → Int32 → mm_M → mm_R) (hk73 : ∀ (v1 : Int32) (v2 : Int32) (σ : mm_M), k73 v1 v2 σ = some (rv, σ1) → mm_fr (fw_X11_doesAll) σ σ1) : ∀ (v1 : Int32) (v2 : Int32) (σ : mm_M), fx_X11_doesAll_J91 k10 k73 v1 v2 σ = some (rv, σ1) → mm_fr (fw_X11_doesAll) σ σ1 := by
  intro v1 v2 σ hf
  rw [fx_X11_doesAll_J91] at hf
  have F : mm_fr (fw_X11_doesAll) σ σ := mm_fr.rf
  obtain ⟨r_23, s_23, e_23, hf⟩ := mm_bd_ok hf
  have F := F.trans ((fr_X11_number  σ r_23 s_23 e_23).mono (fun q t i h => (fun h => h.elim (fun h => (Or.inl h)) (fun h => (Or.inr (Or.inr (Or.inr (Or.inr (Or.inl h))))))) h))
  obtain ⟨h_24, hf⟩ := mm_gd_ok hf
  obtain ⟨s_25, e_25, hf⟩ := mm_lt_ok hf
  have F := F.trans (mm_fr.a e_25 (fun _ => (Or.inr (Or.inr (Or.inr (Or.inr (Or.inr (Or.inr (Or.inr (Or.inr (Or.inr (Or.inr (Or.inr ⟨rfl, rfl⟩)))))))))))))
  obtain ⟨y_26, e_26, hf⟩ := mm_li_ok hf
  exact F.trans (hk73 v1 y_26 s_25 hf)
theorem fr_X11_doesAll_J130  (rv : Int32) (σ1 : mm_M) (k10 : mm_M → mm_R) (hk10 : ∀ (σ : mm_M), k10  σ = some (rv, σ1) → mm_fr (fw_X11_doesAll) σ σ1) : ∀ (w1 : Int32) (σ : mm_M), fx_X11_doesAll_J130 k10 w1 σ = some (rv, σ1) → mm_fr (fw_X11_doesAll) σ σ1 := by
  intro w1 σ hf
  rw [fx_X11_doesAll_J130] at hf
  have F : mm_fr (fw_X11_doesAll) σ σ := mm_fr.rf
  obtain ⟨s_19, e_19, hf⟩ := mm_lt_ok hf
  have F := F.trans (mm_fr.u e_19 ((Or.inr (Or.inr (Or.inr (Or.inl ⟨rfl, rfl, rfl⟩))))))
  by_cases c_20 : (s_19 10 30 0 17) = (0 : Int32)
  · replace hf := mm_it c_20 hf
    exact mm_fr.ret hf F
  · replace hf := mm_if c_20 hf
    by_cases c_21 : (-1000001 : Int32) < (s_19 10 30 0 16)
    · replace hf := mm_it c_21 hf
      obtain ⟨s_22, e_22, hf⟩ := mm_lt_ok hf
      have F := F.trans (mm_fr.u e_22 ((Or.inr (Or.inr (Or.inl ⟨rfl, rfl, rfl⟩)))))
      exact F.trans (hk10 s_22 hf)
    · replace hf := mm_if c_21 hf
      exact mm_fr.ret hf F
theorem fr_X11_doesAll_L73  (rv : Int32) (σ1 : mm_M) (k10 : mm_M → mm_R) (hk10 : ∀ (σ : mm_M), k10  σ = some (rv, σ1) → mm_fr (fw_X11_doesAll) σ σ1) : ∀ (fu : Nat) (v1 : Int32) (v2 : Int32) (σ : mm_M), fx_X11_doesAll_L73 k10 fu v1 v2 σ = some (rv, σ1) → mm_fr (fw_X11_doesAll) σ σ1 := by
  intro fu
  induction fu with
  | zero =>
    intro v1 v2 σ hf
    exact mm_no hf
  | succ fu ih =>
    intro v1 v2 σ hf
    rw [fx_X11_doesAll_L73] at hf
    have F : mm_fr (fw_X11_doesAll) σ σ := mm_fr.rf
    obtain ⟨r_12, s_12, e_12, hf⟩ := mm_bd_ok hf
    have F := F.trans (mm_fr.eq (fr_X11_wantsOf v1 σ r_12 s_12 e_12))
    by_cases c_13 : r_12 ≤ v2
    · replace hf := mm_it c_13 hf
      obtain ⟨r_14, s_14, e_14, hf⟩ := mm_bd_ok hf
      have F := F.trans ((fr_X11_takesSign (59 : Int32) s_12 r_14 s_14 e_14).mono (fun q t i h => (fun h => h.elim (fun h => (Or.inl h)) (fun h => (Or.inr (Or.inr (Or.inr (Or.inr (Or.inl h))))))) h))
      by_cases c_15 : (s_14 10 30 0 17) = (0 : Int32)
      · replace hf := mm_it c_15 hf
        exact F.trans (fr_X11_doesAll_J130 rv σ1 k10 hk10 (0 : Int32) s_14 hf)
      · replace hf := mm_if c_15 hf
        obtain ⟨r_16, s_16, e_16, hf⟩ := mm_bd_ok hf
        have F := F.trans ((fr_X11_called v1 s_14 r_16 s_16 e_16).mono (fun q t i h => (fun h => h.elim (fun h => (Or.inr (Or.inr (Or.inr (Or.inr (Or.inr (Or.inl h))))))) (fun h => h.elim (fun h => (Or.inr (Or.inr (Or.inr (Or.inr (Or.inr (Or.inr (Or.inl h)))))))) (fun h => h.elim (fun h => (Or.inr (Or.inr (Or.inr (Or.inr (Or.inr (Or.inr (Or.inr (Or.inl h))))))))) (fun h => h.elim (fun h => (Or.inr (Or.inr (Or.inr (Or.inr (Or.inr (Or.inr (Or.inr (Or.inr (Or.inl h)))))))))) (fun h => h.elim (fun h => (Or.inr (Or.inr (Or.inr (Or.inr (Or.inr (Or.inr (Or.inr (Or.inr (Or.inr (Or.inl h))))))))))) (fun h => (Or.inr (Or.inr (Or.inr (Or.inr (Or.inr (Or.inr (Or.inr (Or.inr (Or.inr (Or.inr (Or.inl h))))))))))))))))) h))
        exact F.trans (fr_X11_doesAll_J130 rv σ1 k10 hk10 r_16 s_16 hf)
    · replace hf := mm_if c_13 hf
      by_cases c_17 : v2 ≤ (0 : Int32)
      · replace hf := mm_it c_17 hf
        exact F.trans (fr_X11_doesAll_J91 rv σ1 k10 hk10 (fun z0 z1 z => fx_X11_doesAll_L73 k10 fu z0 z1 z) ih v1 v2 s_12 hf)
      · replace hf := mm_if c_17 hf
        obtain ⟨r_18, s_18, e_18, hf⟩ := mm_bd_ok hf
        have F := F.trans ((fr_X11_takesSign (44 : Int32) s_12 r_18 s_18 e_18).mono (fun q t i h => (fun h => h.elim (fun h => (Or.inl h)) (fun h => (Or.inr (Or.inr (Or.inr (Or.inr (Or.inl h))))))) h))
        exact F.trans (fr_X11_doesAll_J91 rv σ1 k10 hk10 (fun z0 z1 z => fx_X11_doesAll_L73 k10 fu z0 z1 z) ih v1 v2 s_18 hf)
theorem fr_X11_doesAll_J67  (rv : Int32) (σ1 : mm_M) (k10 : mm_M → mm_R) (hk10 : ∀ (σ : mm_M), k10  σ = some (rv, σ1) → mm_fr (fw_X11_doesAll) σ σ1) : ∀ (v1 : Int32) (w1 : Int32) (w2 : Int32) (σ : mm_M), fx_X11_doesAll_J67 k10 v1 w1 w2 σ = some (rv, σ1) → mm_fr (fw_X11_doesAll) σ σ1 := by
  intro v1 w1 w2 σ hf
  rw [fx_X11_doesAll_J67] at hf
  have F : mm_fr (fw_X11_doesAll) σ σ := mm_fr.rf
  obtain ⟨s_11, e_11, hf⟩ := mm_lt_ok hf
  have F := F.trans (mm_fr.u e_11 ((Or.inl ⟨rfl, rfl, rfl⟩)))
  exact F.trans (fr_X11_doesAll_L73 rv σ1 k10 hk10 mm_FU v1 (0 : Int32) s_11 hf)
theorem fr_X11_doesAll_J47  (rv : Int32) (σ1 : mm_M) (k10 : mm_M → mm_R) (hk10 : ∀ (σ : mm_M), k10  σ = some (rv, σ1) → mm_fr (fw_X11_doesAll) σ σ1) : ∀ (v1 : Int32) (w1 : Int32) (σ : mm_M), fx_X11_doesAll_J47 k10 v1 w1 σ = some (rv, σ1) → mm_fr (fw_X11_doesAll) σ σ1 := by
  intro v1 w1 σ hf
  rw [fx_X11_doesAll_J47] at hf
  have F : mm_fr (fw_X11_doesAll) σ σ := mm_fr.rf
  obtain ⟨h_8, hf⟩ := mm_gd_ok hf
  obtain ⟨s_9, e_9, hf⟩ := mm_lt_ok hf
  have F := F.trans (mm_fr.u e_9 ((Or.inr (Or.inr (Or.inr (Or.inr (Or.inl ⟨rfl, rfl, rfl⟩)))))))
  by_cases c_10 : (s_9 10 30 0 17) = (0 : Int32)
  · replace hf := mm_it c_10 hf
    exact F.trans (fr_X11_doesAll_J67 rv σ1 k10 hk10 v1 (s_9 10 30 0 13) (0 : Int32) s_9 hf)
  · replace hf := mm_if c_10 hf
    exact F.trans (fr_X11_doesAll_J67 rv σ1 k10 hk10 v1 (s_9 10 30 0 13) (1 : Int32) s_9 hf)
theorem fr_X11_doesAll_L10  (rv : Int32) (σ1 : mm_M)  : ∀ (fu : Nat) (σ : mm_M), fx_X11_doesAll_L10  fu  σ = some (rv, σ1) → mm_fr (fw_X11_doesAll) σ σ1 := by
  intro fu
  induction fu with
  | zero =>
    intro  σ hf
    exact mm_no hf
  | succ fu ih =>
    intro  σ hf
    rw [fx_X11_doesAll_L10] at hf
    have F : mm_fr (fw_X11_doesAll) σ σ := mm_fr.rf
    by_cases c_3 : (σ 10 30 0 6) ≤ (σ 10 30 0 13)
    · replace hf := mm_it c_3 hf
      exact mm_fr.ret hf F
    · replace hf := mm_if c_3 hf
      obtain ⟨s_4, e_4, hf⟩ := mm_lt_ok hf
      have F := F.trans (mm_fr.u e_4 ((Or.inr (Or.inl ⟨rfl, rfl, rfl⟩))))
      obtain ⟨r_5, s_5, e_5, hf⟩ := mm_bd_ok hf
      have F := F.trans (mm_fr.eq (fr_X11_here  s_4 r_5 s_5 e_5))
      obtain ⟨r_6, s_6, e_6, hf⟩ := mm_bd_ok hf
      have F := F.trans (mm_fr.eq (fr_X11_wantsOf r_5 s_5 r_6 s_6 e_6))
      by_cases c_7 : r_6 < (0 : Int32)
      · replace hf := mm_it c_7 hf
        exact F.trans (fr_X11_doesAll_J47 rv σ1 (fun z => fx_X11_doesAll_L10 fu z) ih r_5 (0 : Int32) s_6 hf)
      · replace hf := mm_if c_7 hf
        exact F.trans (fr_X11_doesAll_J47 rv σ1 (fun z => fx_X11_doesAll_L10 fu z) ih r_5 (1 : Int32) s_6 hf)
theorem fr_X11_doesAll  (σ : mm_M) (rv : Int32) (σ1 : mm_M) (hf : fx_X11_doesAll  σ = some (rv, σ1)) : mm_fr (fw_X11_doesAll) σ σ1 := by
  rw [fx_X11_doesAll] at hf
  have F : mm_fr (fw_X11_doesAll) σ σ := mm_fr.rf
  obtain ⟨s_1, e_1, hf⟩ := mm_lt_ok hf
  have F := F.trans (mm_fr.u e_1 ((Or.inl ⟨rfl, rfl, rfl⟩)))
  obtain ⟨s_2, e_2, hf⟩ := mm_lt_ok hf
  have F := F.trans (mm_fr.u e_2 ((Or.inr (Or.inr (Or.inl ⟨rfl, rfl, rfl⟩)))))
  exact F.trans (fr_X11_doesAll_L10 rv σ1 mm_FU s_2 hf)
def fw_X11_fault (x1 : Int32) (q t i : Nat) : Prop := (q = 10 ∧ t = 30 ∧ i = 13) ∨ (q = 10 ∧ t = 30 ∧ i = 14) ∨ (q = 10 ∧ t = 30 ∧ i = 15) ∨ (q = 10 ∧ t = 30 ∧ i = 16) ∨ (q = 10 ∧ t = 30 ∧ i = 17) ∨ (q = 10 ∧ t = 30 ∧ i = 9) ∨ (q = 10 ∧ t = 31) ∨ (q = 10 ∧ t = 32) ∨ (q = 10 ∧ t = 36) ∨ (q = 10 ∧ t = 37) ∨ (q = 10 ∧ t = 38) ∨ (q = 10 ∧ t = 39) ∨ (q = 10 ∧ t = 41)
theorem fr_X11_fault (x1 : Int32) (σ : mm_M) (rv : Int32) (σ1 : mm_M) (hf : fx_X11_fault x1 σ = some (rv, σ1)) : mm_fr (fw_X11_fault x1) σ σ1 := by
  rw [fx_X11_fault] at hf
  have F : mm_fr (fw_X11_fault x1) σ σ := mm_fr.rf
  obtain ⟨r_1, s_1, e_1, hf⟩ := mm_bd_ok hf
  have F := F.trans (mm_fr.eq (fr_X11_in x1 (0 : Int32) (2 : Int32) σ r_1 s_1 e_1))
  by_cases c_2 : r_1 = (0 : Int32)
  · replace hf := mm_it c_2 hf
    exact mm_fr.ret hf F
  · replace hf := mm_if c_2 hf
    obtain ⟨r_3, s_3, e_3, hf⟩ := mm_bd_ok hf
    have F := F.trans ((fr_X11_begins  s_1 r_3 s_3 e_3).mono (fun q t i h => (fun h => (Or.inr (Or.inr (Or.inr (Or.inr (Or.inr (Or.inr (Or.inr (Or.inl h))))))))) h))
    obtain ⟨r_4, s_4, e_4, hf⟩ := mm_bd_ok hf
    have F := F.trans ((fr_X11_doesAll  s_3 r_4 s_4 e_4).mono (fun q t i h => (fun h => h.elim (fun h => (Or.inl h)) (fun h => h.elim (fun h => (Or.inr (Or.inl h))) (fun h => h.elim (fun h => (Or.inr (Or.inr (Or.inl h)))) (fun h => h.elim (fun h => (Or.inr (Or.inr (Or.inr (Or.inl h))))) (fun h => h.elim (fun h => (Or.inr (Or.inr (Or.inr (Or.inr (Or.inl h)))))) (fun h => h.elim (fun h => (Or.inr (Or.inr (Or.inr (Or.inr (Or.inr (Or.inl h))))))) (fun h => h.elim (fun h => (Or.inr (Or.inr (Or.inr (Or.inr (Or.inr (Or.inr (Or.inl h)))))))) (fun h => h.elim (fun h => (Or.inr (Or.inr (Or.inr (Or.inr (Or.inr (Or.inr (Or.inr (Or.inr (Or.inl h)))))))))) (fun h => h.elim (fun h => (Or.inr (Or.inr (Or.inr (Or.inr (Or.inr (Or.inr (Or.inr (Or.inr (Or.inr (Or.inl h))))))))))) (fun h => h.elim (fun h => (Or.inr (Or.inr (Or.inr (Or.inr (Or.inr (Or.inr (Or.inr (Or.inr (Or.inr (Or.inr (Or.inl h)))))))))))) (fun h => h.elim (fun h => (Or.inr (Or.inr (Or.inr (Or.inr (Or.inr (Or.inr (Or.inr (Or.inr (Or.inr (Or.inr (Or.inr (Or.inl h))))))))))))) (fun h => (Or.inr (Or.inr (Or.inr (Or.inr (Or.inr (Or.inr (Or.inr (Or.inr (Or.inr (Or.inr (Or.inr (Or.inr h)))))))))))))))))))))))) h))
    obtain ⟨r_5, s_5, e_5, hf⟩ := mm_bd_ok hf
    have F := F.trans ((fr_X11_returns  s_4 r_5 s_5 e_5).mono (fun q t i h => (fun h => (Or.inr (Or.inr (Or.inr (Or.inr (Or.inr (Or.inr (Or.inl h)))))))) h))
    by_cases c_6 : r_4 = (0 : Int32)
    · replace hf := mm_it c_6 hf
      by_cases c_7 : x1 = (0 : Int32)
      · replace hf := mm_it c_7 hf
        exact mm_fr.ret hf F
      · replace hf := mm_if c_7 hf
        by_cases c_8 : x1 = (1 : Int32)
        · replace hf := mm_it c_8 hf
          by_cases c_10 : (s_5 10 30 0 17) = (0 : Int32)
          · replace hf := mm_it c_10 hf
            exact mm_fr.ret hf F
          · replace hf := mm_if c_10 hf
            exact mm_fr.ret hf F
        · replace hf := mm_if c_8 hf
          by_cases c_9 : (s_5 10 30 0 17) = (0 : Int32)
          · replace hf := mm_it c_9 hf
            exact mm_fr.ret hf F
          · replace hf := mm_if c_9 hf
            exact mm_fr.ret hf F
    · replace hf := mm_if c_6 hf
      exact mm_fr.ret hf F
def fw_X11_play  (q t i : Nat) : Prop := (q = 10 ∧ t = 30 ∧ i = 13) ∨ (q = 10 ∧ t = 30 ∧ i = 14) ∨ (q = 10 ∧ t = 30 ∧ i = 15) ∨ (q = 10 ∧ t = 30 ∧ i = 16) ∨ (q = 10 ∧ t = 30 ∧ i = 17) ∨ (q = 10 ∧ t = 30 ∧ i = 4) ∨ (q = 10 ∧ t = 30 ∧ i = 9) ∨ (q = 10 ∧ t = 31) ∨ (q = 10 ∧ t = 32) ∨ (q = 10 ∧ t = 34) ∨ (q = 10 ∧ t = 36) ∨ (q = 10 ∧ t = 37) ∨ (q = 10 ∧ t = 38) ∨ (q = 10 ∧ t = 39) ∨ (q = 10 ∧ t = 41)
theorem fr_X11_play_J21  (rv : Int32) (σ1 : mm_M)  : ∀ (w1 : Int32) (σ : mm_M), fx_X11_play_J21  w1 σ = some (rv, σ1) → mm_fr (fw_X11_play) σ σ1 := by
  intro w1 σ hf
  rw [fx_X11_play_J21] at hf
  have F : mm_fr (fw_X11_play) σ σ := mm_fr.rf
  obtain ⟨r_4, s_4, e_4, hf⟩ := mm_bd_ok hf
  have F := F.trans ((fr_X11_acted w1 σ r_4 s_4 e_4).mono (fun q t i h => (fun h => h.elim (fun h => (Or.inr (Or.inr (Or.inr (Or.inr (Or.inr (Or.inl h))))))) (fun h => h.elim (fun h => (Or.inr (Or.inr (Or.inr (Or.inr (Or.inr (Or.inr (Or.inr (Or.inl h))))))))) (fun h => (Or.inr (Or.inr (Or.inr (Or.inr (Or.inr (Or.inr (Or.inr (Or.inr (Or.inr (Or.inl h))))))))))))) h))
  exact mm_fr.ret hf F
theorem fr_X11_play  (σ : mm_M) (rv : Int32) (σ1 : mm_M) (hf : fx_X11_play  σ = some (rv, σ1)) : mm_fr (fw_X11_play) σ σ1 := by
  rw [fx_X11_play] at hf
  have F : mm_fr (fw_X11_play) σ σ := mm_fr.rf
  obtain ⟨r_1, s_1, e_1, hf⟩ := mm_bd_ok hf
  have F := F.trans ((fr_X11_begins  σ r_1 s_1 e_1).mono (fun q t i h => (fun h => (Or.inr (Or.inr (Or.inr (Or.inr (Or.inr (Or.inr (Or.inr (Or.inr (Or.inl h)))))))))) h))
  obtain ⟨r_2, s_2, e_2, hf⟩ := mm_bd_ok hf
  have F := F.trans ((fr_X11_doesAll  s_1 r_2 s_2 e_2).mono (fun q t i h => (fun h => h.elim (fun h => (Or.inl h)) (fun h => h.elim (fun h => (Or.inr (Or.inl h))) (fun h => h.elim (fun h => (Or.inr (Or.inr (Or.inl h)))) (fun h => h.elim (fun h => (Or.inr (Or.inr (Or.inr (Or.inl h))))) (fun h => h.elim (fun h => (Or.inr (Or.inr (Or.inr (Or.inr (Or.inl h)))))) (fun h => h.elim (fun h => (Or.inr (Or.inr (Or.inr (Or.inr (Or.inr (Or.inr (Or.inl h)))))))) (fun h => h.elim (fun h => (Or.inr (Or.inr (Or.inr (Or.inr (Or.inr (Or.inr (Or.inr (Or.inl h))))))))) (fun h => h.elim (fun h => (Or.inr (Or.inr (Or.inr (Or.inr (Or.inr (Or.inr (Or.inr (Or.inr (Or.inr (Or.inr (Or.inl h)))))))))))) (fun h => h.elim (fun h => (Or.inr (Or.inr (Or.inr (Or.inr (Or.inr (Or.inr (Or.inr (Or.inr (Or.inr (Or.inr (Or.inr (Or.inl h))))))))))))) (fun h => h.elim (fun h => (Or.inr (Or.inr (Or.inr (Or.inr (Or.inr (Or.inr (Or.inr (Or.inr (Or.inr (Or.inr (Or.inr (Or.inr (Or.inl h)))))))))))))) (fun h => h.elim (fun h => (Or.inr (Or.inr (Or.inr (Or.inr (Or.inr (Or.inr (Or.inr (Or.inr (Or.inr (Or.inr (Or.inr (Or.inr (Or.inr (Or.inl h))))))))))))))) (fun h => (Or.inr (Or.inr (Or.inr (Or.inr (Or.inr (Or.inr (Or.inr (Or.inr (Or.inr (Or.inr (Or.inr (Or.inr (Or.inr (Or.inr h)))))))))))))))))))))))))) h))
  by_cases c_3 : r_2 = (0 : Int32)
  · replace hf := mm_it c_3 hf
    exact F.trans (fr_X11_play_J21 rv σ1 (-1000002 : Int32) s_2 hf)
  · replace hf := mm_if c_3 hf
    exact F.trans (fr_X11_play_J21 rv σ1 (s_2 10 30 0 15) s_2 hf)
