def fw_X8_cellToComeBack (r0 : Nat) (x1 : Int32) (q t i : Nat) : Prop := False
theorem fr_X8_cellToComeBack_L24 (r0 : Nat) (x1 : Int32) (rv : Int32) (σ1 : mm_M)  : ∀ (fu : Nat) (v2 : Int32) (σ : mm_M), fx_X8_cellToComeBack_L24 r0 x1 fu v2 σ = some (rv, σ1) → mm_fr (fw_X8_cellToComeBack r0 x1) σ σ1 := by
  intro fu
  induction fu with
  | zero =>
    intro v2 σ hf
    exact mm_no hf
  | succ fu ih =>
    intro v2 σ hf
    rw [fx_X8_cellToComeBack_L24] at hf
    have F : mm_fr (fw_X8_cellToComeBack r0 x1) σ σ := mm_fr.rf
    by_cases c_5 : (64 : Int32) ≤ v2
    · replace hf := mm_it c_5 hf
      exact mm_fr.ret hf F
    · replace hf := mm_if c_5 hf
      obtain ⟨r_6, s_6, e_6, hf⟩ := mm_bd_ok hf
      have F := F.trans (mm_fr.eq (fr_X1_isPit r0 v2 σ r_6 s_6 e_6))
      by_cases c_7 : r_6 = (0 : Int32)
      · replace hf := mm_it c_7 hf
        obtain ⟨r_9, s_9, e_9, hf⟩ := mm_bd_ok hf
        have F := F.trans (mm_fr.eq (fr_X8_cartOn r0 v2 s_6 r_9 s_9 e_9))
        by_cases c_10 : r_9 = (-1 : Int32)
        · replace hf := mm_it c_10 hf
          exact mm_fr.ret hf F
        · replace hf := mm_if c_10 hf
          obtain ⟨y_11, e_11, hf⟩ := mm_li_ok hf
          exact F.trans (ih y_11 s_9 hf)
      · replace hf := mm_if c_7 hf
        obtain ⟨y_8, e_8, hf⟩ := mm_li_ok hf
        exact F.trans (ih y_8 s_6 hf)
theorem fr_X8_cellToComeBack (r0 : Nat) (x1 : Int32) (σ : mm_M) (rv : Int32) (σ1 : mm_M) (hf : fx_X8_cellToComeBack r0 x1 σ = some (rv, σ1)) : σ1 = σ := by
  refine mm_fr.none (W := (fw_X8_cellToComeBack r0 x1)) (fun _ _ _ h => h) ?_
  rw [fx_X8_cellToComeBack] at hf
  have F : mm_fr (fw_X8_cellToComeBack r0 x1) σ σ := mm_fr.rf
  obtain ⟨r_1, s_1, e_1, hf⟩ := mm_bd_ok hf
  have F := F.trans (mm_fr.eq (fr_X1_isPit r0 x1 σ r_1 s_1 e_1))
  by_cases c_2 : r_1 = (0 : Int32)
  · replace hf := mm_it c_2 hf
    obtain ⟨r_3, s_3, e_3, hf⟩ := mm_bd_ok hf
    have F := F.trans (mm_fr.eq (fr_X8_cartOn r0 x1 s_1 r_3 s_3 e_3))
    by_cases c_4 : r_3 = (-1 : Int32)
    · replace hf := mm_it c_4 hf
      exact mm_fr.ret hf F
    · replace hf := mm_if c_4 hf
      exact F.trans (fr_X8_cellToComeBack_L24 r0 x1 rv σ1 mm_FU (0 : Int32) s_3 hf)
  · replace hf := mm_if c_2 hf
    exact F.trans (fr_X8_cellToComeBack_L24 r0 x1 rv σ1 mm_FU (0 : Int32) s_1 hf)
def fw_X8_bringBack (r0 : Nat) (q t i : Nat) : Prop := (q = r0 ∧ t = 6 ∧ i = 3) ∨ (q = r0 ∧ t = 6 ∧ i = 4) ∨ (q = r0 ∧ t = 6 ∧ i = 5) ∨ (q = r0 ∧ t = 8)
theorem fr_X8_bringBack_L2 (r0 : Nat) (rv : Int32) (σ1 : mm_M)  : ∀ (fu : Nat) (v1 : Int32) (σ : mm_M), fx_X8_bringBack_L2 r0 fu v1 σ = some (rv, σ1) → mm_fr (fw_X8_bringBack r0) σ σ1 := by
  intro fu
  induction fu with
  | zero =>
    intro v1 σ hf
    exact mm_no hf
  | succ fu ih =>
    intro v1 σ hf
    rw [fx_X8_bringBack_L2] at hf
    have F : mm_fr (fw_X8_bringBack r0) σ σ := mm_fr.rf
    by_cases c_1 : (σ r0 0 0 2) ≤ v1
    · replace hf := mm_it c_1 hf
      exact mm_fr.ret hf F
    · replace hf := mm_if c_1 hf
      obtain ⟨h_2, hf⟩ := mm_gd_ok hf
      obtain ⟨r_3, s_3, e_3, hf⟩ := mm_bd_ok hf
      have F := F.trans (mm_fr.eq (fr_X3_isOut r0 v1.toNatClampNeg σ r_3 s_3 e_3))
      by_cases c_4 : r_3 = (0 : Int32)
      · replace hf := mm_it c_4 hf
        obtain ⟨y_5, e_5, hf⟩ := mm_li_ok hf
        exact F.trans (ih y_5 s_3 hf)
      · replace hf := mm_if c_4 hf
        obtain ⟨r_6, s_6, e_6, hf⟩ := mm_bd_ok hf
        have F := F.trans (mm_fr.eq (fr_X8_cellToComeBack r0 (s_3 r0 6 v1.toNatClampNeg 2) s_3 r_6 s_6 e_6))
        obtain ⟨s_7, e_7, hf⟩ := mm_lt_ok hf
        have F := F.trans (mm_fr.u e_7 ((Or.inl ⟨rfl, rfl, rfl⟩)))
        obtain ⟨s_8, e_8, hf⟩ := mm_lt_ok hf
        have F := F.trans (mm_fr.u e_8 ((Or.inr (Or.inl ⟨rfl, rfl, rfl⟩))))
        obtain ⟨s_9, e_9, hf⟩ := mm_lt_ok hf
        have F := F.trans (mm_fr.u e_9 ((Or.inr (Or.inr (Or.inl ⟨rfl, rfl, rfl⟩)))))
        obtain ⟨r_10, s_10, e_10, hf⟩ := mm_bd_ok hf
        have F := F.trans ((fr_X3_emptyRegisters r0 v1.toNatClampNeg (5 : Int32) s_9 r_10 s_10 e_10).mono (fun q t i h => (fun h => (Or.inr (Or.inr (Or.inr h)))) h))
        obtain ⟨y_11, e_11, hf⟩ := mm_li_ok hf
        exact F.trans (ih y_11 s_10 hf)
theorem fr_X8_bringBack (r0 : Nat) (σ : mm_M) (rv : Int32) (σ1 : mm_M) (hf : fx_X8_bringBack r0 σ = some (rv, σ1)) : mm_fr (fw_X8_bringBack r0) σ σ1 := by
  rw [fx_X8_bringBack] at hf
  have F : mm_fr (fw_X8_bringBack r0) σ σ := mm_fr.rf
  exact F.trans (fr_X8_bringBack_L2 r0 rv σ1 mm_FU (0 : Int32) σ hf)
def fw_X2_step (r1 : Nat) (x2 : Int32) (x3 : Int32) (q t i : Nat) : Prop := (q = 7 ∧ t = 15) ∨ (q = r1 ∧ t = 0 ∧ i = 6) ∨ (q = r1 ∧ t = 6 ∧ i = 3) ∨ (q = r1 ∧ t = 6 ∧ i = 7)
theorem fr_X2_step_L75 (r1 : Nat) (x2 : Int32) (x3 : Int32) (rv : Int32) (σ1 : mm_M)  : ∀ (fu : Nat) (v4 : Int32) (v6 : Int32) (σ : mm_M), fx_X2_step_L75 r1 x2 x3 fu v4 v6 σ = some (rv, σ1) → mm_fr (fw_X2_step r1 x2 x3) σ σ1 := by
  intro fu
  induction fu with
  | zero =>
    intro v4 v6 σ hf
    exact mm_no hf
  | succ fu ih =>
    intro v4 v6 σ hf
    rw [fx_X2_step_L75] at hf
    have F : mm_fr (fw_X2_step r1 x2 x3) σ σ := mm_fr.rf
    by_cases c_12 : v4 ≤ v6
    · replace hf := mm_it c_12 hf
      obtain ⟨s_13, e_13, hf⟩ := mm_lt_ok hf
      have F := F.trans (mm_fr.u e_13 ((Or.inr (Or.inl ⟨rfl, rfl, rfl⟩))))
      exact mm_fr.ret hf F
    · replace hf := mm_if c_12 hf
      obtain ⟨h_14, hf⟩ := mm_gd_ok hf
      obtain ⟨h_15, hf⟩ := mm_gd_ok hf
      obtain ⟨r_16, s_16, e_16, hf⟩ := mm_bd_ok hf
      have F := F.trans (mm_fr.eq (fr_X1_neighbour (σ r1 6 ((σ 7 15 0 v6.toNatClampNeg).toNatClampNeg) 3) x3 σ r_16 s_16 e_16))
      obtain ⟨r_17, s_17, e_17, hf⟩ := mm_bd_ok hf
      have F := F.trans ((fr_X8_enter r1 r1 ((σ 7 15 0 v6.toNatClampNeg).toNatClampNeg) r_16 s_16 r_17 s_17 e_17).mono (fun q t i h => (fun h => h.elim (fun h => (Or.inr (Or.inr (Or.inl h)))) (fun h => (Or.inr (Or.inr (Or.inr h))))) h))
      obtain ⟨y_18, e_18, hf⟩ := mm_li_ok hf
      exact F.trans (ih v4 y_18 s_17 hf)
theorem fr_X2_step_L6 (r1 : Nat) (x2 : Int32) (x3 : Int32) (rv : Int32) (σ1 : mm_M)  : ∀ (fu : Nat) (v4 : Int32) (v5 : Int32) (σ : mm_M), fx_X2_step_L6 r1 x2 x3 fu v4 v5 σ = some (rv, σ1) → mm_fr (fw_X2_step r1 x2 x3) σ σ1 := by
  intro fu
  induction fu with
  | zero =>
    intro v4 v5 σ hf
    exact mm_no hf
  | succ fu ih =>
    intro v4 v5 σ hf
    rw [fx_X2_step_L6] at hf
    have F : mm_fr (fw_X2_step r1 x2 x3) σ σ := mm_fr.rf
    by_cases c_1 : v5 = (-1 : Int32)
    · replace hf := mm_it c_1 hf
      exact F.trans (fr_X2_step_L75 r1 x2 x3 rv σ1 mm_FU v4 (0 : Int32) σ hf)
    · replace hf := mm_if c_1 hf
      by_cases c_2 : (4 : Int32) ≤ v4
      · replace hf := mm_it c_2 hf
        exact F.trans (fr_X2_step_L75 r1 x2 x3 rv σ1 mm_FU v4 (0 : Int32) σ hf)
      · replace hf := mm_if c_2 hf
        obtain ⟨h_3, hf⟩ := mm_gd_ok hf
        obtain ⟨y_4, e_4, hf⟩ := mm_li_ok hf
        obtain ⟨r_5, s_5, e_5, hf⟩ := mm_bd_ok hf
        have F := F.trans (mm_fr.eq (fr_X1_hasWall r1 y_4 x3 σ r_5 s_5 e_5))
        by_cases c_6 : r_5 = (0 : Int32)
        · replace hf := mm_it c_6 hf
          obtain ⟨h_7, hf⟩ := mm_gd_ok hf
          obtain ⟨s_8, e_8, hf⟩ := mm_lt_ok hf
          have F := F.trans (mm_fr.a e_8 (fun _ => (Or.inl ⟨rfl, rfl⟩)))
          obtain ⟨y_9, e_9, hf⟩ := mm_li_ok hf
          obtain ⟨r_10, s_10, e_10, hf⟩ := mm_bd_ok hf
          have F := F.trans (mm_fr.eq (fr_X1_neighbour y_4 x3 s_8 r_10 s_10 e_10))
          obtain ⟨r_11, s_11, e_11, hf⟩ := mm_bd_ok hf
          have F := F.trans (mm_fr.eq (fr_X8_cartOn r1 r_10 s_10 r_11 s_11 e_11))
          exact F.trans (ih y_9 r_11 s_11 hf)
        · replace hf := mm_if c_6 hf
          exact mm_fr.ret hf F
theorem fr_X2_step (r1 : Nat) (x2 : Int32) (x3 : Int32) (σ : mm_M) (rv : Int32) (σ1 : mm_M) (hf : fx_X2_step r1 x2 x3 σ = some (rv, σ1)) : mm_fr (fw_X2_step r1 x2 x3) σ σ1 := by
  rw [fx_X2_step] at hf
  have F : mm_fr (fw_X2_step r1 x2 x3) σ σ := mm_fr.rf
  exact F.trans (fr_X2_step_L6 r1 x2 x3 rv σ1 mm_FU (0 : Int32) x2 σ hf)
def fw_X3_bump (r0 : Nat) (n0 : Nat) (q t i : Nat) : Prop := (q = r0 ∧ t = 6 ∧ i = 5) ∨ (q = r0 ∧ t = 6 ∧ i = 8)
theorem fr_X3_bump (r0 : Nat) (n0 : Nat) (σ : mm_M) (rv : Int32) (σ1 : mm_M) (hf : fx_X3_bump r0 n0 σ = some (rv, σ1)) : mm_fr (fw_X3_bump r0 n0) σ σ1 := by
  rw [fx_X3_bump] at hf
  have F : mm_fr (fw_X3_bump r0 n0) σ σ := mm_fr.rf
  obtain ⟨s_1, e_1, hf⟩ := mm_lt_ok hf
  have F := F.trans (mm_fr.u e_1 ((Or.inr ⟨rfl, rfl, rfl⟩)))
  obtain ⟨r_2, s_2, e_2, hf⟩ := mm_bd_ok hf
  have F := F.trans ((fr_X3_addDamage r0 n0 (1 : Int32) s_1 r_2 s_2 e_2).mono (fun q t i h => (fun h => (Or.inl h)) h))
  exact mm_fr.ret hf F
def fw_X2_follow (r1 : Nat) (x2 : Int32) (q t i : Nat) : Prop := (q = 7 ∧ t = 15) ∨ (q = r1 ∧ t = 0 ∧ i = 6) ∨ (q = r1 ∧ t = 6 ∧ i = 3) ∨ (q = r1 ∧ t = 6 ∧ i = 4) ∨ (q = r1 ∧ t = 6 ∧ i = 5) ∨ (q = r1 ∧ t = 6 ∧ i = 7) ∨ (q = r1 ∧ t = 6 ∧ i = 8)
theorem fr_X2_follow_J176 (r1 : Nat) (x2 : Int32) (rv : Int32) (σ1 : mm_M) (k141 : Int32 → Int32 → Int32 → Int32 → mm_M → mm_R) (hk141 : ∀ (v5 : Int32) (v6 : Int32) (v7 : Int32) (v8 : Int32) (σ : mm_M), k141 v5 v6 v7 v8 σ = some (rv, σ1) → mm_fr (fw_X2_follow r1 x2) σ σ1) : ∀ (v5 : Int32) (v6 : Int32) (v8 : Int32) (w0 : Int32) (σ : mm_M), fx_X2_follow_J176 r1 x2 k141 v5 v6 v8 w0 σ = some (rv, σ1) → mm_fr (fw_X2_follow r1 x2) σ σ1 := by
  intro v5 v6 v8 w0 σ hf
  rw [fx_X2_follow_J176] at hf
  have F : mm_fr (fw_X2_follow r1 x2) σ σ := mm_fr.rf
  obtain ⟨y_27, e_27, hf⟩ := mm_li_ok hf
  exact F.trans (hk141 v5 v6 w0 y_27 σ hf)
theorem fr_X2_follow_J184 (r1 : Nat) (x2 : Int32) (rv : Int32) (σ1 : mm_M)  : ∀ (v7 : Int32) (σ : mm_M), fx_X2_follow_J184 r1 x2 v7 σ = some (rv, σ1) → mm_fr (fw_X2_follow r1 x2) σ σ1 := by
  intro v7 σ hf
  rw [fx_X2_follow_J184] at hf
  have F : mm_fr (fw_X2_follow r1 x2) σ σ := mm_fr.rf
  by_cases c_25 : v7 = (0 : Int32)
  · replace hf := mm_it c_25 hf
    exact mm_fr.ret hf F
  · replace hf := mm_if c_25 hf
    obtain ⟨r_26, s_26, e_26, hf⟩ := mm_bd_ok hf
    have F := F.trans ((fr_X3_bump r1 x2.toNatClampNeg σ r_26 s_26 e_26).mono (fun q t i h => (fun h => h.elim (fun h => (Or.inr (Or.inr (Or.inr (Or.inr (Or.inl h)))))) (fun h => (Or.inr (Or.inr (Or.inr (Or.inr (Or.inr (Or.inr h)))))))) h))
    exact mm_fr.ret hf F
theorem fr_X2_follow_L141 (r1 : Nat) (x2 : Int32) (rv : Int32) (σ1 : mm_M)  : ∀ (fu : Nat) (v5 : Int32) (v6 : Int32) (v7 : Int32) (v8 : Int32) (σ : mm_M), fx_X2_follow_L141 r1 x2 fu v5 v6 v7 v8 σ = some (rv, σ1) → mm_fr (fw_X2_follow r1 x2) σ σ1 := by
  intro fu
  induction fu with
  | zero =>
    intro v5 v6 v7 v8 σ hf
    exact mm_no hf
  | succ fu ih =>
    intro v5 v6 v7 v8 σ hf
    rw [fx_X2_follow_L141] at hf
    have F : mm_fr (fw_X2_follow r1 x2) σ σ := mm_fr.rf
    by_cases c_19 : v6 ≤ v8
    · replace hf := mm_it c_19 hf
      exact F.trans (fr_X2_follow_J184 r1 x2 rv σ1 v7 σ hf)
    · replace hf := mm_if c_19 hf
      by_cases c_20 : v7 = (0 : Int32)
      · replace hf := mm_it c_20 hf
        obtain ⟨r_21, s_21, e_21, hf⟩ := mm_bd_ok hf
        have F := F.trans (mm_fr.eq (fr_X3_isOut r1 x2.toNatClampNeg σ r_21 s_21 e_21))
        by_cases c_22 : r_21 = (0 : Int32)
        · replace hf := mm_it c_22 hf
          obtain ⟨r_23, s_23, e_23, hf⟩ := mm_bd_ok hf
          have F := F.trans ((fr_X2_step r1 x2 v5 s_21 r_23 s_23 e_23).mono (fun q t i h => (fun h => h.elim (fun h => (Or.inl h)) (fun h => h.elim (fun h => (Or.inr (Or.inl h))) (fun h => h.elim (fun h => (Or.inr (Or.inr (Or.inl h)))) (fun h => (Or.inr (Or.inr (Or.inr (Or.inr (Or.inr (Or.inl h)))))))))) h))
          by_cases c_24 : r_23 = (0 : Int32)
          · replace hf := mm_it c_24 hf
            exact F.trans (fr_X2_follow_J176 r1 x2 rv σ1 (fun z0 z1 z2 z3 z => fx_X2_follow_L141 r1 x2 fu z0 z1 z2 z3 z) ih v5 v6 v8 (1 : Int32) s_23 hf)
          · replace hf := mm_if c_24 hf
            exact F.trans (fr_X2_follow_J176 r1 x2 rv σ1 (fun z0 z1 z2 z3 z => fx_X2_follow_L141 r1 x2 fu z0 z1 z2 z3 z) ih v5 v6 v8 (0 : Int32) s_23 hf)
        · replace hf := mm_if c_22 hf
          exact F.trans (fr_X2_follow_J184 r1 x2 rv σ1 v7 s_21 hf)
      · replace hf := mm_if c_20 hf
        exact F.trans (fr_X2_follow_J184 r1 x2 rv σ1 v7 σ hf)
theorem fr_X2_follow_J135 (r1 : Nat) (x2 : Int32) (rv : Int32) (σ1 : mm_M)  : ∀ (v5 : Int32) (v6 : Int32) (σ : mm_M), fx_X2_follow_J135 r1 x2 v5 v6 σ = some (rv, σ1) → mm_fr (fw_X2_follow r1 x2) σ σ1 := by
  intro v5 v6 σ hf
  rw [fx_X2_follow_J135] at hf
  have F : mm_fr (fw_X2_follow r1 x2) σ σ := mm_fr.rf
  exact F.trans (fr_X2_follow_L141 r1 x2 rv σ1 mm_FU v5 v6 (0 : Int32) (0 : Int32) σ hf)
theorem fr_X2_follow (r1 : Nat) (x2 : Int32) (σ : mm_M) (rv : Int32) (σ1 : mm_M) (hf : fx_X2_follow r1 x2 σ = some (rv, σ1)) : mm_fr (fw_X2_follow r1 x2) σ σ1 := by
  rw [fx_X2_follow] at hf
  have F : mm_fr (fw_X2_follow r1 x2) σ σ := mm_fr.rf
  obtain ⟨h_1, hf⟩ := mm_gd_ok hf
  obtain ⟨r_2, s_2, e_2, hf⟩ := mm_bd_ok hf
  have F := F.trans (mm_fr.eq (fr_X3_isOut r1 x2.toNatClampNeg σ r_2 s_2 e_2))
  by_cases c_3 : r_2 = (0 : Int32)
  · replace hf := mm_it c_3 hf
    obtain ⟨h_4, hf⟩ := mm_gd_ok hf
    obtain ⟨y_5, e_5, hf⟩ := mm_li_ok hf
    obtain ⟨y_6, e_6, hf⟩ := mm_li_ok hf
    by_cases c_7 : y_5 = (3 : Int32)
    · replace hf := mm_it c_7 hf
      obtain ⟨r_8, s_8, e_8, hf⟩ := mm_bd_ok hf
      have F := F.trans (mm_fr.eq (fr_X10_turned (s_2 r1 6 x2.toNatClampNeg 4) (2 : Int32) s_2 r_8 s_8 e_8))
      exact F.trans (fr_X2_follow_J135 r1 x2 rv σ1 r_8 (1 : Int32) s_8 hf)
    replace hf := mm_if c_7 hf
    by_cases c_9 : y_5 = (4 : Int32)
    · replace hf := mm_it c_9 hf
      obtain ⟨r_10, s_10, e_10, hf⟩ := mm_bd_ok hf
      have F := F.trans (mm_fr.eq (fr_X10_turned (s_2 r1 6 x2.toNatClampNeg 4) (3 : Int32) s_2 r_10 s_10 e_10))
      obtain ⟨s_11, e_11, hf⟩ := mm_lt_ok hf
      have F := F.trans (mm_fr.u e_11 ((Or.inr (Or.inr (Or.inr (Or.inl ⟨rfl, rfl, rfl⟩))))))
      exact F.trans (fr_X2_follow_J135 r1 x2 rv σ1 y_6 (0 : Int32) s_11 hf)
    replace hf := mm_if c_9 hf
    by_cases c_12 : y_5 = (5 : Int32)
    · replace hf := mm_it c_12 hf
      obtain ⟨r_13, s_13, e_13, hf⟩ := mm_bd_ok hf
      have F := F.trans (mm_fr.eq (fr_X10_turned (s_2 r1 6 x2.toNatClampNeg 4) (1 : Int32) s_2 r_13 s_13 e_13))
      obtain ⟨s_14, e_14, hf⟩ := mm_lt_ok hf
      have F := F.trans (mm_fr.u e_14 ((Or.inr (Or.inr (Or.inr (Or.inl ⟨rfl, rfl, rfl⟩))))))
      exact F.trans (fr_X2_follow_J135 r1 x2 rv σ1 y_6 (0 : Int32) s_14 hf)
    replace hf := mm_if c_12 hf
    by_cases c_15 : y_5 = (6 : Int32)
    · replace hf := mm_it c_15 hf
      obtain ⟨r_16, s_16, e_16, hf⟩ := mm_bd_ok hf
      have F := F.trans (mm_fr.eq (fr_X10_turned (s_2 r1 6 x2.toNatClampNeg 4) (2 : Int32) s_2 r_16 s_16 e_16))
      obtain ⟨s_17, e_17, hf⟩ := mm_lt_ok hf
      have F := F.trans (mm_fr.u e_17 ((Or.inr (Or.inr (Or.inr (Or.inl ⟨rfl, rfl, rfl⟩))))))
      exact F.trans (fr_X2_follow_J135 r1 x2 rv σ1 y_6 (0 : Int32) s_17 hf)
    replace hf := mm_if c_15 hf
    obtain ⟨y_18, e_18, hf⟩ := mm_li_ok hf
    exact F.trans (fr_X2_follow_J135 r1 x2 rv σ1 y_6 y_18 s_2 hf)
  · replace hf := mm_if c_3 hf
    exact mm_fr.ret hf F
def fw_X7_runNext (r1 : Nat) (q t i : Nat) : Prop := (q = 7 ∧ t = 14) ∨ (q = 7 ∧ t = 15) ∨ (q = 7 ∧ t = 17) ∨ (q = 7 ∧ t = 18) ∨ (q = 7 ∧ t = 19) ∨ (q = r1 ∧ t = 0 ∧ i = 3) ∨ (q = r1 ∧ t = 0 ∧ i = 4) ∨ (q = r1 ∧ t = 0 ∧ i = 5) ∨ (q = r1 ∧ t = 0 ∧ i = 6) ∨ (q = r1 ∧ t = 0 ∧ i = 7) ∨ (q = r1 ∧ t = 6 ∧ i = 3) ∨ (q = r1 ∧ t = 6 ∧ i = 4) ∨ (q = r1 ∧ t = 6 ∧ i = 5) ∨ (q = r1 ∧ t = 6 ∧ i = 6) ∨ (q = r1 ∧ t = 6 ∧ i = 7) ∨ (q = r1 ∧ t = 6 ∧ i = 8) ∨ (q = r1 ∧ t = 8)
theorem fr_X7_runNext_J92 (r1 : Nat) (rv : Int32) (σ1 : mm_M)  : ∀ (v2 : Int32) (σ : mm_M), fx_X7_runNext_J92 r1 v2 σ = some (rv, σ1) → mm_fr (fw_X7_runNext r1) σ σ1 := by
  intro v2 σ hf
  rw [fx_X7_runNext_J92] at hf
  have F : mm_fr (fw_X7_runNext r1) σ σ := mm_fr.rf
  obtain ⟨r_15, s_15, e_15, hf⟩ := mm_bd_ok hf
  have F := F.trans (mm_fr.eq (fr_X8_timesOut r1 σ r_15 s_15 e_15))
  exact mm_fr.ret hf F
theorem fr_X7_runNext_L27 (r1 : Nat) (rv : Int32) (σ1 : mm_M)  : ∀ (fu : Nat) (v2 : Int32) (v3 : Int32) (v4 : Int32) (σ : mm_M), fx_X7_runNext_L27 r1 fu v2 v3 v4 σ = some (rv, σ1) → mm_fr (fw_X7_runNext r1) σ σ1 := by
  intro fu
  induction fu with
  | zero =>
    intro v2 v3 v4 σ hf
    exact mm_no hf
  | succ fu ih =>
    intro v2 v3 v4 σ hf
    rw [fx_X7_runNext_L27] at hf
    have F : mm_fr (fw_X7_runNext r1) σ σ := mm_fr.rf
    by_cases c_4 : v3 ≤ v4
    · replace hf := mm_it c_4 hf
      obtain ⟨r_5, s_5, e_5, hf⟩ := mm_bd_ok hf
      have F := F.trans ((fr_X0_carry r1 σ r_5 s_5 e_5).mono (fun q t i h => (fun h => h.elim (fun h => (Or.inr (Or.inr (Or.inl h)))) (fun h => h.elim (fun h => (Or.inr (Or.inr (Or.inr (Or.inl h))))) (fun h => h.elim (fun h => (Or.inr (Or.inr (Or.inr (Or.inr (Or.inl h)))))) (fun h => h.elim (fun h => (Or.inr (Or.inr (Or.inr (Or.inr (Or.inr (Or.inr (Or.inr (Or.inr (Or.inr (Or.inr (Or.inl h)))))))))))) (fun h => (Or.inr (Or.inr (Or.inr (Or.inr (Or.inr (Or.inr (Or.inr (Or.inr (Or.inr (Or.inr (Or.inr (Or.inr (Or.inr (Or.inr (Or.inl h)))))))))))))))))))) h))
      obtain ⟨r_6, s_6, e_6, hf⟩ := mm_bd_ok hf
      have F := F.trans ((fr_X8_turnOnGears r1 s_5 r_6 s_6 e_6).mono (fun q t i h => (fun h => (Or.inr (Or.inr (Or.inr (Or.inr (Or.inr (Or.inr (Or.inr (Or.inr (Or.inr (Or.inr (Or.inr (Or.inl h))))))))))))) h))
      obtain ⟨r_7, s_7, e_7, hf⟩ := mm_bd_ok hf
      have F := F.trans ((fr_X8_touchFlags r1 s_6 r_7 s_7 e_7).mono (fun q t i h => (fun h => h.elim (fun h => (Or.inr (Or.inr (Or.inr (Or.inr (Or.inr (Or.inr (Or.inr (Or.inr (Or.inr (Or.inl h))))))))))) (fun h => (Or.inr (Or.inr (Or.inr (Or.inr (Or.inr (Or.inr (Or.inr (Or.inr (Or.inr (Or.inr (Or.inr (Or.inr (Or.inr (Or.inl h)))))))))))))))) h))
      obtain ⟨r_8, s_8, e_8, hf⟩ := mm_bd_ok hf
      have F := F.trans ((fr_X8_countPhase r1 s_7 r_8 s_8 e_8).mono (fun q t i h => (fun h => h.elim (fun h => (Or.inr (Or.inr (Or.inr (Or.inr (Or.inr (Or.inl h))))))) (fun h => h.elim (fun h => (Or.inr (Or.inr (Or.inr (Or.inr (Or.inr (Or.inr (Or.inl h)))))))) (fun h => (Or.inr (Or.inr (Or.inr (Or.inr (Or.inr (Or.inr (Or.inr (Or.inl h))))))))))) h))
      by_cases c_9 : (s_8 r1 0 0 3) = (0 : Int32)
      · replace hf := mm_it c_9 hf
        obtain ⟨r_10, s_10, e_10, hf⟩ := mm_bd_ok hf
        have F := F.trans ((fr_X8_repairAndClear r1 s_8 r_10 s_10 e_10).mono (fun q t i h => (fun h => h.elim (fun h => (Or.inr (Or.inr (Or.inr (Or.inr (Or.inr (Or.inr (Or.inr (Or.inr (Or.inr (Or.inr (Or.inr (Or.inr (Or.inl h)))))))))))))) (fun h => (Or.inr (Or.inr (Or.inr (Or.inr (Or.inr (Or.inr (Or.inr (Or.inr (Or.inr (Or.inr (Or.inr (Or.inr (Or.inr (Or.inr (Or.inr (Or.inr h)))))))))))))))))) h))
        obtain ⟨r_11, s_11, e_11, hf⟩ := mm_bd_ok hf
        have F := F.trans ((fr_X8_bringBack r1 s_10 r_11 s_11 e_11).mono (fun q t i h => (fun h => h.elim (fun h => (Or.inr (Or.inr (Or.inr (Or.inr (Or.inr (Or.inr (Or.inr (Or.inr (Or.inr (Or.inr (Or.inl h)))))))))))) (fun h => h.elim (fun h => (Or.inr (Or.inr (Or.inr (Or.inr (Or.inr (Or.inr (Or.inr (Or.inr (Or.inr (Or.inr (Or.inr (Or.inl h))))))))))))) (fun h => h.elim (fun h => (Or.inr (Or.inr (Or.inr (Or.inr (Or.inr (Or.inr (Or.inr (Or.inr (Or.inr (Or.inr (Or.inr (Or.inr (Or.inl h)))))))))))))) (fun h => (Or.inr (Or.inr (Or.inr (Or.inr (Or.inr (Or.inr (Or.inr (Or.inr (Or.inr (Or.inr (Or.inr (Or.inr (Or.inr (Or.inr (Or.inr (Or.inr h)))))))))))))))))))) h))
        exact F.trans (fr_X7_runNext_J92 r1 rv σ1 v2 s_11 hf)
      · replace hf := mm_if c_9 hf
        exact F.trans (fr_X7_runNext_J92 r1 rv σ1 v2 s_8 hf)
    · replace hf := mm_if c_4 hf
      obtain ⟨h_12, hf⟩ := mm_gd_ok hf
      obtain ⟨r_13, s_13, e_13, hf⟩ := mm_bd_ok hf
      have F := F.trans ((fr_X2_follow r1 (σ 7 14 0 v4.toNatClampNeg) σ r_13 s_13 e_13).mono (fun q t i h => (fun h => h.elim (fun h => (Or.inr (Or.inl h))) (fun h => h.elim (fun h => (Or.inr (Or.inr (Or.inr (Or.inr (Or.inr (Or.inr (Or.inr (Or.inr (Or.inl h)))))))))) (fun h => h.elim (fun h => (Or.inr (Or.inr (Or.inr (Or.inr (Or.inr (Or.inr (Or.inr (Or.inr (Or.inr (Or.inr (Or.inl h)))))))))))) (fun h => h.elim (fun h => (Or.inr (Or.inr (Or.inr (Or.inr (Or.inr (Or.inr (Or.inr (Or.inr (Or.inr (Or.inr (Or.inr (Or.inl h))))))))))))) (fun h => h.elim (fun h => (Or.inr (Or.inr (Or.inr (Or.inr (Or.inr (Or.inr (Or.inr (Or.inr (Or.inr (Or.inr (Or.inr (Or.inr (Or.inl h)))))))))))))) (fun h => h.elim (fun h => (Or.inr (Or.inr (Or.inr (Or.inr (Or.inr (Or.inr (Or.inr (Or.inr (Or.inr (Or.inr (Or.inr (Or.inr (Or.inr (Or.inr (Or.inl h)))))))))))))))) (fun h => (Or.inr (Or.inr (Or.inr (Or.inr (Or.inr (Or.inr (Or.inr (Or.inr (Or.inr (Or.inr (Or.inr (Or.inr (Or.inr (Or.inr (Or.inr (Or.inl h))))))))))))))))))))))) h))
      obtain ⟨y_14, e_14, hf⟩ := mm_li_ok hf
      exact F.trans (ih v2 v3 y_14 s_13 hf)
theorem fr_X7_runNext (r1 : Nat) (σ : mm_M) (rv : Int32) (σ1 : mm_M) (hf : fx_X7_runNext r1 σ = some (rv, σ1)) : mm_fr (fw_X7_runNext r1) σ σ1 := by
  rw [fx_X7_runNext] at hf
  have F : mm_fr (fw_X7_runNext r1) σ σ := mm_fr.rf
  by_cases c_1 : (σ r1 0 0 2) = (0 : Int32)
  · replace hf := mm_it c_1 hf
    exact mm_fr.ret hf F
  · replace hf := mm_if c_1 hf
    obtain ⟨r_2, s_2, e_2, hf⟩ := mm_bd_ok hf
    have F := F.trans (mm_fr.eq (fr_X8_timesOut r1 σ r_2 s_2 e_2))
    obtain ⟨r_3, s_3, e_3, hf⟩ := mm_bd_ok hf
    have F := F.trans ((fr_X2_arrange r1 s_2 r_3 s_3 e_3).mono (fun q t i h => (fun h => (Or.inl h)) h))
    exact F.trans (fr_X7_runNext_L27 r1 rv σ1 mm_FU r_2 r_3 (0 : Int32) s_3 hf)
def fw_X10_phase  (q t i : Nat) : Prop := (q = 0 ∧ t = 0 ∧ i = 2) ∨ (q = 0 ∧ t = 0 ∧ i = 3) ∨ (q = 0 ∧ t = 0 ∧ i = 4) ∨ (q = 0 ∧ t = 0 ∧ i = 5) ∨ (q = 0 ∧ t = 0 ∧ i = 6) ∨ (q = 0 ∧ t = 0 ∧ i = 7) ∨ (q = 0 ∧ t = 1 ∧ i = 3) ∨ (q = 0 ∧ t = 2) ∨ (q = 0 ∧ t = 3) ∨ (q = 0 ∧ t = 4) ∨ (q = 0 ∧ t = 6 ∧ i = 2) ∨ (q = 0 ∧ t = 6 ∧ i = 3) ∨ (q = 0 ∧ t = 6 ∧ i = 4) ∨ (q = 0 ∧ t = 6 ∧ i = 5) ∨ (q = 0 ∧ t = 6 ∧ i = 6) ∨ (q = 0 ∧ t = 6 ∧ i = 7) ∨ (q = 0 ∧ t = 6 ∧ i = 8) ∨ (q = 0 ∧ t = 7) ∨ (q = 0 ∧ t = 8) ∨ (q = 1 ∧ t = 0 ∧ i = 2) ∨ (q = 1 ∧ t = 0 ∧ i = 3) ∨ (q = 1 ∧ t = 0 ∧ i = 4) ∨ (q = 1 ∧ t = 0 ∧ i = 5) ∨ (q = 1 ∧ t = 0 ∧ i = 6) ∨ (q = 1 ∧ t = 0 ∧ i = 7) ∨ (q = 1 ∧ t = 1 ∧ i = 3) ∨ (q = 1 ∧ t = 2) ∨ (q = 1 ∧ t = 3) ∨ (q = 1 ∧ t = 4) ∨ (q = 1 ∧ t = 6 ∧ i = 2) ∨ (q = 1 ∧ t = 6 ∧ i = 3) ∨ (q = 1 ∧ t = 6 ∧ i = 4) ∨ (q = 1 ∧ t = 6 ∧ i = 5) ∨ (q = 1 ∧ t = 6 ∧ i = 6) ∨ (q = 1 ∧ t = 6 ∧ i = 7) ∨ (q = 1 ∧ t = 6 ∧ i = 8) ∨ (q = 1 ∧ t = 7) ∨ (q = 1 ∧ t = 8) ∨ (q = 6 ∧ t = 10 ∧ i = 1) ∨ (q = 6 ∧ t = 11) ∨ (q = 7 ∧ t = 14) ∨ (q = 7 ∧ t = 15) ∨ (q = 7 ∧ t = 17) ∨ (q = 7 ∧ t = 18) ∨ (q = 7 ∧ t = 19) ∨ (q < 6 ∧ t = 0 ∧ i = 2) ∨ (q < 6 ∧ t = 0 ∧ i = 3) ∨ (q < 6 ∧ t = 0 ∧ i = 4) ∨ (q < 6 ∧ t = 0 ∧ i = 5) ∨ (q < 6 ∧ t = 0 ∧ i = 6) ∨ (q < 6 ∧ t = 0 ∧ i = 7) ∨ (q < 6 ∧ t = 1 ∧ i = 3) ∨ (q < 6 ∧ t = 2) ∨ (q < 6 ∧ t = 3) ∨ (q < 6 ∧ t = 4) ∨ (q < 6 ∧ t = 6 ∧ i = 2) ∨ (q < 6 ∧ t = 6 ∧ i = 3) ∨ (q < 6 ∧ t = 6 ∧ i = 4) ∨ (q < 6 ∧ t = 6 ∧ i = 5) ∨ (q < 6 ∧ t = 6 ∧ i = 6) ∨ (q < 6 ∧ t = 6 ∧ i = 7) ∨ (q < 6 ∧ t = 6 ∧ i = 8) ∨ (q < 6 ∧ t = 7) ∨ (q < 6 ∧ t = 8)
theorem fr_X10_phase  (σ : mm_M) (rv : Int32) (σ1 : mm_M) (hf : fx_X10_phase  σ = some (rv, σ1)) : mm_fr (fw_X10_phase) σ σ1 := by
  rw [fx_X10_phase] at hf
  have F : mm_fr (fw_X10_phase) σ σ := mm_fr.rf
  obtain ⟨r_1, s_1, e_1, hf⟩ := mm_bd_ok hf
  have F := F.trans ((fr_X10_freshTrial  σ r_1 s_1 e_1).mono (fun q t i h => (fun h => h.elim (fun h => (Or.inr (Or.inr (Or.inr (Or.inr (Or.inr (Or.inr (Or.inr (Or.inr (Or.inr (Or.inr (Or.inr (Or.inr (Or.inr (Or.inr (Or.inr (Or.inr (Or.inr (Or.inr (Or.inr (Or.inl h))))))))))))))))))))) (fun h => h.elim (fun h => (Or.inr (Or.inr (Or.inr (Or.inr (Or.inr (Or.inr (Or.inr (Or.inr (Or.inr (Or.inr (Or.inr (Or.inr (Or.inr (Or.inr (Or.inr (Or.inr (Or.inr (Or.inr (Or.inr (Or.inr (Or.inl h)))))))))))))))))))))) (fun h => h.elim (fun h => (Or.inr (Or.inr (Or.inr (Or.inr (Or.inr (Or.inr (Or.inr (Or.inr (Or.inr (Or.inr (Or.inr (Or.inr (Or.inr (Or.inr (Or.inr (Or.inr (Or.inr (Or.inr (Or.inr (Or.inr (Or.inr (Or.inl h))))))))))))))))))))))) (fun h => h.elim (fun h => (Or.inr (Or.inr (Or.inr (Or.inr (Or.inr (Or.inr (Or.inr (Or.inr (Or.inr (Or.inr (Or.inr (Or.inr (Or.inr (Or.inr (Or.inr (Or.inr (Or.inr (Or.inr (Or.inr (Or.inr (Or.inr (Or.inr (Or.inl h)))))))))))))))))))))))) (fun h => h.elim (fun h => (Or.inr (Or.inr (Or.inr (Or.inr (Or.inr (Or.inr (Or.inr (Or.inr (Or.inr (Or.inr (Or.inr (Or.inr (Or.inr (Or.inr (Or.inr (Or.inr (Or.inr (Or.inr (Or.inr (Or.inr (Or.inr (Or.inr (Or.inr (Or.inl h))))))))))))))))))))))))) (fun h => h.elim (fun h => (Or.inr (Or.inr (Or.inr (Or.inr (Or.inr (Or.inr (Or.inr (Or.inr (Or.inr (Or.inr (Or.inr (Or.inr (Or.inr (Or.inr (Or.inr (Or.inr (Or.inr (Or.inr (Or.inr (Or.inr (Or.inr (Or.inr (Or.inr (Or.inr (Or.inl h)))))))))))))))))))))))))) (fun h => h.elim (fun h => (Or.inr (Or.inr (Or.inr (Or.inr (Or.inr (Or.inr (Or.inr (Or.inr (Or.inr (Or.inr (Or.inr (Or.inr (Or.inr (Or.inr (Or.inr (Or.inr (Or.inr (Or.inr (Or.inr (Or.inr (Or.inr (Or.inr (Or.inr (Or.inr (Or.inr (Or.inl h))))))))))))))))))))))))))) (fun h => h.elim (fun h => (Or.inr (Or.inr (Or.inr (Or.inr (Or.inr (Or.inr (Or.inr (Or.inr (Or.inr (Or.inr (Or.inr (Or.inr (Or.inr (Or.inr (Or.inr (Or.inr (Or.inr (Or.inr (Or.inr (Or.inr (Or.inr (Or.inr (Or.inr (Or.inr (Or.inr (Or.inr (Or.inl h)))))))))))))))))))))))))))) (fun h => h.elim (fun h => (Or.inr (Or.inr (Or.inr (Or.inr (Or.inr (Or.inr (Or.inr (Or.inr (Or.inr (Or.inr (Or.inr (Or.inr (Or.inr (Or.inr (Or.inr (Or.inr (Or.inr (Or.inr (Or.inr (Or.inr (Or.inr (Or.inr (Or.inr (Or.inr (Or.inr (Or.inr (Or.inr (Or.inl h))))))))))))))))))))))))))))) (fun h => h.elim (fun h => (Or.inr (Or.inr (Or.inr (Or.inr (Or.inr (Or.inr (Or.inr (Or.inr (Or.inr (Or.inr (Or.inr (Or.inr (Or.inr (Or.inr (Or.inr (Or.inr (Or.inr (Or.inr (Or.inr (Or.inr (Or.inr (Or.inr (Or.inr (Or.inr (Or.inr (Or.inr (Or.inr (Or.inr (Or.inl h)))))))))))))))))))))))))))))) (fun h => h.elim (fun h => (Or.inr (Or.inr (Or.inr (Or.inr (Or.inr (Or.inr (Or.inr (Or.inr (Or.inr (Or.inr (Or.inr (Or.inr (Or.inr (Or.inr (Or.inr (Or.inr (Or.inr (Or.inr (Or.inr (Or.inr (Or.inr (Or.inr (Or.inr (Or.inr (Or.inr (Or.inr (Or.inr (Or.inr (Or.inr (Or.inl h))))))))))))))))))))))))))))))) (fun h => h.elim (fun h => (Or.inr (Or.inr (Or.inr (Or.inr (Or.inr (Or.inr (Or.inr (Or.inr (Or.inr (Or.inr (Or.inr (Or.inr (Or.inr (Or.inr (Or.inr (Or.inr (Or.inr (Or.inr (Or.inr (Or.inr (Or.inr (Or.inr (Or.inr (Or.inr (Or.inr (Or.inr (Or.inr (Or.inr (Or.inr (Or.inr (Or.inl h)))))))))))))))))))))))))))))))) (fun h => h.elim (fun h => (Or.inr (Or.inr (Or.inr (Or.inr (Or.inr (Or.inr (Or.inr (Or.inr (Or.inr (Or.inr (Or.inr (Or.inr (Or.inr (Or.inr (Or.inr (Or.inr (Or.inr (Or.inr (Or.inr (Or.inr (Or.inr (Or.inr (Or.inr (Or.inr (Or.inr (Or.inr (Or.inr (Or.inr (Or.inr (Or.inr (Or.inr (Or.inl h))))))))))))))))))))))))))))))))) (fun h => h.elim (fun h => (Or.inr (Or.inr (Or.inr (Or.inr (Or.inr (Or.inr (Or.inr (Or.inr (Or.inr (Or.inr (Or.inr (Or.inr (Or.inr (Or.inr (Or.inr (Or.inr (Or.inr (Or.inr (Or.inr (Or.inr (Or.inr (Or.inr (Or.inr (Or.inr (Or.inr (Or.inr (Or.inr (Or.inr (Or.inr (Or.inr (Or.inr (Or.inr (Or.inl h)))))))))))))))))))))))))))))))))) (fun h => h.elim (fun h => (Or.inr (Or.inr (Or.inr (Or.inr (Or.inr (Or.inr (Or.inr (Or.inr (Or.inr (Or.inr (Or.inr (Or.inr (Or.inr (Or.inr (Or.inr (Or.inr (Or.inr (Or.inr (Or.inr (Or.inr (Or.inr (Or.inr (Or.inr (Or.inr (Or.inr (Or.inr (Or.inr (Or.inr (Or.inr (Or.inr (Or.inr (Or.inr (Or.inr (Or.inl h))))))))))))))))))))))))))))))))))) (fun h => h.elim (fun h => (Or.inr (Or.inr (Or.inr (Or.inr (Or.inr (Or.inr (Or.inr (Or.inr (Or.inr (Or.inr (Or.inr (Or.inr (Or.inr (Or.inr (Or.inr (Or.inr (Or.inr (Or.inr (Or.inr (Or.inr (Or.inr (Or.inr (Or.inr (Or.inr (Or.inr (Or.inr (Or.inr (Or.inr (Or.inr (Or.inr (Or.inr (Or.inr (Or.inr (Or.inr (Or.inl h)))))))))))))))))))))))))))))))))))) (fun h => h.elim (fun h => (Or.inr (Or.inr (Or.inr (Or.inr (Or.inr (Or.inr (Or.inr (Or.inr (Or.inr (Or.inr (Or.inr (Or.inr (Or.inr (Or.inr (Or.inr (Or.inr (Or.inr (Or.inr (Or.inr (Or.inr (Or.inr (Or.inr (Or.inr (Or.inr (Or.inr (Or.inr (Or.inr (Or.inr (Or.inr (Or.inr (Or.inr (Or.inr (Or.inr (Or.inr (Or.inr (Or.inl h))))))))))))))))))))))))))))))))))))) (fun h => h.elim (fun h => (Or.inr (Or.inr (Or.inr (Or.inr (Or.inr (Or.inr (Or.inr (Or.inr (Or.inr (Or.inr (Or.inr (Or.inr (Or.inr (Or.inr (Or.inr (Or.inr (Or.inr (Or.inr (Or.inr (Or.inr (Or.inr (Or.inr (Or.inr (Or.inr (Or.inr (Or.inr (Or.inr (Or.inr (Or.inr (Or.inr (Or.inr (Or.inr (Or.inr (Or.inr (Or.inr (Or.inr (Or.inl h)))))))))))))))))))))))))))))))))))))) (fun h => (Or.inr (Or.inr (Or.inr (Or.inr (Or.inr (Or.inr (Or.inr (Or.inr (Or.inr (Or.inr (Or.inr (Or.inr (Or.inr (Or.inr (Or.inr (Or.inr (Or.inr (Or.inr (Or.inr (Or.inr (Or.inr (Or.inr (Or.inr (Or.inr (Or.inr (Or.inr (Or.inr (Or.inr (Or.inr (Or.inr (Or.inr (Or.inr (Or.inr (Or.inr (Or.inr (Or.inr (Or.inr (Or.inl h))))))))))))))))))))))))))))))))))))))))))))))))))))))))) h))
  obtain ⟨r_2, s_2, e_2, hf⟩ := mm_bd_ok hf
  have F := F.trans ((fr_X7_runNext 1 s_1 r_2 s_2 e_2).mono (fun q t i h => (fun h => h.elim (fun h => (Or.inr (Or.inr (Or.inr (Or.inr (Or.inr (Or.inr (Or.inr (Or.inr (Or.inr (Or.inr (Or.inr (Or.inr (Or.inr (Or.inr (Or.inr (Or.inr (Or.inr (Or.inr (Or.inr (Or.inr (Or.inr (Or.inr (Or.inr (Or.inr (Or.inr (Or.inr (Or.inr (Or.inr (Or.inr (Or.inr (Or.inr (Or.inr (Or.inr (Or.inr (Or.inr (Or.inr (Or.inr (Or.inr (Or.inr (Or.inr (Or.inl h)))))))))))))))))))))))))))))))))))))))))) (fun h => h.elim (fun h => (Or.inr (Or.inr (Or.inr (Or.inr (Or.inr (Or.inr (Or.inr (Or.inr (Or.inr (Or.inr (Or.inr (Or.inr (Or.inr (Or.inr (Or.inr (Or.inr (Or.inr (Or.inr (Or.inr (Or.inr (Or.inr (Or.inr (Or.inr (Or.inr (Or.inr (Or.inr (Or.inr (Or.inr (Or.inr (Or.inr (Or.inr (Or.inr (Or.inr (Or.inr (Or.inr (Or.inr (Or.inr (Or.inr (Or.inr (Or.inr (Or.inr (Or.inl h))))))))))))))))))))))))))))))))))))))))))) (fun h => h.elim (fun h => (Or.inr (Or.inr (Or.inr (Or.inr (Or.inr (Or.inr (Or.inr (Or.inr (Or.inr (Or.inr (Or.inr (Or.inr (Or.inr (Or.inr (Or.inr (Or.inr (Or.inr (Or.inr (Or.inr (Or.inr (Or.inr (Or.inr (Or.inr (Or.inr (Or.inr (Or.inr (Or.inr (Or.inr (Or.inr (Or.inr (Or.inr (Or.inr (Or.inr (Or.inr (Or.inr (Or.inr (Or.inr (Or.inr (Or.inr (Or.inr (Or.inr (Or.inr (Or.inl h)))))))))))))))))))))))))))))))))))))))))))) (fun h => h.elim (fun h => (Or.inr (Or.inr (Or.inr (Or.inr (Or.inr (Or.inr (Or.inr (Or.inr (Or.inr (Or.inr (Or.inr (Or.inr (Or.inr (Or.inr (Or.inr (Or.inr (Or.inr (Or.inr (Or.inr (Or.inr (Or.inr (Or.inr (Or.inr (Or.inr (Or.inr (Or.inr (Or.inr (Or.inr (Or.inr (Or.inr (Or.inr (Or.inr (Or.inr (Or.inr (Or.inr (Or.inr (Or.inr (Or.inr (Or.inr (Or.inr (Or.inr (Or.inr (Or.inr (Or.inl h))))))))))))))))))))))))))))))))))))))))))))) (fun h => h.elim (fun h => (Or.inr (Or.inr (Or.inr (Or.inr (Or.inr (Or.inr (Or.inr (Or.inr (Or.inr (Or.inr (Or.inr (Or.inr (Or.inr (Or.inr (Or.inr (Or.inr (Or.inr (Or.inr (Or.inr (Or.inr (Or.inr (Or.inr (Or.inr (Or.inr (Or.inr (Or.inr (Or.inr (Or.inr (Or.inr (Or.inr (Or.inr (Or.inr (Or.inr (Or.inr (Or.inr (Or.inr (Or.inr (Or.inr (Or.inr (Or.inr (Or.inr (Or.inr (Or.inr (Or.inr (Or.inl h)))))))))))))))))))))))))))))))))))))))))))))) (fun h => h.elim (fun h => (Or.inr (Or.inr (Or.inr (Or.inr (Or.inr (Or.inr (Or.inr (Or.inr (Or.inr (Or.inr (Or.inr (Or.inr (Or.inr (Or.inr (Or.inr (Or.inr (Or.inr (Or.inr (Or.inr (Or.inr (Or.inl h)))))))))))))))))))))) (fun h => h.elim (fun h => (Or.inr (Or.inr (Or.inr (Or.inr (Or.inr (Or.inr (Or.inr (Or.inr (Or.inr (Or.inr (Or.inr (Or.inr (Or.inr (Or.inr (Or.inr (Or.inr (Or.inr (Or.inr (Or.inr (Or.inr (Or.inr (Or.inl h))))))))))))))))))))))) (fun h => h.elim (fun h => (Or.inr (Or.inr (Or.inr (Or.inr (Or.inr (Or.inr (Or.inr (Or.inr (Or.inr (Or.inr (Or.inr (Or.inr (Or.inr (Or.inr (Or.inr (Or.inr (Or.inr (Or.inr (Or.inr (Or.inr (Or.inr (Or.inr (Or.inl h)))))))))))))))))))))))) (fun h => h.elim (fun h => (Or.inr (Or.inr (Or.inr (Or.inr (Or.inr (Or.inr (Or.inr (Or.inr (Or.inr (Or.inr (Or.inr (Or.inr (Or.inr (Or.inr (Or.inr (Or.inr (Or.inr (Or.inr (Or.inr (Or.inr (Or.inr (Or.inr (Or.inr (Or.inl h))))))))))))))))))))))))) (fun h => h.elim (fun h => (Or.inr (Or.inr (Or.inr (Or.inr (Or.inr (Or.inr (Or.inr (Or.inr (Or.inr (Or.inr (Or.inr (Or.inr (Or.inr (Or.inr (Or.inr (Or.inr (Or.inr (Or.inr (Or.inr (Or.inr (Or.inr (Or.inr (Or.inr (Or.inr (Or.inl h)))))))))))))))))))))))))) (fun h => h.elim (fun h => (Or.inr (Or.inr (Or.inr (Or.inr (Or.inr (Or.inr (Or.inr (Or.inr (Or.inr (Or.inr (Or.inr (Or.inr (Or.inr (Or.inr (Or.inr (Or.inr (Or.inr (Or.inr (Or.inr (Or.inr (Or.inr (Or.inr (Or.inr (Or.inr (Or.inr (Or.inr (Or.inr (Or.inr (Or.inr (Or.inr (Or.inl h)))))))))))))))))))))))))))))))) (fun h => h.elim (fun h => (Or.inr (Or.inr (Or.inr (Or.inr (Or.inr (Or.inr (Or.inr (Or.inr (Or.inr (Or.inr (Or.inr (Or.inr (Or.inr (Or.inr (Or.inr (Or.inr (Or.inr (Or.inr (Or.inr (Or.inr (Or.inr (Or.inr (Or.inr (Or.inr (Or.inr (Or.inr (Or.inr (Or.inr (Or.inr (Or.inr (Or.inr (Or.inl h))))))))))))))))))))))))))))))))) (fun h => h.elim (fun h => (Or.inr (Or.inr (Or.inr (Or.inr (Or.inr (Or.inr (Or.inr (Or.inr (Or.inr (Or.inr (Or.inr (Or.inr (Or.inr (Or.inr (Or.inr (Or.inr (Or.inr (Or.inr (Or.inr (Or.inr (Or.inr (Or.inr (Or.inr (Or.inr (Or.inr (Or.inr (Or.inr (Or.inr (Or.inr (Or.inr (Or.inr (Or.inr (Or.inl h)))))))))))))))))))))))))))))))))) (fun h => h.elim (fun h => (Or.inr (Or.inr (Or.inr (Or.inr (Or.inr (Or.inr (Or.inr (Or.inr (Or.inr (Or.inr (Or.inr (Or.inr (Or.inr (Or.inr (Or.inr (Or.inr (Or.inr (Or.inr (Or.inr (Or.inr (Or.inr (Or.inr (Or.inr (Or.inr (Or.inr (Or.inr (Or.inr (Or.inr (Or.inr (Or.inr (Or.inr (Or.inr (Or.inr (Or.inl h))))))))))))))))))))))))))))))))))) (fun h => h.elim (fun h => (Or.inr (Or.inr (Or.inr (Or.inr (Or.inr (Or.inr (Or.inr (Or.inr (Or.inr (Or.inr (Or.inr (Or.inr (Or.inr (Or.inr (Or.inr (Or.inr (Or.inr (Or.inr (Or.inr (Or.inr (Or.inr (Or.inr (Or.inr (Or.inr (Or.inr (Or.inr (Or.inr (Or.inr (Or.inr (Or.inr (Or.inr (Or.inr (Or.inr (Or.inr (Or.inl h)))))))))))))))))))))))))))))))))))) (fun h => h.elim (fun h => (Or.inr (Or.inr (Or.inr (Or.inr (Or.inr (Or.inr (Or.inr (Or.inr (Or.inr (Or.inr (Or.inr (Or.inr (Or.inr (Or.inr (Or.inr (Or.inr (Or.inr (Or.inr (Or.inr (Or.inr (Or.inr (Or.inr (Or.inr (Or.inr (Or.inr (Or.inr (Or.inr (Or.inr (Or.inr (Or.inr (Or.inr (Or.inr (Or.inr (Or.inr (Or.inr (Or.inl h))))))))))))))))))))))))))))))))))))) (fun h => (Or.inr (Or.inr (Or.inr (Or.inr (Or.inr (Or.inr (Or.inr (Or.inr (Or.inr (Or.inr (Or.inr (Or.inr (Or.inr (Or.inr (Or.inr (Or.inr (Or.inr (Or.inr (Or.inr (Or.inr (Or.inr (Or.inr (Or.inr (Or.inr (Or.inr (Or.inr (Or.inr (Or.inr (Or.inr (Or.inr (Or.inr (Or.inr (Or.inr (Or.inr (Or.inr (Or.inr (Or.inr (Or.inl h))))))))))))))))))))))))))))))))))))))))))))))))))))))) h))
  obtain ⟨r_3, s_3, e_3, hf⟩ := mm_bd_ok hf
  have F := F.trans ((fr_X10_keep r_2 s_2 r_3 s_3 e_3).mono (fun q t i h => (fun h => h.elim (fun h => (Or.inl h)) (fun h => h.elim (fun h => (Or.inr (Or.inl h))) (fun h => h.elim (fun h => (Or.inr (Or.inr (Or.inl h)))) (fun h => h.elim (fun h => (Or.inr (Or.inr (Or.inr (Or.inl h))))) (fun h => h.elim (fun h => (Or.inr (Or.inr (Or.inr (Or.inr (Or.inl h)))))) (fun h => h.elim (fun h => (Or.inr (Or.inr (Or.inr (Or.inr (Or.inr (Or.inl h))))))) (fun h => h.elim (fun h => (Or.inr (Or.inr (Or.inr (Or.inr (Or.inr (Or.inr (Or.inl h)))))))) (fun h => h.elim (fun h => (Or.inr (Or.inr (Or.inr (Or.inr (Or.inr (Or.inr (Or.inr (Or.inl h))))))))) (fun h => h.elim (fun h => (Or.inr (Or.inr (Or.inr (Or.inr (Or.inr (Or.inr (Or.inr (Or.inr (Or.inl h)))))))))) (fun h => h.elim (fun h => (Or.inr (Or.inr (Or.inr (Or.inr (Or.inr (Or.inr (Or.inr (Or.inr (Or.inr (Or.inl h))))))))))) (fun h => h.elim (fun h => (Or.inr (Or.inr (Or.inr (Or.inr (Or.inr (Or.inr (Or.inr (Or.inr (Or.inr (Or.inr (Or.inl h)))))))))))) (fun h => h.elim (fun h => (Or.inr (Or.inr (Or.inr (Or.inr (Or.inr (Or.inr (Or.inr (Or.inr (Or.inr (Or.inr (Or.inr (Or.inl h))))))))))))) (fun h => h.elim (fun h => (Or.inr (Or.inr (Or.inr (Or.inr (Or.inr (Or.inr (Or.inr (Or.inr (Or.inr (Or.inr (Or.inr (Or.inr (Or.inl h)))))))))))))) (fun h => h.elim (fun h => (Or.inr (Or.inr (Or.inr (Or.inr (Or.inr (Or.inr (Or.inr (Or.inr (Or.inr (Or.inr (Or.inr (Or.inr (Or.inr (Or.inl h))))))))))))))) (fun h => h.elim (fun h => (Or.inr (Or.inr (Or.inr (Or.inr (Or.inr (Or.inr (Or.inr (Or.inr (Or.inr (Or.inr (Or.inr (Or.inr (Or.inr (Or.inr (Or.inl h)))))))))))))))) (fun h => h.elim (fun h => (Or.inr (Or.inr (Or.inr (Or.inr (Or.inr (Or.inr (Or.inr (Or.inr (Or.inr (Or.inr (Or.inr (Or.inr (Or.inr (Or.inr (Or.inr (Or.inl h))))))))))))))))) (fun h => h.elim (fun h => (Or.inr (Or.inr (Or.inr (Or.inr (Or.inr (Or.inr (Or.inr (Or.inr (Or.inr (Or.inr (Or.inr (Or.inr (Or.inr (Or.inr (Or.inr (Or.inr (Or.inl h)))))))))))))))))) (fun h => h.elim (fun h => (Or.inr (Or.inr (Or.inr (Or.inr (Or.inr (Or.inr (Or.inr (Or.inr (Or.inr (Or.inr (Or.inr (Or.inr (Or.inr (Or.inr (Or.inr (Or.inr (Or.inr (Or.inl h))))))))))))))))))) (fun h => h.elim (fun h => (Or.inr (Or.inr (Or.inr (Or.inr (Or.inr (Or.inr (Or.inr (Or.inr (Or.inr (Or.inr (Or.inr (Or.inr (Or.inr (Or.inr (Or.inr (Or.inr (Or.inr (Or.inr (Or.inl h)))))))))))))))))))) (fun h => h.elim (fun h => (Or.inr (Or.inr (Or.inr (Or.inr (Or.inr (Or.inr (Or.inr (Or.inr (Or.inr (Or.inr (Or.inr (Or.inr (Or.inr (Or.inr (Or.inr (Or.inr (Or.inr (Or.inr (Or.inr (Or.inr (Or.inr (Or.inr (Or.inr (Or.inr (Or.inr (Or.inr (Or.inr (Or.inr (Or.inr (Or.inr (Or.inr (Or.inr (Or.inr (Or.inr (Or.inr (Or.inr (Or.inr (Or.inr (Or.inl h)))))))))))))))))))))))))))))))))))))))) (fun h => h.elim (fun h => (Or.inr (Or.inr (Or.inr (Or.inr (Or.inr (Or.inr (Or.inr (Or.inr (Or.inr (Or.inr (Or.inr (Or.inr (Or.inr (Or.inr (Or.inr (Or.inr (Or.inr (Or.inr (Or.inr (Or.inr (Or.inr (Or.inr (Or.inr (Or.inr (Or.inr (Or.inr (Or.inr (Or.inr (Or.inr (Or.inr (Or.inr (Or.inr (Or.inr (Or.inr (Or.inr (Or.inr (Or.inr (Or.inr (Or.inr (Or.inl h))))))))))))))))))))))))))))))))))))))))) (fun h => h.elim (fun h => (Or.inr (Or.inr (Or.inr (Or.inr (Or.inr (Or.inr (Or.inr (Or.inr (Or.inr (Or.inr (Or.inr (Or.inr (Or.inr (Or.inr (Or.inr (Or.inr (Or.inr (Or.inr (Or.inr (Or.inr (Or.inr (Or.inr (Or.inr (Or.inr (Or.inr (Or.inr (Or.inr (Or.inr (Or.inr (Or.inr (Or.inr (Or.inr (Or.inr (Or.inr (Or.inr (Or.inr (Or.inr (Or.inr (Or.inr (Or.inr (Or.inr (Or.inr (Or.inr (Or.inr (Or.inr (Or.inl h))))))))))))))))))))))))))))))))))))))))))))))) (fun h => h.elim (fun h => (Or.inr (Or.inr (Or.inr (Or.inr (Or.inr (Or.inr (Or.inr (Or.inr (Or.inr (Or.inr (Or.inr (Or.inr (Or.inr (Or.inr (Or.inr (Or.inr (Or.inr (Or.inr (Or.inr (Or.inr (Or.inr (Or.inr (Or.inr (Or.inr (Or.inr (Or.inr (Or.inr (Or.inr (Or.inr (Or.inr (Or.inr (Or.inr (Or.inr (Or.inr (Or.inr (Or.inr (Or.inr (Or.inr (Or.inr (Or.inr (Or.inr (Or.inr (Or.inr (Or.inr (Or.inr (Or.inr (Or.inl h)))))))))))))))))))))))))))))))))))))))))))))))) (fun h => h.elim (fun h => (Or.inr (Or.inr (Or.inr (Or.inr (Or.inr (Or.inr (Or.inr (Or.inr (Or.inr (Or.inr (Or.inr (Or.inr (Or.inr (Or.inr (Or.inr (Or.inr (Or.inr (Or.inr (Or.inr (Or.inr (Or.inr (Or.inr (Or.inr (Or.inr (Or.inr (Or.inr (Or.inr (Or.inr (Or.inr (Or.inr (Or.inr (Or.inr (Or.inr (Or.inr (Or.inr (Or.inr (Or.inr (Or.inr (Or.inr (Or.inr (Or.inr (Or.inr (Or.inr (Or.inr (Or.inr (Or.inr (Or.inr (Or.inl h))))))))))))))))))))))))))))))))))))))))))))))))) (fun h => h.elim (fun h => (Or.inr (Or.inr (Or.inr (Or.inr (Or.inr (Or.inr (Or.inr (Or.inr (Or.inr (Or.inr (Or.inr (Or.inr (Or.inr (Or.inr (Or.inr (Or.inr (Or.inr (Or.inr (Or.inr (Or.inr (Or.inr (Or.inr (Or.inr (Or.inr (Or.inr (Or.inr (Or.inr (Or.inr (Or.inr (Or.inr (Or.inr (Or.inr (Or.inr (Or.inr (Or.inr (Or.inr (Or.inr (Or.inr (Or.inr (Or.inr (Or.inr (Or.inr (Or.inr (Or.inr (Or.inr (Or.inr (Or.inr (Or.inr (Or.inl h)))))))))))))))))))))))))))))))))))))))))))))))))) (fun h => h.elim (fun h => (Or.inr (Or.inr (Or.inr (Or.inr (Or.inr (Or.inr (Or.inr (Or.inr (Or.inr (Or.inr (Or.inr (Or.inr (Or.inr (Or.inr (Or.inr (Or.inr (Or.inr (Or.inr (Or.inr (Or.inr (Or.inr (Or.inr (Or.inr (Or.inr (Or.inr (Or.inr (Or.inr (Or.inr (Or.inr (Or.inr (Or.inr (Or.inr (Or.inr (Or.inr (Or.inr (Or.inr (Or.inr (Or.inr (Or.inr (Or.inr (Or.inr (Or.inr (Or.inr (Or.inr (Or.inr (Or.inr (Or.inr (Or.inr (Or.inr (Or.inl h))))))))))))))))))))))))))))))))))))))))))))))))))) (fun h => h.elim (fun h => (Or.inr (Or.inr (Or.inr (Or.inr (Or.inr (Or.inr (Or.inr (Or.inr (Or.inr (Or.inr (Or.inr (Or.inr (Or.inr (Or.inr (Or.inr (Or.inr (Or.inr (Or.inr (Or.inr (Or.inr (Or.inr (Or.inr (Or.inr (Or.inr (Or.inr (Or.inr (Or.inr (Or.inr (Or.inr (Or.inr (Or.inr (Or.inr (Or.inr (Or.inr (Or.inr (Or.inr (Or.inr (Or.inr (Or.inr (Or.inr (Or.inr (Or.inr (Or.inr (Or.inr (Or.inr (Or.inr (Or.inr (Or.inr (Or.inr (Or.inr (Or.inl h)))))))))))))))))))))))))))))))))))))))))))))))))))) (fun h => h.elim (fun h => (Or.inr (Or.inr (Or.inr (Or.inr (Or.inr (Or.inr (Or.inr (Or.inr (Or.inr (Or.inr (Or.inr (Or.inr (Or.inr (Or.inr (Or.inr (Or.inr (Or.inr (Or.inr (Or.inr (Or.inr (Or.inr (Or.inr (Or.inr (Or.inr (Or.inr (Or.inr (Or.inr (Or.inr (Or.inr (Or.inr (Or.inr (Or.inr (Or.inr (Or.inr (Or.inr (Or.inr (Or.inr (Or.inr (Or.inr (Or.inr (Or.inr (Or.inr (Or.inr (Or.inr (Or.inr (Or.inr (Or.inr (Or.inr (Or.inr (Or.inr (Or.inr (Or.inl h))))))))))))))))))))))))))))))))))))))))))))))))))))) (fun h => h.elim (fun h => (Or.inr (Or.inr (Or.inr (Or.inr (Or.inr (Or.inr (Or.inr (Or.inr (Or.inr (Or.inr (Or.inr (Or.inr (Or.inr (Or.inr (Or.inr (Or.inr (Or.inr (Or.inr (Or.inr (Or.inr (Or.inr (Or.inr (Or.inr (Or.inr (Or.inr (Or.inr (Or.inr (Or.inr (Or.inr (Or.inr (Or.inr (Or.inr (Or.inr (Or.inr (Or.inr (Or.inr (Or.inr (Or.inr (Or.inr (Or.inr (Or.inr (Or.inr (Or.inr (Or.inr (Or.inr (Or.inr (Or.inr (Or.inr (Or.inr (Or.inr (Or.inr (Or.inr (Or.inl h)))))))))))))))))))))))))))))))))))))))))))))))))))))) (fun h => h.elim (fun h => (Or.inr (Or.inr (Or.inr (Or.inr (Or.inr (Or.inr (Or.inr (Or.inr (Or.inr (Or.inr (Or.inr (Or.inr (Or.inr (Or.inr (Or.inr (Or.inr (Or.inr (Or.inr (Or.inr (Or.inr (Or.inr (Or.inr (Or.inr (Or.inr (Or.inr (Or.inr (Or.inr (Or.inr (Or.inr (Or.inr (Or.inr (Or.inr (Or.inr (Or.inr (Or.inr (Or.inr (Or.inr (Or.inr (Or.inr (Or.inr (Or.inr (Or.inr (Or.inr (Or.inr (Or.inr (Or.inr (Or.inr (Or.inr (Or.inr (Or.inr (Or.inr (Or.inr (Or.inr (Or.inl h))))))))))))))))))))))))))))))))))))))))))))))))))))))) (fun h => h.elim (fun h => (Or.inr (Or.inr (Or.inr (Or.inr (Or.inr (Or.inr (Or.inr (Or.inr (Or.inr (Or.inr (Or.inr (Or.inr (Or.inr (Or.inr (Or.inr (Or.inr (Or.inr (Or.inr (Or.inr (Or.inr (Or.inr (Or.inr (Or.inr (Or.inr (Or.inr (Or.inr (Or.inr (Or.inr (Or.inr (Or.inr (Or.inr (Or.inr (Or.inr (Or.inr (Or.inr (Or.inr (Or.inr (Or.inr (Or.inr (Or.inr (Or.inr (Or.inr (Or.inr (Or.inr (Or.inr (Or.inr (Or.inr (Or.inr (Or.inr (Or.inr (Or.inr (Or.inr (Or.inr (Or.inr (Or.inl h)))))))))))))))))))))))))))))))))))))))))))))))))))))))) (fun h => h.elim (fun h => (Or.inr (Or.inr (Or.inr (Or.inr (Or.inr (Or.inr (Or.inr (Or.inr (Or.inr (Or.inr (Or.inr (Or.inr (Or.inr (Or.inr (Or.inr (Or.inr (Or.inr (Or.inr (Or.inr (Or.inr (Or.inr (Or.inr (Or.inr (Or.inr (Or.inr (Or.inr (Or.inr (Or.inr (Or.inr (Or.inr (Or.inr (Or.inr (Or.inr (Or.inr (Or.inr (Or.inr (Or.inr (Or.inr (Or.inr (Or.inr (Or.inr (Or.inr (Or.inr (Or.inr (Or.inr (Or.inr (Or.inr (Or.inr (Or.inr (Or.inr (Or.inr (Or.inr (Or.inr (Or.inr (Or.inr (Or.inl h))))))))))))))))))))))))))))))))))))))))))))))))))))))))) (fun h => h.elim (fun h => (Or.inr (Or.inr (Or.inr (Or.inr (Or.inr (Or.inr (Or.inr (Or.inr (Or.inr (Or.inr (Or.inr (Or.inr (Or.inr (Or.inr (Or.inr (Or.inr (Or.inr (Or.inr (Or.inr (Or.inr (Or.inr (Or.inr (Or.inr (Or.inr (Or.inr (Or.inr (Or.inr (Or.inr (Or.inr (Or.inr (Or.inr (Or.inr (Or.inr (Or.inr (Or.inr (Or.inr (Or.inr (Or.inr (Or.inr (Or.inr (Or.inr (Or.inr (Or.inr (Or.inr (Or.inr (Or.inr (Or.inr (Or.inr (Or.inr (Or.inr (Or.inr (Or.inr (Or.inr (Or.inr (Or.inr (Or.inr (Or.inl h)))))))))))))))))))))))))))))))))))))))))))))))))))))))))) (fun h => h.elim (fun h => (Or.inr (Or.inr (Or.inr (Or.inr (Or.inr (Or.inr (Or.inr (Or.inr (Or.inr (Or.inr (Or.inr (Or.inr (Or.inr (Or.inr (Or.inr (Or.inr (Or.inr (Or.inr (Or.inr (Or.inr (Or.inr (Or.inr (Or.inr (Or.inr (Or.inr (Or.inr (Or.inr (Or.inr (Or.inr (Or.inr (Or.inr (Or.inr (Or.inr (Or.inr (Or.inr (Or.inr (Or.inr (Or.inr (Or.inr (Or.inr (Or.inr (Or.inr (Or.inr (Or.inr (Or.inr (Or.inr (Or.inr (Or.inr (Or.inr (Or.inr (Or.inr (Or.inr (Or.inr (Or.inr (Or.inr (Or.inr (Or.inr (Or.inl h))))))))))))))))))))))))))))))))))))))))))))))))))))))))))) (fun h => h.elim (fun h => (Or.inr (Or.inr (Or.inr (Or.inr (Or.inr (Or.inr (Or.inr (Or.inr (Or.inr (Or.inr (Or.inr (Or.inr (Or.inr (Or.inr (Or.inr (Or.inr (Or.inr (Or.inr (Or.inr (Or.inr (Or.inr (Or.inr (Or.inr (Or.inr (Or.inr (Or.inr (Or.inr (Or.inr (Or.inr (Or.inr (Or.inr (Or.inr (Or.inr (Or.inr (Or.inr (Or.inr (Or.inr (Or.inr (Or.inr (Or.inr (Or.inr (Or.inr (Or.inr (Or.inr (Or.inr (Or.inr (Or.inr (Or.inr (Or.inr (Or.inr (Or.inr (Or.inr (Or.inr (Or.inr (Or.inr (Or.inr (Or.inr (Or.inr (Or.inl h)))))))))))))))))))))))))))))))))))))))))))))))))))))))))))) (fun h => h.elim (fun h => (Or.inr (Or.inr (Or.inr (Or.inr (Or.inr (Or.inr (Or.inr (Or.inr (Or.inr (Or.inr (Or.inr (Or.inr (Or.inr (Or.inr (Or.inr (Or.inr (Or.inr (Or.inr (Or.inr (Or.inr (Or.inr (Or.inr (Or.inr (Or.inr (Or.inr (Or.inr (Or.inr (Or.inr (Or.inr (Or.inr (Or.inr (Or.inr (Or.inr (Or.inr (Or.inr (Or.inr (Or.inr (Or.inr (Or.inr (Or.inr (Or.inr (Or.inr (Or.inr (Or.inr (Or.inr (Or.inr (Or.inr (Or.inr (Or.inr (Or.inr (Or.inr (Or.inr (Or.inr (Or.inr (Or.inr (Or.inr (Or.inr (Or.inr (Or.inr (Or.inl h))))))))))))))))))))))))))))))))))))))))))))))))))))))))))))) (fun h => h.elim (fun h => (Or.inr (Or.inr (Or.inr (Or.inr (Or.inr (Or.inr (Or.inr (Or.inr (Or.inr (Or.inr (Or.inr (Or.inr (Or.inr (Or.inr (Or.inr (Or.inr (Or.inr (Or.inr (Or.inr (Or.inr (Or.inr (Or.inr (Or.inr (Or.inr (Or.inr (Or.inr (Or.inr (Or.inr (Or.inr (Or.inr (Or.inr (Or.inr (Or.inr (Or.inr (Or.inr (Or.inr (Or.inr (Or.inr (Or.inr (Or.inr (Or.inr (Or.inr (Or.inr (Or.inr (Or.inr (Or.inr (Or.inr (Or.inr (Or.inr (Or.inr (Or.inr (Or.inr (Or.inr (Or.inr (Or.inr (Or.inr (Or.inr (Or.inr (Or.inr (Or.inr (Or.inl h)))))))))))))))))))))))))))))))))))))))))))))))))))))))))))))) (fun h => h.elim (fun h => (Or.inr (Or.inr (Or.inr (Or.inr (Or.inr (Or.inr (Or.inr (Or.inr (Or.inr (Or.inr (Or.inr (Or.inr (Or.inr (Or.inr (Or.inr (Or.inr (Or.inr (Or.inr (Or.inr (Or.inr (Or.inr (Or.inr (Or.inr (Or.inr (Or.inr (Or.inr (Or.inr (Or.inr (Or.inr (Or.inr (Or.inr (Or.inr (Or.inr (Or.inr (Or.inr (Or.inr (Or.inr (Or.inr (Or.inr (Or.inr (Or.inr (Or.inr (Or.inr (Or.inr (Or.inr (Or.inr (Or.inr (Or.inr (Or.inr (Or.inr (Or.inr (Or.inr (Or.inr (Or.inr (Or.inr (Or.inr (Or.inr (Or.inr (Or.inr (Or.inr (Or.inr (Or.inl h))))))))))))))))))))))))))))))))))))))))))))))))))))))))))))))) (fun h => h.elim (fun h => (Or.inr (Or.inr (Or.inr (Or.inr (Or.inr (Or.inr (Or.inr (Or.inr (Or.inr (Or.inr (Or.inr (Or.inr (Or.inr (Or.inr (Or.inr (Or.inr (Or.inr (Or.inr (Or.inr (Or.inr (Or.inr (Or.inr (Or.inr (Or.inr (Or.inr (Or.inr (Or.inr (Or.inr (Or.inr (Or.inr (Or.inr (Or.inr (Or.inr (Or.inr (Or.inr (Or.inr (Or.inr (Or.inr (Or.inr (Or.inr (Or.inr (Or.inr (Or.inr (Or.inr (Or.inr (Or.inr (Or.inr (Or.inr (Or.inr (Or.inr (Or.inr (Or.inr (Or.inr (Or.inr (Or.inr (Or.inr (Or.inr (Or.inr (Or.inr (Or.inr (Or.inr (Or.inr (Or.inl h)))))))))))))))))))))))))))))))))))))))))))))))))))))))))))))))) (fun h => (Or.inr (Or.inr (Or.inr (Or.inr (Or.inr (Or.inr (Or.inr (Or.inr (Or.inr (Or.inr (Or.inr (Or.inr (Or.inr (Or.inr (Or.inr (Or.inr (Or.inr (Or.inr (Or.inr (Or.inr (Or.inr (Or.inr (Or.inr (Or.inr (Or.inr (Or.inr (Or.inr (Or.inr (Or.inr (Or.inr (Or.inr (Or.inr (Or.inr (Or.inr (Or.inr (Or.inr (Or.inr (Or.inr (Or.inr (Or.inr (Or.inr (Or.inr (Or.inr (Or.inr (Or.inr (Or.inr (Or.inr (Or.inr (Or.inr (Or.inr (Or.inr (Or.inr (Or.inr (Or.inr (Or.inr (Or.inr (Or.inr (Or.inr (Or.inr (Or.inr (Or.inr (Or.inr (Or.inr h))))))))))))))))))))))))))))))))))))))))))))))))))))))))))))))))))))))))))))))))))))))))))))))))))))))) h))
  exact mm_fr.ret hf F
def fw_X7_runToRoundEnd (r1 : Nat) (q t i : Nat) : Prop := (q = 7 ∧ t = 14) ∨ (q = 7 ∧ t = 15) ∨ (q = 7 ∧ t = 17) ∨ (q = 7 ∧ t = 18) ∨ (q = 7 ∧ t = 19) ∨ (q = r1 ∧ t = 0 ∧ i = 3) ∨ (q = r1 ∧ t = 0 ∧ i = 4) ∨ (q = r1 ∧ t = 0 ∧ i = 5) ∨ (q = r1 ∧ t = 0 ∧ i = 6) ∨ (q = r1 ∧ t = 0 ∧ i = 7) ∨ (q = r1 ∧ t = 6 ∧ i = 3) ∨ (q = r1 ∧ t = 6 ∧ i = 4) ∨ (q = r1 ∧ t = 6 ∧ i = 5) ∨ (q = r1 ∧ t = 6 ∧ i = 6) ∨ (q = r1 ∧ t = 6 ∧ i = 7) ∨ (q = r1 ∧ t = 6 ∧ i = 8) ∨ (q = r1 ∧ t = 8)
theorem fr_X7_runToRoundEnd_L17 (r1 : Nat) (rv : Int32) (σ1 : mm_M)  : ∀ (fu : Nat) (v2 : Int32) (v3 : Int32) (σ : mm_M), fx_X7_runToRoundEnd_L17 r1 fu v2 v3 σ = some (rv, σ1) → mm_fr (fw_X7_runToRoundEnd r1) σ σ1 := by
  intro fu
  induction fu with
  | zero =>
    intro v2 v3 σ hf
    exact mm_no hf
  | succ fu ih =>
    intro v2 v3 σ hf
    rw [fx_X7_runToRoundEnd_L17] at hf
    have F : mm_fr (fw_X7_runToRoundEnd r1) σ σ := mm_fr.rf
    by_cases c_3 : (5 : Int32) ≤ v3
    · replace hf := mm_it c_3 hf
      exact mm_fr.ret hf F
    · replace hf := mm_if c_3 hf
      obtain ⟨r_4, s_4, e_4, hf⟩ := mm_bd_ok hf
      have F := F.trans ((fr_X7_runNext r1 σ r_4 s_4 e_4).mono (fun q t i h => (fun h => h.elim (fun h => (Or.inl h)) (fun h => h.elim (fun h => (Or.inr (Or.inl h))) (fun h => h.elim (fun h => (Or.inr (Or.inr (Or.inl h)))) (fun h => h.elim (fun h => (Or.inr (Or.inr (Or.inr (Or.inl h))))) (fun h => h.elim (fun h => (Or.inr (Or.inr (Or.inr (Or.inr (Or.inl h)))))) (fun h => h.elim (fun h => (Or.inr (Or.inr (Or.inr (Or.inr (Or.inr (Or.inl h))))))) (fun h => h.elim (fun h => (Or.inr (Or.inr (Or.inr (Or.inr (Or.inr (Or.inr (Or.inl h)))))))) (fun h => h.elim (fun h => (Or.inr (Or.inr (Or.inr (Or.inr (Or.inr (Or.inr (Or.inr (Or.inl h))))))))) (fun h => h.elim (fun h => (Or.inr (Or.inr (Or.inr (Or.inr (Or.inr (Or.inr (Or.inr (Or.inr (Or.inl h)))))))))) (fun h => h.elim (fun h => (Or.inr (Or.inr (Or.inr (Or.inr (Or.inr (Or.inr (Or.inr (Or.inr (Or.inr (Or.inl h))))))))))) (fun h => h.elim (fun h => (Or.inr (Or.inr (Or.inr (Or.inr (Or.inr (Or.inr (Or.inr (Or.inr (Or.inr (Or.inr (Or.inl h)))))))))))) (fun h => h.elim (fun h => (Or.inr (Or.inr (Or.inr (Or.inr (Or.inr (Or.inr (Or.inr (Or.inr (Or.inr (Or.inr (Or.inr (Or.inl h))))))))))))) (fun h => h.elim (fun h => (Or.inr (Or.inr (Or.inr (Or.inr (Or.inr (Or.inr (Or.inr (Or.inr (Or.inr (Or.inr (Or.inr (Or.inr (Or.inl h)))))))))))))) (fun h => h.elim (fun h => (Or.inr (Or.inr (Or.inr (Or.inr (Or.inr (Or.inr (Or.inr (Or.inr (Or.inr (Or.inr (Or.inr (Or.inr (Or.inr (Or.inl h))))))))))))))) (fun h => h.elim (fun h => (Or.inr (Or.inr (Or.inr (Or.inr (Or.inr (Or.inr (Or.inr (Or.inr (Or.inr (Or.inr (Or.inr (Or.inr (Or.inr (Or.inr (Or.inl h)))))))))))))))) (fun h => h.elim (fun h => (Or.inr (Or.inr (Or.inr (Or.inr (Or.inr (Or.inr (Or.inr (Or.inr (Or.inr (Or.inr (Or.inr (Or.inr (Or.inr (Or.inr (Or.inr (Or.inl h))))))))))))))))) (fun h => (Or.inr (Or.inr (Or.inr (Or.inr (Or.inr (Or.inr (Or.inr (Or.inr (Or.inr (Or.inr (Or.inr (Or.inr (Or.inr (Or.inr (Or.inr (Or.inr h))))))))))))))))))))))))))))))))) h))
      obtain ⟨y_5, e_5, hf⟩ := mm_li_ok hf
      obtain ⟨y_6, e_6, hf⟩ := mm_li_ok hf
      exact F.trans (ih y_5 y_6 s_4 hf)
theorem fr_X7_runToRoundEnd (r1 : Nat) (σ : mm_M) (rv : Int32) (σ1 : mm_M) (hf : fx_X7_runToRoundEnd r1 σ = some (rv, σ1)) : mm_fr (fw_X7_runToRoundEnd r1) σ σ1 := by
  rw [fx_X7_runToRoundEnd] at hf
  have F : mm_fr (fw_X7_runToRoundEnd r1) σ σ := mm_fr.rf
  by_cases c_1 : (σ r1 0 0 2) = (0 : Int32)
  · replace hf := mm_it c_1 hf
    exact mm_fr.ret hf F
  · replace hf := mm_if c_1 hf
    obtain ⟨y_2, e_2, hf⟩ := mm_li_ok hf
    exact F.trans (fr_X7_runToRoundEnd_L17 r1 rv σ1 mm_FU (0 : Int32) y_2 σ hf)
def fw_X10_round  (q t i : Nat) : Prop := (q = 0 ∧ t = 0 ∧ i = 2) ∨ (q = 0 ∧ t = 0 ∧ i = 3) ∨ (q = 0 ∧ t = 0 ∧ i = 4) ∨ (q = 0 ∧ t = 0 ∧ i = 5) ∨ (q = 0 ∧ t = 0 ∧ i = 6) ∨ (q = 0 ∧ t = 0 ∧ i = 7) ∨ (q = 0 ∧ t = 1 ∧ i = 3) ∨ (q = 0 ∧ t = 2) ∨ (q = 0 ∧ t = 3) ∨ (q = 0 ∧ t = 4) ∨ (q = 0 ∧ t = 6 ∧ i = 2) ∨ (q = 0 ∧ t = 6 ∧ i = 3) ∨ (q = 0 ∧ t = 6 ∧ i = 4) ∨ (q = 0 ∧ t = 6 ∧ i = 5) ∨ (q = 0 ∧ t = 6 ∧ i = 6) ∨ (q = 0 ∧ t = 6 ∧ i = 7) ∨ (q = 0 ∧ t = 6 ∧ i = 8) ∨ (q = 0 ∧ t = 7) ∨ (q = 0 ∧ t = 8) ∨ (q = 1 ∧ t = 0 ∧ i = 2) ∨ (q = 1 ∧ t = 0 ∧ i = 3) ∨ (q = 1 ∧ t = 0 ∧ i = 4) ∨ (q = 1 ∧ t = 0 ∧ i = 5) ∨ (q = 1 ∧ t = 0 ∧ i = 6) ∨ (q = 1 ∧ t = 0 ∧ i = 7) ∨ (q = 1 ∧ t = 1 ∧ i = 3) ∨ (q = 1 ∧ t = 2) ∨ (q = 1 ∧ t = 3) ∨ (q = 1 ∧ t = 4) ∨ (q = 1 ∧ t = 6 ∧ i = 2) ∨ (q = 1 ∧ t = 6 ∧ i = 3) ∨ (q = 1 ∧ t = 6 ∧ i = 4) ∨ (q = 1 ∧ t = 6 ∧ i = 5) ∨ (q = 1 ∧ t = 6 ∧ i = 6) ∨ (q = 1 ∧ t = 6 ∧ i = 7) ∨ (q = 1 ∧ t = 6 ∧ i = 8) ∨ (q = 1 ∧ t = 7) ∨ (q = 1 ∧ t = 8) ∨ (q = 6 ∧ t = 10 ∧ i = 1) ∨ (q = 6 ∧ t = 11) ∨ (q = 7 ∧ t = 14) ∨ (q = 7 ∧ t = 15) ∨ (q = 7 ∧ t = 17) ∨ (q = 7 ∧ t = 18) ∨ (q = 7 ∧ t = 19) ∨ (q < 6 ∧ t = 0 ∧ i = 2) ∨ (q < 6 ∧ t = 0 ∧ i = 3) ∨ (q < 6 ∧ t = 0 ∧ i = 4) ∨ (q < 6 ∧ t = 0 ∧ i = 5) ∨ (q < 6 ∧ t = 0 ∧ i = 6) ∨ (q < 6 ∧ t = 0 ∧ i = 7) ∨ (q < 6 ∧ t = 1 ∧ i = 3) ∨ (q < 6 ∧ t = 2) ∨ (q < 6 ∧ t = 3) ∨ (q < 6 ∧ t = 4) ∨ (q < 6 ∧ t = 6 ∧ i = 2) ∨ (q < 6 ∧ t = 6 ∧ i = 3) ∨ (q < 6 ∧ t = 6 ∧ i = 4) ∨ (q < 6 ∧ t = 6 ∧ i = 5) ∨ (q < 6 ∧ t = 6 ∧ i = 6) ∨ (q < 6 ∧ t = 6 ∧ i = 7) ∨ (q < 6 ∧ t = 6 ∧ i = 8) ∨ (q < 6 ∧ t = 7) ∨ (q < 6 ∧ t = 8)
theorem fr_X10_round  (σ : mm_M) (rv : Int32) (σ1 : mm_M) (hf : fx_X10_round  σ = some (rv, σ1)) : mm_fr (fw_X10_round) σ σ1 := by
  rw [fx_X10_round] at hf
  have F : mm_fr (fw_X10_round) σ σ := mm_fr.rf
  obtain ⟨r_1, s_1, e_1, hf⟩ := mm_bd_ok hf
  have F := F.trans ((fr_X10_freshTrial  σ r_1 s_1 e_1).mono (fun q t i h => (fun h => h.elim (fun h => (Or.inr (Or.inr (Or.inr (Or.inr (Or.inr (Or.inr (Or.inr (Or.inr (Or.inr (Or.inr (Or.inr (Or.inr (Or.inr (Or.inr (Or.inr (Or.inr (Or.inr (Or.inr (Or.inr (Or.inl h))))))))))))))))))))) (fun h => h.elim (fun h => (Or.inr (Or.inr (Or.inr (Or.inr (Or.inr (Or.inr (Or.inr (Or.inr (Or.inr (Or.inr (Or.inr (Or.inr (Or.inr (Or.inr (Or.inr (Or.inr (Or.inr (Or.inr (Or.inr (Or.inr (Or.inl h)))))))))))))))))))))) (fun h => h.elim (fun h => (Or.inr (Or.inr (Or.inr (Or.inr (Or.inr (Or.inr (Or.inr (Or.inr (Or.inr (Or.inr (Or.inr (Or.inr (Or.inr (Or.inr (Or.inr (Or.inr (Or.inr (Or.inr (Or.inr (Or.inr (Or.inr (Or.inl h))))))))))))))))))))))) (fun h => h.elim (fun h => (Or.inr (Or.inr (Or.inr (Or.inr (Or.inr (Or.inr (Or.inr (Or.inr (Or.inr (Or.inr (Or.inr (Or.inr (Or.inr (Or.inr (Or.inr (Or.inr (Or.inr (Or.inr (Or.inr (Or.inr (Or.inr (Or.inr (Or.inl h)))))))))))))))))))))))) (fun h => h.elim (fun h => (Or.inr (Or.inr (Or.inr (Or.inr (Or.inr (Or.inr (Or.inr (Or.inr (Or.inr (Or.inr (Or.inr (Or.inr (Or.inr (Or.inr (Or.inr (Or.inr (Or.inr (Or.inr (Or.inr (Or.inr (Or.inr (Or.inr (Or.inr (Or.inl h))))))))))))))))))))))))) (fun h => h.elim (fun h => (Or.inr (Or.inr (Or.inr (Or.inr (Or.inr (Or.inr (Or.inr (Or.inr (Or.inr (Or.inr (Or.inr (Or.inr (Or.inr (Or.inr (Or.inr (Or.inr (Or.inr (Or.inr (Or.inr (Or.inr (Or.inr (Or.inr (Or.inr (Or.inr (Or.inl h)))))))))))))))))))))))))) (fun h => h.elim (fun h => (Or.inr (Or.inr (Or.inr (Or.inr (Or.inr (Or.inr (Or.inr (Or.inr (Or.inr (Or.inr (Or.inr (Or.inr (Or.inr (Or.inr (Or.inr (Or.inr (Or.inr (Or.inr (Or.inr (Or.inr (Or.inr (Or.inr (Or.inr (Or.inr (Or.inr (Or.inl h))))))))))))))))))))))))))) (fun h => h.elim (fun h => (Or.inr (Or.inr (Or.inr (Or.inr (Or.inr (Or.inr (Or.inr (Or.inr (Or.inr (Or.inr (Or.inr (Or.inr (Or.inr (Or.inr (Or.inr (Or.inr (Or.inr (Or.inr (Or.inr (Or.inr (Or.inr (Or.inr (Or.inr (Or.inr (Or.inr (Or.inr (Or.inl h)))))))))))))))))))))))))))) (fun h => h.elim (fun h => (Or.inr (Or.inr (Or.inr (Or.inr (Or.inr (Or.inr (Or.inr (Or.inr (Or.inr (Or.inr (Or.inr (Or.inr (Or.inr (Or.inr (Or.inr (Or.inr (Or.inr (Or.inr (Or.inr (Or.inr (Or.inr (Or.inr (Or.inr (Or.inr (Or.inr (Or.inr (Or.inr (Or.inl h))))))))))))))))))))))))))))) (fun h => h.elim (fun h => (Or.inr (Or.inr (Or.inr (Or.inr (Or.inr (Or.inr (Or.inr (Or.inr (Or.inr (Or.inr (Or.inr (Or.inr (Or.inr (Or.inr (Or.inr (Or.inr (Or.inr (Or.inr (Or.inr (Or.inr (Or.inr (Or.inr (Or.inr (Or.inr (Or.inr (Or.inr (Or.inr (Or.inr (Or.inl h)))))))))))))))))))))))))))))) (fun h => h.elim (fun h => (Or.inr (Or.inr (Or.inr (Or.inr (Or.inr (Or.inr (Or.inr (Or.inr (Or.inr (Or.inr (Or.inr (Or.inr (Or.inr (Or.inr (Or.inr (Or.inr (Or.inr (Or.inr (Or.inr (Or.inr (Or.inr (Or.inr (Or.inr (Or.inr (Or.inr (Or.inr (Or.inr (Or.inr (Or.inr (Or.inl h))))))))))))))))))))))))))))))) (fun h => h.elim (fun h => (Or.inr (Or.inr (Or.inr (Or.inr (Or.inr (Or.inr (Or.inr (Or.inr (Or.inr (Or.inr (Or.inr (Or.inr (Or.inr (Or.inr (Or.inr (Or.inr (Or.inr (Or.inr (Or.inr (Or.inr (Or.inr (Or.inr (Or.inr (Or.inr (Or.inr (Or.inr (Or.inr (Or.inr (Or.inr (Or.inr (Or.inl h)))))))))))))))))))))))))))))))) (fun h => h.elim (fun h => (Or.inr (Or.inr (Or.inr (Or.inr (Or.inr (Or.inr (Or.inr (Or.inr (Or.inr (Or.inr (Or.inr (Or.inr (Or.inr (Or.inr (Or.inr (Or.inr (Or.inr (Or.inr (Or.inr (Or.inr (Or.inr (Or.inr (Or.inr (Or.inr (Or.inr (Or.inr (Or.inr (Or.inr (Or.inr (Or.inr (Or.inr (Or.inl h))))))))))))))))))))))))))))))))) (fun h => h.elim (fun h => (Or.inr (Or.inr (Or.inr (Or.inr (Or.inr (Or.inr (Or.inr (Or.inr (Or.inr (Or.inr (Or.inr (Or.inr (Or.inr (Or.inr (Or.inr (Or.inr (Or.inr (Or.inr (Or.inr (Or.inr (Or.inr (Or.inr (Or.inr (Or.inr (Or.inr (Or.inr (Or.inr (Or.inr (Or.inr (Or.inr (Or.inr (Or.inr (Or.inl h)))))))))))))))))))))))))))))))))) (fun h => h.elim (fun h => (Or.inr (Or.inr (Or.inr (Or.inr (Or.inr (Or.inr (Or.inr (Or.inr (Or.inr (Or.inr (Or.inr (Or.inr (Or.inr (Or.inr (Or.inr (Or.inr (Or.inr (Or.inr (Or.inr (Or.inr (Or.inr (Or.inr (Or.inr (Or.inr (Or.inr (Or.inr (Or.inr (Or.inr (Or.inr (Or.inr (Or.inr (Or.inr (Or.inr (Or.inl h))))))))))))))))))))))))))))))))))) (fun h => h.elim (fun h => (Or.inr (Or.inr (Or.inr (Or.inr (Or.inr (Or.inr (Or.inr (Or.inr (Or.inr (Or.inr (Or.inr (Or.inr (Or.inr (Or.inr (Or.inr (Or.inr (Or.inr (Or.inr (Or.inr (Or.inr (Or.inr (Or.inr (Or.inr (Or.inr (Or.inr (Or.inr (Or.inr (Or.inr (Or.inr (Or.inr (Or.inr (Or.inr (Or.inr (Or.inr (Or.inl h)))))))))))))))))))))))))))))))))))) (fun h => h.elim (fun h => (Or.inr (Or.inr (Or.inr (Or.inr (Or.inr (Or.inr (Or.inr (Or.inr (Or.inr (Or.inr (Or.inr (Or.inr (Or.inr (Or.inr (Or.inr (Or.inr (Or.inr (Or.inr (Or.inr (Or.inr (Or.inr (Or.inr (Or.inr (Or.inr (Or.inr (Or.inr (Or.inr (Or.inr (Or.inr (Or.inr (Or.inr (Or.inr (Or.inr (Or.inr (Or.inr (Or.inl h))))))))))))))))))))))))))))))))))))) (fun h => h.elim (fun h => (Or.inr (Or.inr (Or.inr (Or.inr (Or.inr (Or.inr (Or.inr (Or.inr (Or.inr (Or.inr (Or.inr (Or.inr (Or.inr (Or.inr (Or.inr (Or.inr (Or.inr (Or.inr (Or.inr (Or.inr (Or.inr (Or.inr (Or.inr (Or.inr (Or.inr (Or.inr (Or.inr (Or.inr (Or.inr (Or.inr (Or.inr (Or.inr (Or.inr (Or.inr (Or.inr (Or.inr (Or.inl h)))))))))))))))))))))))))))))))))))))) (fun h => (Or.inr (Or.inr (Or.inr (Or.inr (Or.inr (Or.inr (Or.inr (Or.inr (Or.inr (Or.inr (Or.inr (Or.inr (Or.inr (Or.inr (Or.inr (Or.inr (Or.inr (Or.inr (Or.inr (Or.inr (Or.inr (Or.inr (Or.inr (Or.inr (Or.inr (Or.inr (Or.inr (Or.inr (Or.inr (Or.inr (Or.inr (Or.inr (Or.inr (Or.inr (Or.inr (Or.inr (Or.inr (Or.inl h))))))))))))))))))))))))))))))))))))))))))))))))))))))))) h))
  obtain ⟨r_2, s_2, e_2, hf⟩ := mm_bd_ok hf
  have F := F.trans ((fr_X7_runToRoundEnd 1 s_1 r_2 s_2 e_2).mono (fun q t i h => (fun h => h.elim (fun h => (Or.inr (Or.inr (Or.inr (Or.inr (Or.inr (Or.inr (Or.inr (Or.inr (Or.inr (Or.inr (Or.inr (Or.inr (Or.inr (Or.inr (Or.inr (Or.inr (Or.inr (Or.inr (Or.inr (Or.inr (Or.inr (Or.inr (Or.inr (Or.inr (Or.inr (Or.inr (Or.inr (Or.inr (Or.inr (Or.inr (Or.inr (Or.inr (Or.inr (Or.inr (Or.inr (Or.inr (Or.inr (Or.inr (Or.inr (Or.inr (Or.inl h)))))))))))))))))))))))))))))))))))))))))) (fun h => h.elim (fun h => (Or.inr (Or.inr (Or.inr (Or.inr (Or.inr (Or.inr (Or.inr (Or.inr (Or.inr (Or.inr (Or.inr (Or.inr (Or.inr (Or.inr (Or.inr (Or.inr (Or.inr (Or.inr (Or.inr (Or.inr (Or.inr (Or.inr (Or.inr (Or.inr (Or.inr (Or.inr (Or.inr (Or.inr (Or.inr (Or.inr (Or.inr (Or.inr (Or.inr (Or.inr (Or.inr (Or.inr (Or.inr (Or.inr (Or.inr (Or.inr (Or.inr (Or.inl h))))))))))))))))))))))))))))))))))))))))))) (fun h => h.elim (fun h => (Or.inr (Or.inr (Or.inr (Or.inr (Or.inr (Or.inr (Or.inr (Or.inr (Or.inr (Or.inr (Or.inr (Or.inr (Or.inr (Or.inr (Or.inr (Or.inr (Or.inr (Or.inr (Or.inr (Or.inr (Or.inr (Or.inr (Or.inr (Or.inr (Or.inr (Or.inr (Or.inr (Or.inr (Or.inr (Or.inr (Or.inr (Or.inr (Or.inr (Or.inr (Or.inr (Or.inr (Or.inr (Or.inr (Or.inr (Or.inr (Or.inr (Or.inr (Or.inl h)))))))))))))))))))))))))))))))))))))))))))) (fun h => h.elim (fun h => (Or.inr (Or.inr (Or.inr (Or.inr (Or.inr (Or.inr (Or.inr (Or.inr (Or.inr (Or.inr (Or.inr (Or.inr (Or.inr (Or.inr (Or.inr (Or.inr (Or.inr (Or.inr (Or.inr (Or.inr (Or.inr (Or.inr (Or.inr (Or.inr (Or.inr (Or.inr (Or.inr (Or.inr (Or.inr (Or.inr (Or.inr (Or.inr (Or.inr (Or.inr (Or.inr (Or.inr (Or.inr (Or.inr (Or.inr (Or.inr (Or.inr (Or.inr (Or.inr (Or.inl h))))))))))))))))))))))))))))))))))))))))))))) (fun h => h.elim (fun h => (Or.inr (Or.inr (Or.inr (Or.inr (Or.inr (Or.inr (Or.inr (Or.inr (Or.inr (Or.inr (Or.inr (Or.inr (Or.inr (Or.inr (Or.inr (Or.inr (Or.inr (Or.inr (Or.inr (Or.inr (Or.inr (Or.inr (Or.inr (Or.inr (Or.inr (Or.inr (Or.inr (Or.inr (Or.inr (Or.inr (Or.inr (Or.inr (Or.inr (Or.inr (Or.inr (Or.inr (Or.inr (Or.inr (Or.inr (Or.inr (Or.inr (Or.inr (Or.inr (Or.inr (Or.inl h)))))))))))))))))))))))))))))))))))))))))))))) (fun h => h.elim (fun h => (Or.inr (Or.inr (Or.inr (Or.inr (Or.inr (Or.inr (Or.inr (Or.inr (Or.inr (Or.inr (Or.inr (Or.inr (Or.inr (Or.inr (Or.inr (Or.inr (Or.inr (Or.inr (Or.inr (Or.inr (Or.inl h)))))))))))))))))))))) (fun h => h.elim (fun h => (Or.inr (Or.inr (Or.inr (Or.inr (Or.inr (Or.inr (Or.inr (Or.inr (Or.inr (Or.inr (Or.inr (Or.inr (Or.inr (Or.inr (Or.inr (Or.inr (Or.inr (Or.inr (Or.inr (Or.inr (Or.inr (Or.inl h))))))))))))))))))))))) (fun h => h.elim (fun h => (Or.inr (Or.inr (Or.inr (Or.inr (Or.inr (Or.inr (Or.inr (Or.inr (Or.inr (Or.inr (Or.inr (Or.inr (Or.inr (Or.inr (Or.inr (Or.inr (Or.inr (Or.inr (Or.inr (Or.inr (Or.inr (Or.inr (Or.inl h)))))))))))))))))))))))) (fun h => h.elim (fun h => (Or.inr (Or.inr (Or.inr (Or.inr (Or.inr (Or.inr (Or.inr (Or.inr (Or.inr (Or.inr (Or.inr (Or.inr (Or.inr (Or.inr (Or.inr (Or.inr (Or.inr (Or.inr (Or.inr (Or.inr (Or.inr (Or.inr (Or.inr (Or.inl h))))))))))))))))))))))))) (fun h => h.elim (fun h => (Or.inr (Or.inr (Or.inr (Or.inr (Or.inr (Or.inr (Or.inr (Or.inr (Or.inr (Or.inr (Or.inr (Or.inr (Or.inr (Or.inr (Or.inr (Or.inr (Or.inr (Or.inr (Or.inr (Or.inr (Or.inr (Or.inr (Or.inr (Or.inr (Or.inl h)))))))))))))))))))))))))) (fun h => h.elim (fun h => (Or.inr (Or.inr (Or.inr (Or.inr (Or.inr (Or.inr (Or.inr (Or.inr (Or.inr (Or.inr (Or.inr (Or.inr (Or.inr (Or.inr (Or.inr (Or.inr (Or.inr (Or.inr (Or.inr (Or.inr (Or.inr (Or.inr (Or.inr (Or.inr (Or.inr (Or.inr (Or.inr (Or.inr (Or.inr (Or.inr (Or.inl h)))))))))))))))))))))))))))))))) (fun h => h.elim (fun h => (Or.inr (Or.inr (Or.inr (Or.inr (Or.inr (Or.inr (Or.inr (Or.inr (Or.inr (Or.inr (Or.inr (Or.inr (Or.inr (Or.inr (Or.inr (Or.inr (Or.inr (Or.inr (Or.inr (Or.inr (Or.inr (Or.inr (Or.inr (Or.inr (Or.inr (Or.inr (Or.inr (Or.inr (Or.inr (Or.inr (Or.inr (Or.inl h))))))))))))))))))))))))))))))))) (fun h => h.elim (fun h => (Or.inr (Or.inr (Or.inr (Or.inr (Or.inr (Or.inr (Or.inr (Or.inr (Or.inr (Or.inr (Or.inr (Or.inr (Or.inr (Or.inr (Or.inr (Or.inr (Or.inr (Or.inr (Or.inr (Or.inr (Or.inr (Or.inr (Or.inr (Or.inr (Or.inr (Or.inr (Or.inr (Or.inr (Or.inr (Or.inr (Or.inr (Or.inr (Or.inl h)))))))))))))))))))))))))))))))))) (fun h => h.elim (fun h => (Or.inr (Or.inr (Or.inr (Or.inr (Or.inr (Or.inr (Or.inr (Or.inr (Or.inr (Or.inr (Or.inr (Or.inr (Or.inr (Or.inr (Or.inr (Or.inr (Or.inr (Or.inr (Or.inr (Or.inr (Or.inr (Or.inr (Or.inr (Or.inr (Or.inr (Or.inr (Or.inr (Or.inr (Or.inr (Or.inr (Or.inr (Or.inr (Or.inr (Or.inl h))))))))))))))))))))))))))))))))))) (fun h => h.elim (fun h => (Or.inr (Or.inr (Or.inr (Or.inr (Or.inr (Or.inr (Or.inr (Or.inr (Or.inr (Or.inr (Or.inr (Or.inr (Or.inr (Or.inr (Or.inr (Or.inr (Or.inr (Or.inr (Or.inr (Or.inr (Or.inr (Or.inr (Or.inr (Or.inr (Or.inr (Or.inr (Or.inr (Or.inr (Or.inr (Or.inr (Or.inr (Or.inr (Or.inr (Or.inr (Or.inl h)))))))))))))))))))))))))))))))))))) (fun h => h.elim (fun h => (Or.inr (Or.inr (Or.inr (Or.inr (Or.inr (Or.inr (Or.inr (Or.inr (Or.inr (Or.inr (Or.inr (Or.inr (Or.inr (Or.inr (Or.inr (Or.inr (Or.inr (Or.inr (Or.inr (Or.inr (Or.inr (Or.inr (Or.inr (Or.inr (Or.inr (Or.inr (Or.inr (Or.inr (Or.inr (Or.inr (Or.inr (Or.inr (Or.inr (Or.inr (Or.inr (Or.inl h))))))))))))))))))))))))))))))))))))) (fun h => (Or.inr (Or.inr (Or.inr (Or.inr (Or.inr (Or.inr (Or.inr (Or.inr (Or.inr (Or.inr (Or.inr (Or.inr (Or.inr (Or.inr (Or.inr (Or.inr (Or.inr (Or.inr (Or.inr (Or.inr (Or.inr (Or.inr (Or.inr (Or.inr (Or.inr (Or.inr (Or.inr (Or.inr (Or.inr (Or.inr (Or.inr (Or.inr (Or.inr (Or.inr (Or.inr (Or.inr (Or.inr (Or.inl h))))))))))))))))))))))))))))))))))))))))))))))))))))))) h))
  obtain ⟨r_3, s_3, e_3, hf⟩ := mm_bd_ok hf
  have F := F.trans ((fr_X10_keep r_2 s_2 r_3 s_3 e_3).mono (fun q t i h => (fun h => h.elim (fun h => (Or.inl h)) (fun h => h.elim (fun h => (Or.inr (Or.inl h))) (fun h => h.elim (fun h => (Or.inr (Or.inr (Or.inl h)))) (fun h => h.elim (fun h => (Or.inr (Or.inr (Or.inr (Or.inl h))))) (fun h => h.elim (fun h => (Or.inr (Or.inr (Or.inr (Or.inr (Or.inl h)))))) (fun h => h.elim (fun h => (Or.inr (Or.inr (Or.inr (Or.inr (Or.inr (Or.inl h))))))) (fun h => h.elim (fun h => (Or.inr (Or.inr (Or.inr (Or.inr (Or.inr (Or.inr (Or.inl h)))))))) (fun h => h.elim (fun h => (Or.inr (Or.inr (Or.inr (Or.inr (Or.inr (Or.inr (Or.inr (Or.inl h))))))))) (fun h => h.elim (fun h => (Or.inr (Or.inr (Or.inr (Or.inr (Or.inr (Or.inr (Or.inr (Or.inr (Or.inl h)))))))))) (fun h => h.elim (fun h => (Or.inr (Or.inr (Or.inr (Or.inr (Or.inr (Or.inr (Or.inr (Or.inr (Or.inr (Or.inl h))))))))))) (fun h => h.elim (fun h => (Or.inr (Or.inr (Or.inr (Or.inr (Or.inr (Or.inr (Or.inr (Or.inr (Or.inr (Or.inr (Or.inl h)))))))))))) (fun h => h.elim (fun h => (Or.inr (Or.inr (Or.inr (Or.inr (Or.inr (Or.inr (Or.inr (Or.inr (Or.inr (Or.inr (Or.inr (Or.inl h))))))))))))) (fun h => h.elim (fun h => (Or.inr (Or.inr (Or.inr (Or.inr (Or.inr (Or.inr (Or.inr (Or.inr (Or.inr (Or.inr (Or.inr (Or.inr (Or.inl h)))))))))))))) (fun h => h.elim (fun h => (Or.inr (Or.inr (Or.inr (Or.inr (Or.inr (Or.inr (Or.inr (Or.inr (Or.inr (Or.inr (Or.inr (Or.inr (Or.inr (Or.inl h))))))))))))))) (fun h => h.elim (fun h => (Or.inr (Or.inr (Or.inr (Or.inr (Or.inr (Or.inr (Or.inr (Or.inr (Or.inr (Or.inr (Or.inr (Or.inr (Or.inr (Or.inr (Or.inl h)))))))))))))))) (fun h => h.elim (fun h => (Or.inr (Or.inr (Or.inr (Or.inr (Or.inr (Or.inr (Or.inr (Or.inr (Or.inr (Or.inr (Or.inr (Or.inr (Or.inr (Or.inr (Or.inr (Or.inl h))))))))))))))))) (fun h => h.elim (fun h => (Or.inr (Or.inr (Or.inr (Or.inr (Or.inr (Or.inr (Or.inr (Or.inr (Or.inr (Or.inr (Or.inr (Or.inr (Or.inr (Or.inr (Or.inr (Or.inr (Or.inl h)))))))))))))))))) (fun h => h.elim (fun h => (Or.inr (Or.inr (Or.inr (Or.inr (Or.inr (Or.inr (Or.inr (Or.inr (Or.inr (Or.inr (Or.inr (Or.inr (Or.inr (Or.inr (Or.inr (Or.inr (Or.inr (Or.inl h))))))))))))))))))) (fun h => h.elim (fun h => (Or.inr (Or.inr (Or.inr (Or.inr (Or.inr (Or.inr (Or.inr (Or.inr (Or.inr (Or.inr (Or.inr (Or.inr (Or.inr (Or.inr (Or.inr (Or.inr (Or.inr (Or.inr (Or.inl h)))))))))))))))))))) (fun h => h.elim (fun h => (Or.inr (Or.inr (Or.inr (Or.inr (Or.inr (Or.inr (Or.inr (Or.inr (Or.inr (Or.inr (Or.inr (Or.inr (Or.inr (Or.inr (Or.inr (Or.inr (Or.inr (Or.inr (Or.inr (Or.inr (Or.inr (Or.inr (Or.inr (Or.inr (Or.inr (Or.inr (Or.inr (Or.inr (Or.inr (Or.inr (Or.inr (Or.inr (Or.inr (Or.inr (Or.inr (Or.inr (Or.inr (Or.inr (Or.inl h)))))))))))))))))))))))))))))))))))))))) (fun h => h.elim (fun h => (Or.inr (Or.inr (Or.inr (Or.inr (Or.inr (Or.inr (Or.inr (Or.inr (Or.inr (Or.inr (Or.inr (Or.inr (Or.inr (Or.inr (Or.inr (Or.inr (Or.inr (Or.inr (Or.inr (Or.inr (Or.inr (Or.inr (Or.inr (Or.inr (Or.inr (Or.inr (Or.inr (Or.inr (Or.inr (Or.inr (Or.inr (Or.inr (Or.inr (Or.inr (Or.inr (Or.inr (Or.inr (Or.inr (Or.inr (Or.inl h))))))))))))))))))))))))))))))))))))))))) (fun h => h.elim (fun h => (Or.inr (Or.inr (Or.inr (Or.inr (Or.inr (Or.inr (Or.inr (Or.inr (Or.inr (Or.inr (Or.inr (Or.inr (Or.inr (Or.inr (Or.inr (Or.inr (Or.inr (Or.inr (Or.inr (Or.inr (Or.inr (Or.inr (Or.inr (Or.inr (Or.inr (Or.inr (Or.inr (Or.inr (Or.inr (Or.inr (Or.inr (Or.inr (Or.inr (Or.inr (Or.inr (Or.inr (Or.inr (Or.inr (Or.inr (Or.inr (Or.inr (Or.inr (Or.inr (Or.inr (Or.inr (Or.inl h))))))))))))))))))))))))))))))))))))))))))))))) (fun h => h.elim (fun h => (Or.inr (Or.inr (Or.inr (Or.inr (Or.inr (Or.inr (Or.inr (Or.inr (Or.inr (Or.inr (Or.inr (Or.inr (Or.inr (Or.inr (Or.inr (Or.inr (Or.inr (Or.inr (Or.inr (Or.inr (Or.inr (Or.inr (Or.inr (Or.inr (Or.inr (Or.inr (Or.inr (Or.inr (Or.inr (Or.inr (Or.inr (Or.inr (Or.inr (Or.inr (Or.inr (Or.inr (Or.inr (Or.inr (Or.inr (Or.inr (Or.inr (Or.inr (Or.inr (Or.inr (Or.inr (Or.inr (Or.inl h)))))))))))))))))))))))))))))))))))))))))))))))) (fun h => h.elim (fun h => (Or.inr (Or.inr (Or.inr (Or.inr (Or.inr (Or.inr (Or.inr (Or.inr (Or.inr (Or.inr (Or.inr (Or.inr (Or.inr (Or.inr (Or.inr (Or.inr (Or.inr (Or.inr (Or.inr (Or.inr (Or.inr (Or.inr (Or.inr (Or.inr (Or.inr (Or.inr (Or.inr (Or.inr (Or.inr (Or.inr (Or.inr (Or.inr (Or.inr (Or.inr (Or.inr (Or.inr (Or.inr (Or.inr (Or.inr (Or.inr (Or.inr (Or.inr (Or.inr (Or.inr (Or.inr (Or.inr (Or.inr (Or.inl h))))))))))))))))))))))))))))))))))))))))))))))))) (fun h => h.elim (fun h => (Or.inr (Or.inr (Or.inr (Or.inr (Or.inr (Or.inr (Or.inr (Or.inr (Or.inr (Or.inr (Or.inr (Or.inr (Or.inr (Or.inr (Or.inr (Or.inr (Or.inr (Or.inr (Or.inr (Or.inr (Or.inr (Or.inr (Or.inr (Or.inr (Or.inr (Or.inr (Or.inr (Or.inr (Or.inr (Or.inr (Or.inr (Or.inr (Or.inr (Or.inr (Or.inr (Or.inr (Or.inr (Or.inr (Or.inr (Or.inr (Or.inr (Or.inr (Or.inr (Or.inr (Or.inr (Or.inr (Or.inr (Or.inr (Or.inl h)))))))))))))))))))))))))))))))))))))))))))))))))) (fun h => h.elim (fun h => (Or.inr (Or.inr (Or.inr (Or.inr (Or.inr (Or.inr (Or.inr (Or.inr (Or.inr (Or.inr (Or.inr (Or.inr (Or.inr (Or.inr (Or.inr (Or.inr (Or.inr (Or.inr (Or.inr (Or.inr (Or.inr (Or.inr (Or.inr (Or.inr (Or.inr (Or.inr (Or.inr (Or.inr (Or.inr (Or.inr (Or.inr (Or.inr (Or.inr (Or.inr (Or.inr (Or.inr (Or.inr (Or.inr (Or.inr (Or.inr (Or.inr (Or.inr (Or.inr (Or.inr (Or.inr (Or.inr (Or.inr (Or.inr (Or.inr (Or.inl h))))))))))))))))))))))))))))))))))))))))))))))))))) (fun h => h.elim (fun h => (Or.inr (Or.inr (Or.inr (Or.inr (Or.inr (Or.inr (Or.inr (Or.inr (Or.inr (Or.inr (Or.inr (Or.inr (Or.inr (Or.inr (Or.inr (Or.inr (Or.inr (Or.inr (Or.inr (Or.inr (Or.inr (Or.inr (Or.inr (Or.inr (Or.inr (Or.inr (Or.inr (Or.inr (Or.inr (Or.inr (Or.inr (Or.inr (Or.inr (Or.inr (Or.inr (Or.inr (Or.inr (Or.inr (Or.inr (Or.inr (Or.inr (Or.inr (Or.inr (Or.inr (Or.inr (Or.inr (Or.inr (Or.inr (Or.inr (Or.inr (Or.inl h)))))))))))))))))))))))))))))))))))))))))))))))))))) (fun h => h.elim (fun h => (Or.inr (Or.inr (Or.inr (Or.inr (Or.inr (Or.inr (Or.inr (Or.inr (Or.inr (Or.inr (Or.inr (Or.inr (Or.inr (Or.inr (Or.inr (Or.inr (Or.inr (Or.inr (Or.inr (Or.inr (Or.inr (Or.inr (Or.inr (Or.inr (Or.inr (Or.inr (Or.inr (Or.inr (Or.inr (Or.inr (Or.inr (Or.inr (Or.inr (Or.inr (Or.inr (Or.inr (Or.inr (Or.inr (Or.inr (Or.inr (Or.inr (Or.inr (Or.inr (Or.inr (Or.inr (Or.inr (Or.inr (Or.inr (Or.inr (Or.inr (Or.inr (Or.inl h))))))))))))))))))))))))))))))))))))))))))))))))))))) (fun h => h.elim (fun h => (Or.inr (Or.inr (Or.inr (Or.inr (Or.inr (Or.inr (Or.inr (Or.inr (Or.inr (Or.inr (Or.inr (Or.inr (Or.inr (Or.inr (Or.inr (Or.inr (Or.inr (Or.inr (Or.inr (Or.inr (Or.inr (Or.inr (Or.inr (Or.inr (Or.inr (Or.inr (Or.inr (Or.inr (Or.inr (Or.inr (Or.inr (Or.inr (Or.inr (Or.inr (Or.inr (Or.inr (Or.inr (Or.inr (Or.inr (Or.inr (Or.inr (Or.inr (Or.inr (Or.inr (Or.inr (Or.inr (Or.inr (Or.inr (Or.inr (Or.inr (Or.inr (Or.inr (Or.inl h)))))))))))))))))))))))))))))))))))))))))))))))))))))) (fun h => h.elim (fun h => (Or.inr (Or.inr (Or.inr (Or.inr (Or.inr (Or.inr (Or.inr (Or.inr (Or.inr (Or.inr (Or.inr (Or.inr (Or.inr (Or.inr (Or.inr (Or.inr (Or.inr (Or.inr (Or.inr (Or.inr (Or.inr (Or.inr (Or.inr (Or.inr (Or.inr (Or.inr (Or.inr (Or.inr (Or.inr (Or.inr (Or.inr (Or.inr (Or.inr (Or.inr (Or.inr (Or.inr (Or.inr (Or.inr (Or.inr (Or.inr (Or.inr (Or.inr (Or.inr (Or.inr (Or.inr (Or.inr (Or.inr (Or.inr (Or.inr (Or.inr (Or.inr (Or.inr (Or.inr (Or.inl h))))))))))))))))))))))))))))))))))))))))))))))))))))))) (fun h => h.elim (fun h => (Or.inr (Or.inr (Or.inr (Or.inr (Or.inr (Or.inr (Or.inr (Or.inr (Or.inr (Or.inr (Or.inr (Or.inr (Or.inr (Or.inr (Or.inr (Or.inr (Or.inr (Or.inr (Or.inr (Or.inr (Or.inr (Or.inr (Or.inr (Or.inr (Or.inr (Or.inr (Or.inr (Or.inr (Or.inr (Or.inr (Or.inr (Or.inr (Or.inr (Or.inr (Or.inr (Or.inr (Or.inr (Or.inr (Or.inr (Or.inr (Or.inr (Or.inr (Or.inr (Or.inr (Or.inr (Or.inr (Or.inr (Or.inr (Or.inr (Or.inr (Or.inr (Or.inr (Or.inr (Or.inr (Or.inl h)))))))))))))))))))))))))))))))))))))))))))))))))))))))) (fun h => h.elim (fun h => (Or.inr (Or.inr (Or.inr (Or.inr (Or.inr (Or.inr (Or.inr (Or.inr (Or.inr (Or.inr (Or.inr (Or.inr (Or.inr (Or.inr (Or.inr (Or.inr (Or.inr (Or.inr (Or.inr (Or.inr (Or.inr (Or.inr (Or.inr (Or.inr (Or.inr (Or.inr (Or.inr (Or.inr (Or.inr (Or.inr (Or.inr (Or.inr (Or.inr (Or.inr (Or.inr (Or.inr (Or.inr (Or.inr (Or.inr (Or.inr (Or.inr (Or.inr (Or.inr (Or.inr (Or.inr (Or.inr (Or.inr (Or.inr (Or.inr (Or.inr (Or.inr (Or.inr (Or.inr (Or.inr (Or.inr (Or.inl h))))))))))))))))))))))))))))))))))))))))))))))))))))))))) (fun h => h.elim (fun h => (Or.inr (Or.inr (Or.inr (Or.inr (Or.inr (Or.inr (Or.inr (Or.inr (Or.inr (Or.inr (Or.inr (Or.inr (Or.inr (Or.inr (Or.inr (Or.inr (Or.inr (Or.inr (Or.inr (Or.inr (Or.inr (Or.inr (Or.inr (Or.inr (Or.inr (Or.inr (Or.inr (Or.inr (Or.inr (Or.inr (Or.inr (Or.inr (Or.inr (Or.inr (Or.inr (Or.inr (Or.inr (Or.inr (Or.inr (Or.inr (Or.inr (Or.inr (Or.inr (Or.inr (Or.inr (Or.inr (Or.inr (Or.inr (Or.inr (Or.inr (Or.inr (Or.inr (Or.inr (Or.inr (Or.inr (Or.inr (Or.inl h)))))))))))))))))))))))))))))))))))))))))))))))))))))))))) (fun h => h.elim (fun h => (Or.inr (Or.inr (Or.inr (Or.inr (Or.inr (Or.inr (Or.inr (Or.inr (Or.inr (Or.inr (Or.inr (Or.inr (Or.inr (Or.inr (Or.inr (Or.inr (Or.inr (Or.inr (Or.inr (Or.inr (Or.inr (Or.inr (Or.inr (Or.inr (Or.inr (Or.inr (Or.inr (Or.inr (Or.inr (Or.inr (Or.inr (Or.inr (Or.inr (Or.inr (Or.inr (Or.inr (Or.inr (Or.inr (Or.inr (Or.inr (Or.inr (Or.inr (Or.inr (Or.inr (Or.inr (Or.inr (Or.inr (Or.inr (Or.inr (Or.inr (Or.inr (Or.inr (Or.inr (Or.inr (Or.inr (Or.inr (Or.inr (Or.inl h))))))))))))))))))))))))))))))))))))))))))))))))))))))))))) (fun h => h.elim (fun h => (Or.inr (Or.inr (Or.inr (Or.inr (Or.inr (Or.inr (Or.inr (Or.inr (Or.inr (Or.inr (Or.inr (Or.inr (Or.inr (Or.inr (Or.inr (Or.inr (Or.inr (Or.inr (Or.inr (Or.inr (Or.inr (Or.inr (Or.inr (Or.inr (Or.inr (Or.inr (Or.inr (Or.inr (Or.inr (Or.inr (Or.inr (Or.inr (Or.inr (Or.inr (Or.inr (Or.inr (Or.inr (Or.inr (Or.inr (Or.inr (Or.inr (Or.inr (Or.inr (Or.inr (Or.inr (Or.inr (Or.inr (Or.inr (Or.inr (Or.inr (Or.inr (Or.inr (Or.inr (Or.inr (Or.inr (Or.inr (Or.inr (Or.inr (Or.inl h)))))))))))))))))))))))))))))))))))))))))))))))))))))))))))) (fun h => h.elim (fun h => (Or.inr (Or.inr (Or.inr (Or.inr (Or.inr (Or.inr (Or.inr (Or.inr (Or.inr (Or.inr (Or.inr (Or.inr (Or.inr (Or.inr (Or.inr (Or.inr (Or.inr (Or.inr (Or.inr (Or.inr (Or.inr (Or.inr (Or.inr (Or.inr (Or.inr (Or.inr (Or.inr (Or.inr (Or.inr (Or.inr (Or.inr (Or.inr (Or.inr (Or.inr (Or.inr (Or.inr (Or.inr (Or.inr (Or.inr (Or.inr (Or.inr (Or.inr (Or.inr (Or.inr (Or.inr (Or.inr (Or.inr (Or.inr (Or.inr (Or.inr (Or.inr (Or.inr (Or.inr (Or.inr (Or.inr (Or.inr (Or.inr (Or.inr (Or.inr (Or.inl h))))))))))))))))))))))))))))))))))))))))))))))))))))))))))))) (fun h => h.elim (fun h => (Or.inr (Or.inr (Or.inr (Or.inr (Or.inr (Or.inr (Or.inr (Or.inr (Or.inr (Or.inr (Or.inr (Or.inr (Or.inr (Or.inr (Or.inr (Or.inr (Or.inr (Or.inr (Or.inr (Or.inr (Or.inr (Or.inr (Or.inr (Or.inr (Or.inr (Or.inr (Or.inr (Or.inr (Or.inr (Or.inr (Or.inr (Or.inr (Or.inr (Or.inr (Or.inr (Or.inr (Or.inr (Or.inr (Or.inr (Or.inr (Or.inr (Or.inr (Or.inr (Or.inr (Or.inr (Or.inr (Or.inr (Or.inr (Or.inr (Or.inr (Or.inr (Or.inr (Or.inr (Or.inr (Or.inr (Or.inr (Or.inr (Or.inr (Or.inr (Or.inr (Or.inl h)))))))))))))))))))))))))))))))))))))))))))))))))))))))))))))) (fun h => h.elim (fun h => (Or.inr (Or.inr (Or.inr (Or.inr (Or.inr (Or.inr (Or.inr (Or.inr (Or.inr (Or.inr (Or.inr (Or.inr (Or.inr (Or.inr (Or.inr (Or.inr (Or.inr (Or.inr (Or.inr (Or.inr (Or.inr (Or.inr (Or.inr (Or.inr (Or.inr (Or.inr (Or.inr (Or.inr (Or.inr (Or.inr (Or.inr (Or.inr (Or.inr (Or.inr (Or.inr (Or.inr (Or.inr (Or.inr (Or.inr (Or.inr (Or.inr (Or.inr (Or.inr (Or.inr (Or.inr (Or.inr (Or.inr (Or.inr (Or.inr (Or.inr (Or.inr (Or.inr (Or.inr (Or.inr (Or.inr (Or.inr (Or.inr (Or.inr (Or.inr (Or.inr (Or.inr (Or.inl h))))))))))))))))))))))))))))))))))))))))))))))))))))))))))))))) (fun h => h.elim (fun h => (Or.inr (Or.inr (Or.inr (Or.inr (Or.inr (Or.inr (Or.inr (Or.inr (Or.inr (Or.inr (Or.inr (Or.inr (Or.inr (Or.inr (Or.inr (Or.inr (Or.inr (Or.inr (Or.inr (Or.inr (Or.inr (Or.inr (Or.inr (Or.inr (Or.inr (Or.inr (Or.inr (Or.inr (Or.inr (Or.inr (Or.inr (Or.inr (Or.inr (Or.inr (Or.inr (Or.inr (Or.inr (Or.inr (Or.inr (Or.inr (Or.inr (Or.inr (Or.inr (Or.inr (Or.inr (Or.inr (Or.inr (Or.inr (Or.inr (Or.inr (Or.inr (Or.inr (Or.inr (Or.inr (Or.inr (Or.inr (Or.inr (Or.inr (Or.inr (Or.inr (Or.inr (Or.inr (Or.inl h)))))))))))))))))))))))))))))))))))))))))))))))))))))))))))))))) (fun h => (Or.inr (Or.inr (Or.inr (Or.inr (Or.inr (Or.inr (Or.inr (Or.inr (Or.inr (Or.inr (Or.inr (Or.inr (Or.inr (Or.inr (Or.inr (Or.inr (Or.inr (Or.inr (Or.inr (Or.inr (Or.inr (Or.inr (Or.inr (Or.inr (Or.inr (Or.inr (Or.inr (Or.inr (Or.inr (Or.inr (Or.inr (Or.inr (Or.inr (Or.inr (Or.inr (Or.inr (Or.inr (Or.inr (Or.inr (Or.inr (Or.inr (Or.inr (Or.inr (Or.inr (Or.inr (Or.inr (Or.inr (Or.inr (Or.inr (Or.inr (Or.inr (Or.inr (Or.inr (Or.inr (Or.inr (Or.inr (Or.inr (Or.inr (Or.inr (Or.inr (Or.inr (Or.inr (Or.inr h))))))))))))))))))))))))))))))))))))))))))))))))))))))))))))))))))))))))))))))))))))))))))))))))))))))) h))
  exact mm_fr.ret hf F
def fw_X1_wallsOf (r0 : Nat) (x1 : Int32) (q t i : Nat) : Prop := False
theorem fr_X1_wallsOf (r0 : Nat) (x1 : Int32) (σ : mm_M) (rv : Int32) (σ1 : mm_M) (hf : fx_X1_wallsOf r0 x1 σ = some (rv, σ1)) : σ1 = σ := by
  refine mm_fr.none (W := (fw_X1_wallsOf r0 x1)) (fun _ _ _ h => h) ?_
  rw [fx_X1_wallsOf] at hf
  have F : mm_fr (fw_X1_wallsOf r0 x1) σ σ := mm_fr.rf
  by_cases c_1 : x1 < (0 : Int32)
  · replace hf := mm_it c_1 hf
    exact mm_fr.ret hf F
  · replace hf := mm_if c_1 hf
    by_cases c_2 : (64 : Int32) ≤ x1
    · replace hf := mm_it c_2 hf
      exact mm_fr.ret hf F
    · replace hf := mm_if c_2 hf
      obtain ⟨h_3, hf⟩ := mm_gd_ok hf
      exact mm_fr.ret hf F
def fw_X1_lowestFlagOn (r0 : Nat) (x1 : Int32) (q t i : Nat) : Prop := False
theorem fr_X1_lowestFlagOn_L2 (r0 : Nat) (x1 : Int32) (rv : Int32) (σ1 : mm_M)  : ∀ (fu : Nat) (v2 : Int32) (σ : mm_M), fx_X1_lowestFlagOn_L2 r0 x1 fu v2 σ = some (rv, σ1) → mm_fr (fw_X1_lowestFlagOn r0 x1) σ σ1 := by
  intro fu
  induction fu with
  | zero =>
    intro v2 σ hf
    exact mm_no hf
  | succ fu ih =>
    intro v2 σ hf
    rw [fx_X1_lowestFlagOn_L2] at hf
    have F : mm_fr (fw_X1_lowestFlagOn r0 x1) σ σ := mm_fr.rf
    by_cases c_1 : (σ r0 1 0 3) ≤ v2
    · replace hf := mm_it c_1 hf
      exact mm_fr.ret hf F
    · replace hf := mm_if c_1 hf
      obtain ⟨h_2, hf⟩ := mm_gd_ok hf
      by_cases c_3 : (σ r0 4 0 v2.toNatClampNeg) = x1
      · replace hf := mm_it c_3 hf
        exact mm_fr.ret hf F
      · replace hf := mm_if c_3 hf
        obtain ⟨y_4, e_4, hf⟩ := mm_li_ok hf
        exact F.trans (ih y_4 σ hf)
theorem fr_X1_lowestFlagOn (r0 : Nat) (x1 : Int32) (σ : mm_M) (rv : Int32) (σ1 : mm_M) (hf : fx_X1_lowestFlagOn r0 x1 σ = some (rv, σ1)) : σ1 = σ := by
  refine mm_fr.none (W := (fw_X1_lowestFlagOn r0 x1)) (fun _ _ _ h => h) ?_
  rw [fx_X1_lowestFlagOn] at hf
  have F : mm_fr (fw_X1_lowestFlagOn r0 x1) σ σ := mm_fr.rf
  exact F.trans (fr_X1_lowestFlagOn_L2 r0 x1 rv σ1 mm_FU (0 : Int32) σ hf)
def fw_X8_cellValue (r0 : Nat) (x1 : Int32) (x2 : Int32) (q t i : Nat) : Prop := False
theorem fr_X8_cellValue (r0 : Nat) (x1 : Int32) (x2 : Int32) (σ : mm_M) (rv : Int32) (σ1 : mm_M) (hf : fx_X8_cellValue r0 x1 x2 σ = some (rv, σ1)) : σ1 = σ := by
  refine mm_fr.none (W := (fw_X8_cellValue r0 x1 x2)) (fun _ _ _ h => h) ?_
  rw [fx_X8_cellValue] at hf
  have F : mm_fr (fw_X8_cellValue r0 x1 x2) σ σ := mm_fr.rf
  by_cases c_1 : x2 = (0 : Int32)
  · replace hf := mm_it c_1 hf
    obtain ⟨r_2, s_2, e_2, hf⟩ := mm_bd_ok hf
    have F := F.trans (mm_fr.eq (fr_X1_kindOn r0 x1 σ r_2 s_2 e_2))
    exact mm_fr.ret hf F
  replace hf := mm_if c_1 hf
  by_cases c_3 : x2 = (1 : Int32)
  · replace hf := mm_it c_3 hf
    obtain ⟨r_4, s_4, e_4, hf⟩ := mm_bd_ok hf
    have F := F.trans (mm_fr.eq (fr_X1_wallsOf r0 x1 σ r_4 s_4 e_4))
    exact mm_fr.ret hf F
  replace hf := mm_if c_3 hf
  by_cases c_5 : x2 = (2 : Int32)
  · replace hf := mm_it c_5 hf
    obtain ⟨r_6, s_6, e_6, hf⟩ := mm_bd_ok hf
    have F := F.trans (mm_fr.eq (fr_X8_cartOn r0 x1 σ r_6 s_6 e_6))
    by_cases c_7 : r_6 = (-1 : Int32)
    · replace hf := mm_it c_7 hf
      exact mm_fr.ret hf F
    · replace hf := mm_if c_7 hf
      obtain ⟨r_8, s_8, e_8, hf⟩ := mm_bd_ok hf
      have F := F.trans (mm_fr.eq (fr_X8_cartOn r0 x1 s_6 r_8 s_8 e_8))
      exact mm_fr.ret hf F
  replace hf := mm_if c_5 hf
  obtain ⟨r_9, s_9, e_9, hf⟩ := mm_bd_ok hf
  have F := F.trans (mm_fr.eq (fr_X1_lowestFlagOn r0 x1 σ r_9 s_9 e_9))
  exact mm_fr.ret hf F
def fw_X10_cellOf (x1 : Int32) (x2 : Int32) (q t i : Nat) : Prop := False
theorem fr_X10_cellOf (x1 : Int32) (x2 : Int32) (σ : mm_M) (rv : Int32) (σ1 : mm_M) (hf : fx_X10_cellOf x1 x2 σ = some (rv, σ1)) : σ1 = σ := by
  refine mm_fr.none (W := (fw_X10_cellOf x1 x2)) (fun _ _ _ h => h) ?_
  rw [fx_X10_cellOf] at hf
  have F : mm_fr (fw_X10_cellOf x1 x2) σ σ := mm_fr.rf
  obtain ⟨r_1, s_1, e_1, hf⟩ := mm_bd_ok hf
  have F := F.trans (mm_fr.eq (fr_X10_isCell x1 σ r_1 s_1 e_1))
  by_cases c_2 : r_1 = (0 : Int32)
  · replace hf := mm_it c_2 hf
    exact mm_fr.ret hf F
  · replace hf := mm_if c_2 hf
    obtain ⟨r_3, s_3, e_3, hf⟩ := mm_bd_ok hf
    have F := F.trans (mm_fr.eq (fr_X10_isWithin x2 (0 : Int32) (3 : Int32) s_1 r_3 s_3 e_3))
    by_cases c_4 : r_3 = (0 : Int32)
    · replace hf := mm_it c_4 hf
      exact mm_fr.ret hf F
    · replace hf := mm_if c_4 hf
      obtain ⟨r_5, s_5, e_5, hf⟩ := mm_bd_ok hf
      have F := F.trans (mm_fr.eq (fr_X8_cellValue 0 x1 x2 s_3 r_5 s_5 e_5))
      exact mm_fr.ret hf F
def fw_X3_lockedSet (r0 : Nat) (n0 : Nat) (q t i : Nat) : Prop := False
theorem fr_X3_lockedSet_L7 (r0 : Nat) (n0 : Nat) (rv : Int32) (σ1 : mm_M)  : ∀ (fu : Nat) (v1 : Int32) (v2 : Int32) (σ : mm_M), fx_X3_lockedSet_L7 r0 n0 fu v1 v2 σ = some (rv, σ1) → mm_fr (fw_X3_lockedSet r0 n0) σ σ1 := by
  intro fu
  induction fu with
  | zero =>
    intro v1 v2 σ hf
    exact mm_no hf
  | succ fu ih =>
    intro v1 v2 σ hf
    rw [fx_X3_lockedSet_L7] at hf
    have F : mm_fr (fw_X3_lockedSet r0 n0) σ σ := mm_fr.rf
    by_cases c_2 : (5 : Int32) ≤ v2
    · replace hf := mm_it c_2 hf
      exact mm_fr.ret hf F
    · replace hf := mm_if c_2 hf
      obtain ⟨y_3, e_3, hf⟩ := mm_li_ok hf
      obtain ⟨y_4, e_4, hf⟩ := mm_li_ok hf
      exact F.trans (ih y_3 y_4 σ hf)
theorem fr_X3_lockedSet (r0 : Nat) (n0 : Nat) (σ : mm_M) (rv : Int32) (σ1 : mm_M) (hf : fx_X3_lockedSet r0 n0 σ = some (rv, σ1)) : σ1 = σ := by
  refine mm_fr.none (W := (fw_X3_lockedSet r0 n0)) (fun _ _ _ h => h) ?_
  rw [fx_X3_lockedSet] at hf
  have F : mm_fr (fw_X3_lockedSet r0 n0) σ σ := mm_fr.rf
  obtain ⟨r_1, s_1, e_1, hf⟩ := mm_bd_ok hf
  have F := F.trans (mm_fr.eq (fr_X3_unlockedRegisters r0 n0 σ r_1 s_1 e_1))
  exact F.trans (fr_X3_lockedSet_L7 r0 n0 rv σ1 mm_FU (0 : Int32) r_1 s_1 hf)
def fw_X3_value (r0 : Nat) (n0 : Nat) (x1 : Int32) (q t i : Nat) : Prop := False
theorem fr_X3_value (r0 : Nat) (n0 : Nat) (x1 : Int32) (σ : mm_M) (rv : Int32) (σ1 : mm_M) (hf : fx_X3_value r0 n0 x1 σ = some (rv, σ1)) : σ1 = σ := by
  refine mm_fr.none (W := (fw_X3_value r0 n0 x1)) (fun _ _ _ h => h) ?_
  rw [fx_X3_value] at hf
  have F : mm_fr (fw_X3_value r0 n0 x1) σ σ := mm_fr.rf
  by_cases c_1 : x1 = (0 : Int32)
  · replace hf := mm_it c_1 hf
    obtain ⟨r_2, s_2, e_2, hf⟩ := mm_bd_ok hf
    have F := F.trans (mm_fr.eq (fr_X3_isOut r0 n0 σ r_2 s_2 e_2))
    by_cases c_3 : r_2 = (0 : Int32)
    · replace hf := mm_it c_3 hf
      exact mm_fr.ret hf F
    · replace hf := mm_if c_3 hf
      exact mm_fr.ret hf F
  replace hf := mm_if c_1 hf
  by_cases c_4 : x1 = (1 : Int32)
  · replace hf := mm_it c_4 hf
    obtain ⟨r_5, s_5, e_5, hf⟩ := mm_bd_ok hf
    have F := F.trans (mm_fr.eq (fr_X3_isOut r0 n0 σ r_5 s_5 e_5))
    by_cases c_6 : r_5 = (0 : Int32)
    · replace hf := mm_it c_6 hf
      exact mm_fr.ret hf F
    · replace hf := mm_if c_6 hf
      exact mm_fr.ret hf F
  replace hf := mm_if c_4 hf
  by_cases c_7 : x1 = (2 : Int32)
  · replace hf := mm_it c_7 hf
    exact mm_fr.ret hf F
  replace hf := mm_if c_7 hf
  by_cases c_8 : x1 = (3 : Int32)
  · replace hf := mm_it c_8 hf
    exact mm_fr.ret hf F
  replace hf := mm_if c_8 hf
  by_cases c_9 : x1 = (4 : Int32)
  · replace hf := mm_it c_9 hf
    exact mm_fr.ret hf F
  replace hf := mm_if c_9 hf
  by_cases c_10 : x1 = (5 : Int32)
  · replace hf := mm_it c_10 hf
    obtain ⟨r_11, s_11, e_11, hf⟩ := mm_bd_ok hf
    have F := F.trans (mm_fr.eq (fr_X3_lockedSet r0 n0 σ r_11 s_11 e_11))
    exact mm_fr.ret hf F
  replace hf := mm_if c_10 hf
  by_cases c_12 : x1 = (6 : Int32)
  · replace hf := mm_it c_12 hf
    obtain ⟨r_13, s_13, e_13, hf⟩ := mm_bd_ok hf
    have F := F.trans (mm_fr.eq (fr_X3_cardSet r0 n0 σ r_13 s_13 e_13))
    exact mm_fr.ret hf F
  replace hf := mm_if c_12 hf
  by_cases c_14 : x1 = (7 : Int32)
  · replace hf := mm_it c_14 hf
    exact mm_fr.ret hf F
  replace hf := mm_if c_14 hf
  by_cases c_15 : x1 = (8 : Int32)
  · replace hf := mm_it c_15 hf
    exact mm_fr.ret hf F
  replace hf := mm_if c_15 hf
  exact mm_fr.ret hf F
def fw_X10_cartOf (x1 : Int32) (x2 : Int32) (q t i : Nat) : Prop := False
theorem fr_X10_cartOf (x1 : Int32) (x2 : Int32) (σ : mm_M) (rv : Int32) (σ1 : mm_M) (hf : fx_X10_cartOf x1 x2 σ = some (rv, σ1)) : σ1 = σ := by
  refine mm_fr.none (W := (fw_X10_cartOf x1 x2)) (fun _ _ _ h => h) ?_
  rw [fx_X10_cartOf] at hf
  have F : mm_fr (fw_X10_cartOf x1 x2) σ σ := mm_fr.rf
  obtain ⟨r_1, s_1, e_1, hf⟩ := mm_bd_ok hf
  have F := F.trans (mm_fr.eq (fr_X8_hasCart 0 x1 σ r_1 s_1 e_1))
  by_cases c_2 : r_1 = (0 : Int32)
  · replace hf := mm_it c_2 hf
    exact mm_fr.ret hf F
  · replace hf := mm_if c_2 hf
    obtain ⟨r_3, s_3, e_3, hf⟩ := mm_bd_ok hf
    have F := F.trans (mm_fr.eq (fr_X10_isWithin x2 (0 : Int32) (8 : Int32) s_1 r_3 s_3 e_3))
    by_cases c_4 : r_3 = (0 : Int32)
    · replace hf := mm_it c_4 hf
      exact mm_fr.ret hf F
    · replace hf := mm_if c_4 hf
      obtain ⟨h_5, hf⟩ := mm_gd_ok hf
      obtain ⟨r_6, s_6, e_6, hf⟩ := mm_bd_ok hf
      have F := F.trans (mm_fr.eq (fr_X3_value 0 x1.toNatClampNeg x2 s_3 r_6 s_6 e_6))
      exact mm_fr.ret hf F
def fw_X10_cardOf (x1 : Int32) (x2 : Int32) (x3 : Int32) (q t i : Nat) : Prop := False
theorem fr_X10_cardOf (x1 : Int32) (x2 : Int32) (x3 : Int32) (σ : mm_M) (rv : Int32) (σ1 : mm_M) (hf : fx_X10_cardOf x1 x2 x3 σ = some (rv, σ1)) : σ1 = σ := by
  refine mm_fr.none (W := (fw_X10_cardOf x1 x2 x3)) (fun _ _ _ h => h) ?_
  rw [fx_X10_cardOf] at hf
  have F : mm_fr (fw_X10_cardOf x1 x2 x3) σ σ := mm_fr.rf
  obtain ⟨r_1, s_1, e_1, hf⟩ := mm_bd_ok hf
  have F := F.trans (mm_fr.eq (fr_X8_hasCart 0 x1 σ r_1 s_1 e_1))
  by_cases c_2 : r_1 = (0 : Int32)
  · replace hf := mm_it c_2 hf
    exact mm_fr.ret hf F
  · replace hf := mm_if c_2 hf
    obtain ⟨r_3, s_3, e_3, hf⟩ := mm_bd_ok hf
    have F := F.trans (mm_fr.eq (fr_X10_isRegister x2 s_1 r_3 s_3 e_3))
    by_cases c_4 : r_3 = (0 : Int32)
    · replace hf := mm_it c_4 hf
      exact mm_fr.ret hf F
    · replace hf := mm_if c_4 hf
      obtain ⟨r_5, s_5, e_5, hf⟩ := mm_bd_ok hf
      have F := F.trans (mm_fr.eq (fr_X10_isWithin x3 (0 : Int32) (1 : Int32) s_3 r_5 s_5 e_5))
      by_cases c_6 : r_5 = (0 : Int32)
      · replace hf := mm_it c_6 hf
        exact mm_fr.ret hf F
      · replace hf := mm_if c_6 hf
        obtain ⟨h_7, hf⟩ := mm_gd_ok hf
        obtain ⟨r_8, s_8, e_8, hf⟩ := mm_bd_ok hf
        have F := F.trans (mm_fr.eq (fr_X3_hasCard 0 x1.toNatClampNeg x2 s_5 r_8 s_8 e_8))
        by_cases c_9 : r_8 = (0 : Int32)
        · replace hf := mm_it c_9 hf
          exact mm_fr.ret hf F
        · replace hf := mm_if c_9 hf
          by_cases c_10 : x3 = (0 : Int32)
          · replace hf := mm_it c_10 hf
            obtain ⟨h_12, hf⟩ := mm_gd_ok hf
            exact mm_fr.ret hf F
          · replace hf := mm_if c_10 hf
            obtain ⟨h_11, hf⟩ := mm_gd_ok hf
            exact mm_fr.ret hf F
def fw_X10_would (x1 : Int32) (x2 : Int32) (x3 : Int32) (q t i : Nat) : Prop := (q = 1 ∧ t = 0 ∧ i = 2) ∨ (q = 1 ∧ t = 0 ∧ i = 3) ∨ (q = 1 ∧ t = 0 ∧ i = 4) ∨ (q = 1 ∧ t = 0 ∧ i = 5) ∨ (q = 1 ∧ t = 0 ∧ i = 6) ∨ (q = 1 ∧ t = 0 ∧ i = 7) ∨ (q = 1 ∧ t = 1 ∧ i = 3) ∨ (q = 1 ∧ t = 2) ∨ (q = 1 ∧ t = 3) ∨ (q = 1 ∧ t = 4) ∨ (q = 1 ∧ t = 6 ∧ i = 2) ∨ (q = 1 ∧ t = 6 ∧ i = 3) ∨ (q = 1 ∧ t = 6 ∧ i = 4) ∨ (q = 1 ∧ t = 6 ∧ i = 5) ∨ (q = 1 ∧ t = 6 ∧ i = 6) ∨ (q = 1 ∧ t = 6 ∧ i = 7) ∨ (q = 1 ∧ t = 6 ∧ i = 8) ∨ (q = 1 ∧ t = 7) ∨ (q = 1 ∧ t = 8) ∨ (q = 7 ∧ t = 14) ∨ (q = 7 ∧ t = 15) ∨ (q = 7 ∧ t = 17) ∨ (q = 7 ∧ t = 18) ∨ (q = 7 ∧ t = 19)
theorem fr_X10_would_L42 (x1 : Int32) (x2 : Int32) (x3 : Int32) (rv : Int32) (σ1 : mm_M)  : ∀ (fu : Nat) (v5 : Int32) (σ : mm_M), fx_X10_would_L42 x1 x2 x3 fu v5 σ = some (rv, σ1) → mm_fr (fw_X10_would x1 x2 x3) σ σ1 := by
  intro fu
  induction fu with
  | zero =>
    intro v5 σ hf
    exact mm_no hf
  | succ fu ih =>
    intro v5 σ hf
    rw [fx_X10_would_L42] at hf
    have F : mm_fr (fw_X10_would x1 x2 x3) σ σ := mm_fr.rf
    by_cases c_8 : x2 ≤ v5
    · replace hf := mm_it c_8 hf
      obtain ⟨h_9, hf⟩ := mm_gd_ok hf
      obtain ⟨r_10, s_10, e_10, hf⟩ := mm_bd_ok hf
      have F := F.trans (mm_fr.eq (fr_X3_value 1 x1.toNatClampNeg x3 σ r_10 s_10 e_10))
      exact mm_fr.ret hf F
    · replace hf := mm_if c_8 hf
      obtain ⟨r_11, s_11, e_11, hf⟩ := mm_bd_ok hf
      have F := F.trans ((fr_X7_runNext 1 σ r_11 s_11 e_11).mono (fun q t i h => (fun h => h.elim (fun h => (Or.inr (Or.inr (Or.inr (Or.inr (Or.inr (Or.inr (Or.inr (Or.inr (Or.inr (Or.inr (Or.inr (Or.inr (Or.inr (Or.inr (Or.inr (Or.inr (Or.inr (Or.inr (Or.inr (Or.inl h))))))))))))))))))))) (fun h => h.elim (fun h => (Or.inr (Or.inr (Or.inr (Or.inr (Or.inr (Or.inr (Or.inr (Or.inr (Or.inr (Or.inr (Or.inr (Or.inr (Or.inr (Or.inr (Or.inr (Or.inr (Or.inr (Or.inr (Or.inr (Or.inr (Or.inl h)))))))))))))))))))))) (fun h => h.elim (fun h => (Or.inr (Or.inr (Or.inr (Or.inr (Or.inr (Or.inr (Or.inr (Or.inr (Or.inr (Or.inr (Or.inr (Or.inr (Or.inr (Or.inr (Or.inr (Or.inr (Or.inr (Or.inr (Or.inr (Or.inr (Or.inr (Or.inl h))))))))))))))))))))))) (fun h => h.elim (fun h => (Or.inr (Or.inr (Or.inr (Or.inr (Or.inr (Or.inr (Or.inr (Or.inr (Or.inr (Or.inr (Or.inr (Or.inr (Or.inr (Or.inr (Or.inr (Or.inr (Or.inr (Or.inr (Or.inr (Or.inr (Or.inr (Or.inr (Or.inl h)))))))))))))))))))))))) (fun h => h.elim (fun h => (Or.inr (Or.inr (Or.inr (Or.inr (Or.inr (Or.inr (Or.inr (Or.inr (Or.inr (Or.inr (Or.inr (Or.inr (Or.inr (Or.inr (Or.inr (Or.inr (Or.inr (Or.inr (Or.inr (Or.inr (Or.inr (Or.inr (Or.inr h)))))))))))))))))))))))) (fun h => h.elim (fun h => (Or.inr (Or.inl h))) (fun h => h.elim (fun h => (Or.inr (Or.inr (Or.inl h)))) (fun h => h.elim (fun h => (Or.inr (Or.inr (Or.inr (Or.inl h))))) (fun h => h.elim (fun h => (Or.inr (Or.inr (Or.inr (Or.inr (Or.inl h)))))) (fun h => h.elim (fun h => (Or.inr (Or.inr (Or.inr (Or.inr (Or.inr (Or.inl h))))))) (fun h => h.elim (fun h => (Or.inr (Or.inr (Or.inr (Or.inr (Or.inr (Or.inr (Or.inr (Or.inr (Or.inr (Or.inr (Or.inr (Or.inl h))))))))))))) (fun h => h.elim (fun h => (Or.inr (Or.inr (Or.inr (Or.inr (Or.inr (Or.inr (Or.inr (Or.inr (Or.inr (Or.inr (Or.inr (Or.inr (Or.inl h)))))))))))))) (fun h => h.elim (fun h => (Or.inr (Or.inr (Or.inr (Or.inr (Or.inr (Or.inr (Or.inr (Or.inr (Or.inr (Or.inr (Or.inr (Or.inr (Or.inr (Or.inl h))))))))))))))) (fun h => h.elim (fun h => (Or.inr (Or.inr (Or.inr (Or.inr (Or.inr (Or.inr (Or.inr (Or.inr (Or.inr (Or.inr (Or.inr (Or.inr (Or.inr (Or.inr (Or.inl h)))))))))))))))) (fun h => h.elim (fun h => (Or.inr (Or.inr (Or.inr (Or.inr (Or.inr (Or.inr (Or.inr (Or.inr (Or.inr (Or.inr (Or.inr (Or.inr (Or.inr (Or.inr (Or.inr (Or.inl h))))))))))))))))) (fun h => h.elim (fun h => (Or.inr (Or.inr (Or.inr (Or.inr (Or.inr (Or.inr (Or.inr (Or.inr (Or.inr (Or.inr (Or.inr (Or.inr (Or.inr (Or.inr (Or.inr (Or.inr (Or.inl h)))))))))))))))))) (fun h => (Or.inr (Or.inr (Or.inr (Or.inr (Or.inr (Or.inr (Or.inr (Or.inr (Or.inr (Or.inr (Or.inr (Or.inr (Or.inr (Or.inr (Or.inr (Or.inr (Or.inr (Or.inr (Or.inl h)))))))))))))))))))))))))))))))))))) h))
      obtain ⟨y_12, e_12, hf⟩ := mm_li_ok hf
      exact F.trans (ih y_12 s_11 hf)
theorem fr_X10_would (x1 : Int32) (x2 : Int32) (x3 : Int32) (σ : mm_M) (rv : Int32) (σ1 : mm_M) (hf : fx_X10_would x1 x2 x3 σ = some (rv, σ1)) : mm_fr (fw_X10_would x1 x2 x3) σ σ1 := by
  rw [fx_X10_would] at hf
  have F : mm_fr (fw_X10_would x1 x2 x3) σ σ := mm_fr.rf
  obtain ⟨r_1, s_1, e_1, hf⟩ := mm_bd_ok hf
  have F := F.trans (mm_fr.eq (fr_X8_hasCart 0 x1 σ r_1 s_1 e_1))
  by_cases c_2 : r_1 = (0 : Int32)
  · replace hf := mm_it c_2 hf
    exact mm_fr.ret hf F
  · replace hf := mm_if c_2 hf
    obtain ⟨r_3, s_3, e_3, hf⟩ := mm_bd_ok hf
    have F := F.trans (mm_fr.eq (fr_X10_isWithin x2 (0 : Int32) (20 : Int32) s_1 r_3 s_3 e_3))
    by_cases c_4 : r_3 = (0 : Int32)
    · replace hf := mm_it c_4 hf
      exact mm_fr.ret hf F
    · replace hf := mm_if c_4 hf
      obtain ⟨r_5, s_5, e_5, hf⟩ := mm_bd_ok hf
      have F := F.trans (mm_fr.eq (fr_X10_isWithin x3 (0 : Int32) (3 : Int32) s_3 r_5 s_5 e_5))
      by_cases c_6 : r_5 = (0 : Int32)
      · replace hf := mm_it c_6 hf
        exact mm_fr.ret hf F
      · replace hf := mm_if c_6 hf
        obtain ⟨r_7, s_7, e_7, hf⟩ := mm_bd_ok hf
        have F := F.trans ((fr_X10_freshTrial  s_5 r_7 s_7 e_7).mono (fun q t i h => (fun h => h.elim (fun h => (Or.inl h)) (fun h => h.elim (fun h => (Or.inr (Or.inl h))) (fun h => h.elim (fun h => (Or.inr (Or.inr (Or.inl h)))) (fun h => h.elim (fun h => (Or.inr (Or.inr (Or.inr (Or.inl h))))) (fun h => h.elim (fun h => (Or.inr (Or.inr (Or.inr (Or.inr (Or.inl h)))))) (fun h => h.elim (fun h => (Or.inr (Or.inr (Or.inr (Or.inr (Or.inr (Or.inl h))))))) (fun h => h.elim (fun h => (Or.inr (Or.inr (Or.inr (Or.inr (Or.inr (Or.inr (Or.inl h)))))))) (fun h => h.elim (fun h => (Or.inr (Or.inr (Or.inr (Or.inr (Or.inr (Or.inr (Or.inr (Or.inl h))))))))) (fun h => h.elim (fun h => (Or.inr (Or.inr (Or.inr (Or.inr (Or.inr (Or.inr (Or.inr (Or.inr (Or.inl h)))))))))) (fun h => h.elim (fun h => (Or.inr (Or.inr (Or.inr (Or.inr (Or.inr (Or.inr (Or.inr (Or.inr (Or.inr (Or.inl h))))))))))) (fun h => h.elim (fun h => (Or.inr (Or.inr (Or.inr (Or.inr (Or.inr (Or.inr (Or.inr (Or.inr (Or.inr (Or.inr (Or.inl h)))))))))))) (fun h => h.elim (fun h => (Or.inr (Or.inr (Or.inr (Or.inr (Or.inr (Or.inr (Or.inr (Or.inr (Or.inr (Or.inr (Or.inr (Or.inl h))))))))))))) (fun h => h.elim (fun h => (Or.inr (Or.inr (Or.inr (Or.inr (Or.inr (Or.inr (Or.inr (Or.inr (Or.inr (Or.inr (Or.inr (Or.inr (Or.inl h)))))))))))))) (fun h => h.elim (fun h => (Or.inr (Or.inr (Or.inr (Or.inr (Or.inr (Or.inr (Or.inr (Or.inr (Or.inr (Or.inr (Or.inr (Or.inr (Or.inr (Or.inl h))))))))))))))) (fun h => h.elim (fun h => (Or.inr (Or.inr (Or.inr (Or.inr (Or.inr (Or.inr (Or.inr (Or.inr (Or.inr (Or.inr (Or.inr (Or.inr (Or.inr (Or.inr (Or.inl h)))))))))))))))) (fun h => h.elim (fun h => (Or.inr (Or.inr (Or.inr (Or.inr (Or.inr (Or.inr (Or.inr (Or.inr (Or.inr (Or.inr (Or.inr (Or.inr (Or.inr (Or.inr (Or.inr (Or.inl h))))))))))))))))) (fun h => h.elim (fun h => (Or.inr (Or.inr (Or.inr (Or.inr (Or.inr (Or.inr (Or.inr (Or.inr (Or.inr (Or.inr (Or.inr (Or.inr (Or.inr (Or.inr (Or.inr (Or.inr (Or.inl h)))))))))))))))))) (fun h => h.elim (fun h => (Or.inr (Or.inr (Or.inr (Or.inr (Or.inr (Or.inr (Or.inr (Or.inr (Or.inr (Or.inr (Or.inr (Or.inr (Or.inr (Or.inr (Or.inr (Or.inr (Or.inr (Or.inl h))))))))))))))))))) (fun h => (Or.inr (Or.inr (Or.inr (Or.inr (Or.inr (Or.inr (Or.inr (Or.inr (Or.inr (Or.inr (Or.inr (Or.inr (Or.inr (Or.inr (Or.inr (Or.inr (Or.inr (Or.inr (Or.inl h)))))))))))))))))))))))))))))))))))))) h))
        exact F.trans (fr_X10_would_L42 x1 x2 x3 rv σ1 mm_FU (0 : Int32) s_7 hf)
def fw_J9_abs_0f7a4 (x0 : Int32) (q t i : Nat) : Prop := False
theorem fr_J9_abs_0f7a4 (x0 : Int32) (σ : mm_M) (rv : Int32) (σ1 : mm_M) (hf : fx_J9_abs_0f7a4 x0 σ = some (rv, σ1)) : σ1 = σ := by
  refine mm_fr.none (W := (fw_J9_abs_0f7a4 x0)) (fun _ _ _ h => h) ?_
  rw [fx_J9_abs_0f7a4] at hf
  have F : mm_fr (fw_J9_abs_0f7a4 x0) σ σ := mm_fr.rf
  by_cases c_1 : (0 : Int32) ≤ x0
  · replace hf := mm_it c_1 hf
    exact mm_fr.ret hf F
  · replace hf := mm_if c_1 hf
    exact mm_fr.ret hf F
def fw_X1_distance (x0 : Int32) (x1 : Int32) (q t i : Nat) : Prop := False
theorem fr_X1_distance (x0 : Int32) (x1 : Int32) (σ : mm_M) (rv : Int32) (σ1 : mm_M) (hf : fx_X1_distance x0 x1 σ = some (rv, σ1)) : σ1 = σ := by
  refine mm_fr.none (W := (fw_X1_distance x0 x1)) (fun _ _ _ h => h) ?_
  rw [fx_X1_distance] at hf
  have F : mm_fr (fw_X1_distance x0 x1) σ σ := mm_fr.rf
  obtain ⟨r_1, s_1, e_1, hf⟩ := mm_bd_ok hf
  have F := F.trans (mm_fr.eq (fr_J9_abs_0f7a4 ((x0 - x0 / (8 : Int32) * (8 : Int32)) - (x1 - x1 / (8 : Int32) * (8 : Int32))) σ r_1 s_1 e_1))
  obtain ⟨r_2, s_2, e_2, hf⟩ := mm_bd_ok hf
  have F := F.trans (mm_fr.eq (fr_J9_abs_0f7a4 ((x0 / (8 : Int32)) - (x1 / (8 : Int32))) s_1 r_2 s_2 e_2))
  exact mm_fr.ret hf F
def fw_X10_distanceBehind (x1 : Int32) (x2 : Int32) (x3 : Int32) (x4 : Int32) (q t i : Nat) : Prop := (q = 1 ∧ t = 0 ∧ i = 2) ∨ (q = 1 ∧ t = 0 ∧ i = 3) ∨ (q = 1 ∧ t = 0 ∧ i = 4) ∨ (q = 1 ∧ t = 0 ∧ i = 5) ∨ (q = 1 ∧ t = 0 ∧ i = 6) ∨ (q = 1 ∧ t = 0 ∧ i = 7) ∨ (q = 1 ∧ t = 1 ∧ i = 3) ∨ (q = 1 ∧ t = 2) ∨ (q = 1 ∧ t = 3) ∨ (q = 1 ∧ t = 4) ∨ (q = 1 ∧ t = 6 ∧ i = 2) ∨ (q = 1 ∧ t = 6 ∧ i = 3) ∨ (q = 1 ∧ t = 6 ∧ i = 4) ∨ (q = 1 ∧ t = 6 ∧ i = 5) ∨ (q = 1 ∧ t = 6 ∧ i = 6) ∨ (q = 1 ∧ t = 6 ∧ i = 7) ∨ (q = 1 ∧ t = 6 ∧ i = 8) ∨ (q = 1 ∧ t = 7) ∨ (q = 1 ∧ t = 8) ∨ (q = 7 ∧ t = 14) ∨ (q = 7 ∧ t = 15) ∨ (q = 7 ∧ t = 17) ∨ (q = 7 ∧ t = 18) ∨ (q = 7 ∧ t = 19)
theorem fr_X10_distanceBehind (x1 : Int32) (x2 : Int32) (x3 : Int32) (x4 : Int32) (σ : mm_M) (rv : Int32) (σ1 : mm_M) (hf : fx_X10_distanceBehind x1 x2 x3 x4 σ = some (rv, σ1)) : mm_fr (fw_X10_distanceBehind x1 x2 x3 x4) σ σ1 := by
  rw [fx_X10_distanceBehind] at hf
  have F : mm_fr (fw_X10_distanceBehind x1 x2 x3 x4) σ σ := mm_fr.rf
  obtain ⟨r_1, s_1, e_1, hf⟩ := mm_bd_ok hf
  have F := F.trans ((fr_X10_freshTrial  σ r_1 s_1 e_1).mono (fun q t i h => (fun h => h.elim (fun h => (Or.inl h)) (fun h => h.elim (fun h => (Or.inr (Or.inl h))) (fun h => h.elim (fun h => (Or.inr (Or.inr (Or.inl h)))) (fun h => h.elim (fun h => (Or.inr (Or.inr (Or.inr (Or.inl h))))) (fun h => h.elim (fun h => (Or.inr (Or.inr (Or.inr (Or.inr (Or.inl h)))))) (fun h => h.elim (fun h => (Or.inr (Or.inr (Or.inr (Or.inr (Or.inr (Or.inl h))))))) (fun h => h.elim (fun h => (Or.inr (Or.inr (Or.inr (Or.inr (Or.inr (Or.inr (Or.inl h)))))))) (fun h => h.elim (fun h => (Or.inr (Or.inr (Or.inr (Or.inr (Or.inr (Or.inr (Or.inr (Or.inl h))))))))) (fun h => h.elim (fun h => (Or.inr (Or.inr (Or.inr (Or.inr (Or.inr (Or.inr (Or.inr (Or.inr (Or.inl h)))))))))) (fun h => h.elim (fun h => (Or.inr (Or.inr (Or.inr (Or.inr (Or.inr (Or.inr (Or.inr (Or.inr (Or.inr (Or.inl h))))))))))) (fun h => h.elim (fun h => (Or.inr (Or.inr (Or.inr (Or.inr (Or.inr (Or.inr (Or.inr (Or.inr (Or.inr (Or.inr (Or.inl h)))))))))))) (fun h => h.elim (fun h => (Or.inr (Or.inr (Or.inr (Or.inr (Or.inr (Or.inr (Or.inr (Or.inr (Or.inr (Or.inr (Or.inr (Or.inl h))))))))))))) (fun h => h.elim (fun h => (Or.inr (Or.inr (Or.inr (Or.inr (Or.inr (Or.inr (Or.inr (Or.inr (Or.inr (Or.inr (Or.inr (Or.inr (Or.inl h)))))))))))))) (fun h => h.elim (fun h => (Or.inr (Or.inr (Or.inr (Or.inr (Or.inr (Or.inr (Or.inr (Or.inr (Or.inr (Or.inr (Or.inr (Or.inr (Or.inr (Or.inl h))))))))))))))) (fun h => h.elim (fun h => (Or.inr (Or.inr (Or.inr (Or.inr (Or.inr (Or.inr (Or.inr (Or.inr (Or.inr (Or.inr (Or.inr (Or.inr (Or.inr (Or.inr (Or.inl h)))))))))))))))) (fun h => h.elim (fun h => (Or.inr (Or.inr (Or.inr (Or.inr (Or.inr (Or.inr (Or.inr (Or.inr (Or.inr (Or.inr (Or.inr (Or.inr (Or.inr (Or.inr (Or.inr (Or.inl h))))))))))))))))) (fun h => h.elim (fun h => (Or.inr (Or.inr (Or.inr (Or.inr (Or.inr (Or.inr (Or.inr (Or.inr (Or.inr (Or.inr (Or.inr (Or.inr (Or.inr (Or.inr (Or.inr (Or.inr (Or.inl h)))))))))))))))))) (fun h => h.elim (fun h => (Or.inr (Or.inr (Or.inr (Or.inr (Or.inr (Or.inr (Or.inr (Or.inr (Or.inr (Or.inr (Or.inr (Or.inr (Or.inr (Or.inr (Or.inr (Or.inr (Or.inr (Or.inl h))))))))))))))))))) (fun h => (Or.inr (Or.inr (Or.inr (Or.inr (Or.inr (Or.inr (Or.inr (Or.inr (Or.inr (Or.inr (Or.inr (Or.inr (Or.inr (Or.inr (Or.inr (Or.inr (Or.inr (Or.inr (Or.inl h)))))))))))))))))))))))))))))))))))))) h))
  obtain ⟨h_2, hf⟩ := mm_gd_ok hf
  obtain ⟨r_3, s_3, e_3, hf⟩ := mm_bd_ok hf
  have F := F.trans ((fr_X3_lay 1 x1.toNatClampNeg (s_1 1 0 0 3) x2 x3 s_1 r_3 s_3 e_3).mono (fun q t i h => (fun h => h.elim (fun h => (Or.inr (Or.inr (Or.inr (Or.inr (Or.inr (Or.inr (Or.inr (Or.inr (Or.inr (Or.inr (Or.inr (Or.inr (Or.inr (Or.inr (Or.inr (Or.inr (Or.inr (Or.inl h))))))))))))))))))) (fun h => (Or.inr (Or.inr (Or.inr (Or.inr (Or.inr (Or.inr (Or.inr (Or.inr (Or.inr (Or.inr (Or.inr (Or.inr (Or.inr (Or.inr (Or.inr (Or.inr (Or.inr (Or.inr (Or.inl h))))))))))))))))))))) h))
  obtain ⟨y_4, e_4, hf⟩ := mm_li_ok hf
  obtain ⟨r_5, s_5, e_5, hf⟩ := mm_bd_ok hf
  have F := F.trans ((fr_X7_runNext 1 s_3 r_5 s_5 e_5).mono (fun q t i h => (fun h => h.elim (fun h => (Or.inr (Or.inr (Or.inr (Or.inr (Or.inr (Or.inr (Or.inr (Or.inr (Or.inr (Or.inr (Or.inr (Or.inr (Or.inr (Or.inr (Or.inr (Or.inr (Or.inr (Or.inr (Or.inr (Or.inl h))))))))))))))))))))) (fun h => h.elim (fun h => (Or.inr (Or.inr (Or.inr (Or.inr (Or.inr (Or.inr (Or.inr (Or.inr (Or.inr (Or.inr (Or.inr (Or.inr (Or.inr (Or.inr (Or.inr (Or.inr (Or.inr (Or.inr (Or.inr (Or.inr (Or.inl h)))))))))))))))))))))) (fun h => h.elim (fun h => (Or.inr (Or.inr (Or.inr (Or.inr (Or.inr (Or.inr (Or.inr (Or.inr (Or.inr (Or.inr (Or.inr (Or.inr (Or.inr (Or.inr (Or.inr (Or.inr (Or.inr (Or.inr (Or.inr (Or.inr (Or.inr (Or.inl h))))))))))))))))))))))) (fun h => h.elim (fun h => (Or.inr (Or.inr (Or.inr (Or.inr (Or.inr (Or.inr (Or.inr (Or.inr (Or.inr (Or.inr (Or.inr (Or.inr (Or.inr (Or.inr (Or.inr (Or.inr (Or.inr (Or.inr (Or.inr (Or.inr (Or.inr (Or.inr (Or.inl h)))))))))))))))))))))))) (fun h => h.elim (fun h => (Or.inr (Or.inr (Or.inr (Or.inr (Or.inr (Or.inr (Or.inr (Or.inr (Or.inr (Or.inr (Or.inr (Or.inr (Or.inr (Or.inr (Or.inr (Or.inr (Or.inr (Or.inr (Or.inr (Or.inr (Or.inr (Or.inr (Or.inr h)))))))))))))))))))))))) (fun h => h.elim (fun h => (Or.inr (Or.inl h))) (fun h => h.elim (fun h => (Or.inr (Or.inr (Or.inl h)))) (fun h => h.elim (fun h => (Or.inr (Or.inr (Or.inr (Or.inl h))))) (fun h => h.elim (fun h => (Or.inr (Or.inr (Or.inr (Or.inr (Or.inl h)))))) (fun h => h.elim (fun h => (Or.inr (Or.inr (Or.inr (Or.inr (Or.inr (Or.inl h))))))) (fun h => h.elim (fun h => (Or.inr (Or.inr (Or.inr (Or.inr (Or.inr (Or.inr (Or.inr (Or.inr (Or.inr (Or.inr (Or.inr (Or.inl h))))))))))))) (fun h => h.elim (fun h => (Or.inr (Or.inr (Or.inr (Or.inr (Or.inr (Or.inr (Or.inr (Or.inr (Or.inr (Or.inr (Or.inr (Or.inr (Or.inl h)))))))))))))) (fun h => h.elim (fun h => (Or.inr (Or.inr (Or.inr (Or.inr (Or.inr (Or.inr (Or.inr (Or.inr (Or.inr (Or.inr (Or.inr (Or.inr (Or.inr (Or.inl h))))))))))))))) (fun h => h.elim (fun h => (Or.inr (Or.inr (Or.inr (Or.inr (Or.inr (Or.inr (Or.inr (Or.inr (Or.inr (Or.inr (Or.inr (Or.inr (Or.inr (Or.inr (Or.inl h)))))))))))))))) (fun h => h.elim (fun h => (Or.inr (Or.inr (Or.inr (Or.inr (Or.inr (Or.inr (Or.inr (Or.inr (Or.inr (Or.inr (Or.inr (Or.inr (Or.inr (Or.inr (Or.inr (Or.inl h))))))))))))))))) (fun h => h.elim (fun h => (Or.inr (Or.inr (Or.inr (Or.inr (Or.inr (Or.inr (Or.inr (Or.inr (Or.inr (Or.inr (Or.inr (Or.inr (Or.inr (Or.inr (Or.inr (Or.inr (Or.inl h)))))))))))))))))) (fun h => (Or.inr (Or.inr (Or.inr (Or.inr (Or.inr (Or.inr (Or.inr (Or.inr (Or.inr (Or.inr (Or.inr (Or.inr (Or.inr (Or.inr (Or.inr (Or.inr (Or.inr (Or.inr (Or.inl h)))))))))))))))))))))))))))))))))))) h))
  by_cases c_6 : (s_5 1 6 x1.toNatClampNeg 7) = y_4
  · replace hf := mm_it c_6 hf
    obtain ⟨r_7, s_7, e_7, hf⟩ := mm_bd_ok hf
    have F := F.trans (mm_fr.eq (fr_X3_isOut 1 x1.toNatClampNeg s_5 r_7 s_7 e_7))
    by_cases c_8 : r_7 = (0 : Int32)
    · replace hf := mm_it c_8 hf
      obtain ⟨r_9, s_9, e_9, hf⟩ := mm_bd_ok hf
      have F := F.trans (mm_fr.eq (fr_X1_distance (s_7 1 6 x1.toNatClampNeg 3) x4 s_7 r_9 s_9 e_9))
      exact mm_fr.ret hf F
    · replace hf := mm_if c_8 hf
      exact mm_fr.ret hf F
  · replace hf := mm_if c_6 hf
    exact mm_fr.ret hf F
def fw_X10_best (x1 : Int32) (x2 : Int32) (x3 : Int32) (q t i : Nat) : Prop := (q = 1 ∧ t = 0 ∧ i = 2) ∨ (q = 1 ∧ t = 0 ∧ i = 3) ∨ (q = 1 ∧ t = 0 ∧ i = 4) ∨ (q = 1 ∧ t = 0 ∧ i = 5) ∨ (q = 1 ∧ t = 0 ∧ i = 6) ∨ (q = 1 ∧ t = 0 ∧ i = 7) ∨ (q = 1 ∧ t = 1 ∧ i = 3) ∨ (q = 1 ∧ t = 2) ∨ (q = 1 ∧ t = 3) ∨ (q = 1 ∧ t = 4) ∨ (q = 1 ∧ t = 6 ∧ i = 2) ∨ (q = 1 ∧ t = 6 ∧ i = 3) ∨ (q = 1 ∧ t = 6 ∧ i = 4) ∨ (q = 1 ∧ t = 6 ∧ i = 5) ∨ (q = 1 ∧ t = 6 ∧ i = 6) ∨ (q = 1 ∧ t = 6 ∧ i = 7) ∨ (q = 1 ∧ t = 6 ∧ i = 8) ∨ (q = 1 ∧ t = 7) ∨ (q = 1 ∧ t = 8) ∨ (q = 7 ∧ t = 14) ∨ (q = 7 ∧ t = 15) ∨ (q = 7 ∧ t = 17) ∨ (q = 7 ∧ t = 18) ∨ (q = 7 ∧ t = 19)
theorem fr_X10_best_J154 (x1 : Int32) (x2 : Int32) (x3 : Int32) (rv : Int32) (σ1 : mm_M) (k116 : Int32 → Int32 → Int32 → Int32 → mm_M → mm_R) (hk116 : ∀ (v5 : Int32) (v6 : Int32) (v7 : Int32) (v8 : Int32) (σ : mm_M), k116 v5 v6 v7 v8 σ = some (rv, σ1) → mm_fr (fw_X10_best x1 x2 x3) σ σ1) : ∀ (v5 : Int32) (v8 : Int32) (v9 : Int32) (σ : mm_M), fx_X10_best_J154 x1 x2 x3 k116 v5 v8 v9 σ = some (rv, σ1) → mm_fr (fw_X10_best x1 x2 x3) σ σ1 := by
  intro v5 v8 v9 σ hf
  rw [fx_X10_best_J154] at hf
  have F : mm_fr (fw_X10_best x1 x2 x3) σ σ := mm_fr.rf
  obtain ⟨y_24, e_24, hf⟩ := mm_li_ok hf
  exact F.trans (hk116 v5 v8 v9 y_24 σ hf)
theorem fr_X10_best_L116 (x1 : Int32) (x2 : Int32) (x3 : Int32) (rv : Int32) (σ1 : mm_M)  : ∀ (fu : Nat) (v5 : Int32) (v6 : Int32) (v7 : Int32) (v8 : Int32) (σ : mm_M), fx_X10_best_L116 x1 x2 x3 fu v5 v6 v7 v8 σ = some (rv, σ1) → mm_fr (fw_X10_best x1 x2 x3) σ σ1 := by
  intro fu
  induction fu with
  | zero =>
    intro v5 v6 v7 v8 σ hf
    exact mm_no hf
  | succ fu ih =>
    intro v5 v6 v7 v8 σ hf
    rw [fx_X10_best_L116] at hf
    have F : mm_fr (fw_X10_best x1 x2 x3) σ σ := mm_fr.rf
    by_cases c_15 : (6 : Int32) < v8
    · replace hf := mm_it c_15 hf
      by_cases c_16 : v6 = (-1 : Int32)
      · replace hf := mm_it c_16 hf
        exact mm_fr.ret hf F
      · replace hf := mm_if c_16 hf
        by_cases c_17 : x3 = (0 : Int32)
        · replace hf := mm_it c_17 hf
          exact mm_fr.ret hf F
        · replace hf := mm_if c_17 hf
          exact mm_fr.ret hf F
    · replace hf := mm_if c_15 hf
      obtain ⟨r_18, s_18, e_18, hf⟩ := mm_bd_ok hf
      have F := F.trans ((fr_X10_distanceBehind x1 v8 x2 v5 σ r_18 s_18 e_18).mono (fun q t i h => (fun h => h.elim (fun h => (Or.inl h)) (fun h => h.elim (fun h => (Or.inr (Or.inl h))) (fun h => h.elim (fun h => (Or.inr (Or.inr (Or.inl h)))) (fun h => h.elim (fun h => (Or.inr (Or.inr (Or.inr (Or.inl h))))) (fun h => h.elim (fun h => (Or.inr (Or.inr (Or.inr (Or.inr (Or.inl h)))))) (fun h => h.elim (fun h => (Or.inr (Or.inr (Or.inr (Or.inr (Or.inr (Or.inl h))))))) (fun h => h.elim (fun h => (Or.inr (Or.inr (Or.inr (Or.inr (Or.inr (Or.inr (Or.inl h)))))))) (fun h => h.elim (fun h => (Or.inr (Or.inr (Or.inr (Or.inr (Or.inr (Or.inr (Or.inr (Or.inl h))))))))) (fun h => h.elim (fun h => (Or.inr (Or.inr (Or.inr (Or.inr (Or.inr (Or.inr (Or.inr (Or.inr (Or.inl h)))))))))) (fun h => h.elim (fun h => (Or.inr (Or.inr (Or.inr (Or.inr (Or.inr (Or.inr (Or.inr (Or.inr (Or.inr (Or.inl h))))))))))) (fun h => h.elim (fun h => (Or.inr (Or.inr (Or.inr (Or.inr (Or.inr (Or.inr (Or.inr (Or.inr (Or.inr (Or.inr (Or.inl h)))))))))))) (fun h => h.elim (fun h => (Or.inr (Or.inr (Or.inr (Or.inr (Or.inr (Or.inr (Or.inr (Or.inr (Or.inr (Or.inr (Or.inr (Or.inl h))))))))))))) (fun h => h.elim (fun h => (Or.inr (Or.inr (Or.inr (Or.inr (Or.inr (Or.inr (Or.inr (Or.inr (Or.inr (Or.inr (Or.inr (Or.inr (Or.inl h)))))))))))))) (fun h => h.elim (fun h => (Or.inr (Or.inr (Or.inr (Or.inr (Or.inr (Or.inr (Or.inr (Or.inr (Or.inr (Or.inr (Or.inr (Or.inr (Or.inr (Or.inl h))))))))))))))) (fun h => h.elim (fun h => (Or.inr (Or.inr (Or.inr (Or.inr (Or.inr (Or.inr (Or.inr (Or.inr (Or.inr (Or.inr (Or.inr (Or.inr (Or.inr (Or.inr (Or.inl h)))))))))))))))) (fun h => h.elim (fun h => (Or.inr (Or.inr (Or.inr (Or.inr (Or.inr (Or.inr (Or.inr (Or.inr (Or.inr (Or.inr (Or.inr (Or.inr (Or.inr (Or.inr (Or.inr (Or.inl h))))))))))))))))) (fun h => h.elim (fun h => (Or.inr (Or.inr (Or.inr (Or.inr (Or.inr (Or.inr (Or.inr (Or.inr (Or.inr (Or.inr (Or.inr (Or.inr (Or.inr (Or.inr (Or.inr (Or.inr (Or.inl h)))))))))))))))))) (fun h => h.elim (fun h => (Or.inr (Or.inr (Or.inr (Or.inr (Or.inr (Or.inr (Or.inr (Or.inr (Or.inr (Or.inr (Or.inr (Or.inr (Or.inr (Or.inr (Or.inr (Or.inr (Or.inr (Or.inl h))))))))))))))))))) (fun h => h.elim (fun h => (Or.inr (Or.inr (Or.inr (Or.inr (Or.inr (Or.inr (Or.inr (Or.inr (Or.inr (Or.inr (Or.inr (Or.inr (Or.inr (Or.inr (Or.inr (Or.inr (Or.inr (Or.inr (Or.inl h)))))))))))))))))))) (fun h => h.elim (fun h => (Or.inr (Or.inr (Or.inr (Or.inr (Or.inr (Or.inr (Or.inr (Or.inr (Or.inr (Or.inr (Or.inr (Or.inr (Or.inr (Or.inr (Or.inr (Or.inr (Or.inr (Or.inr (Or.inr (Or.inl h))))))))))))))))))))) (fun h => h.elim (fun h => (Or.inr (Or.inr (Or.inr (Or.inr (Or.inr (Or.inr (Or.inr (Or.inr (Or.inr (Or.inr (Or.inr (Or.inr (Or.inr (Or.inr (Or.inr (Or.inr (Or.inr (Or.inr (Or.inr (Or.inr (Or.inl h)))))))))))))))))))))) (fun h => h.elim (fun h => (Or.inr (Or.inr (Or.inr (Or.inr (Or.inr (Or.inr (Or.inr (Or.inr (Or.inr (Or.inr (Or.inr (Or.inr (Or.inr (Or.inr (Or.inr (Or.inr (Or.inr (Or.inr (Or.inr (Or.inr (Or.inr (Or.inl h))))))))))))))))))))))) (fun h => h.elim (fun h => (Or.inr (Or.inr (Or.inr (Or.inr (Or.inr (Or.inr (Or.inr (Or.inr (Or.inr (Or.inr (Or.inr (Or.inr (Or.inr (Or.inr (Or.inr (Or.inr (Or.inr (Or.inr (Or.inr (Or.inr (Or.inr (Or.inr (Or.inl h)))))))))))))))))))))))) (fun h => (Or.inr (Or.inr (Or.inr (Or.inr (Or.inr (Or.inr (Or.inr (Or.inr (Or.inr (Or.inr (Or.inr (Or.inr (Or.inr (Or.inr (Or.inr (Or.inr (Or.inr (Or.inr (Or.inr (Or.inr (Or.inr (Or.inr (Or.inr h))))))))))))))))))))))))))))))))))))))))))))))) h))
      by_cases c_19 : r_18 = (-1 : Int32)
      · replace hf := mm_it c_19 hf
        obtain ⟨y_20, e_20, hf⟩ := mm_li_ok hf
        exact F.trans (ih v5 v6 v7 y_20 s_18 hf)
      · replace hf := mm_if c_19 hf
        by_cases c_21 : v7 = (-1 : Int32)
        · replace hf := mm_it c_21 hf
          exact F.trans (fr_X10_best_J154 x1 x2 x3 rv σ1 (fun z0 z1 z2 z3 z => fx_X10_best_L116 x1 x2 x3 fu z0 z1 z2 z3 z) ih v5 v8 r_18 s_18 hf)
        · replace hf := mm_if c_21 hf
          by_cases c_22 : v7 ≤ r_18
          · replace hf := mm_it c_22 hf
            obtain ⟨y_23, e_23, hf⟩ := mm_li_ok hf
            exact F.trans (ih v5 v6 v7 y_23 s_18 hf)
          · replace hf := mm_if c_22 hf
            exact F.trans (fr_X10_best_J154 x1 x2 x3 rv σ1 (fun z0 z1 z2 z3 z => fx_X10_best_L116 x1 x2 x3 fu z0 z1 z2 z3 z) ih v5 v8 r_18 s_18 hf)
theorem fr_X10_best (x1 : Int32) (x2 : Int32) (x3 : Int32) (σ : mm_M) (rv : Int32) (σ1 : mm_M) (hf : fx_X10_best x1 x2 x3 σ = some (rv, σ1)) : mm_fr (fw_X10_best x1 x2 x3) σ σ1 := by
  rw [fx_X10_best] at hf
  have F : mm_fr (fw_X10_best x1 x2 x3) σ σ := mm_fr.rf
  obtain ⟨r_1, s_1, e_1, hf⟩ := mm_bd_ok hf
  have F := F.trans (mm_fr.eq (fr_X8_hasCart 0 x1 σ r_1 s_1 e_1))
  by_cases c_2 : r_1 = (0 : Int32)
  · replace hf := mm_it c_2 hf
    exact mm_fr.ret hf F
  · replace hf := mm_if c_2 hf
    obtain ⟨r_3, s_3, e_3, hf⟩ := mm_bd_ok hf
    have F := F.trans (mm_fr.eq (fr_X10_isWithin x2 (1 : Int32) (999 : Int32) s_1 r_3 s_3 e_3))
    by_cases c_4 : r_3 = (0 : Int32)
    · replace hf := mm_it c_4 hf
      exact mm_fr.ret hf F
    · replace hf := mm_if c_4 hf
      obtain ⟨r_5, s_5, e_5, hf⟩ := mm_bd_ok hf
      have F := F.trans (mm_fr.eq (fr_X10_isWithin x3 (0 : Int32) (1 : Int32) s_3 r_5 s_5 e_5))
      by_cases c_6 : r_5 = (0 : Int32)
      · replace hf := mm_it c_6 hf
        exact mm_fr.ret hf F
      · replace hf := mm_if c_6 hf
        obtain ⟨h_7, hf⟩ := mm_gd_ok hf
        obtain ⟨r_8, s_8, e_8, hf⟩ := mm_bd_ok hf
        have F := F.trans (mm_fr.eq (fr_X3_isOut 0 x1.toNatClampNeg s_5 r_8 s_8 e_8))
        by_cases c_9 : r_8 = (0 : Int32)
        · replace hf := mm_it c_9 hf
          obtain ⟨r_10, s_10, e_10, hf⟩ := mm_bd_ok hf
          have F := F.trans (mm_fr.eq (fr_X3_isLocked 0 x1.toNatClampNeg (s_8 0 0 0 3) s_8 r_10 s_10 e_10))
          by_cases c_11 : r_10 = (0 : Int32)
          · replace hf := mm_it c_11 hf
            by_cases c_12 : (s_10 0 6 x1.toNatClampNeg 6) < (s_10 0 1 0 3)
            · replace hf := mm_it c_12 hf
              obtain ⟨h_13, hf⟩ := mm_gd_ok hf
              obtain ⟨y_14, e_14, hf⟩ := mm_li_ok hf
              exact F.trans (fr_X10_best_L116 x1 x2 x3 rv σ1 mm_FU y_14 (-1 : Int32) (-1 : Int32) (0 : Int32) s_10 hf)
            · replace hf := mm_if c_12 hf
              exact mm_fr.ret hf F
          · replace hf := mm_if c_11 hf
            exact mm_fr.ret hf F
        · replace hf := mm_if c_9 hf
          exact mm_fr.ret hf F
def fw_J7_fill_53178_k21 (x1 : Int32) (q t i : Nat) : Prop := (q = 7 ∧ t = 21)
theorem fr_J7_fill_53178_k21_L5 (x1 : Int32) (rv : Int32) (σ1 : mm_M)  : ∀ (fu : Nat) (v2 : Int32) (v3 : Int32) (σ : mm_M), fx_J7_fill_53178_k21_L5 x1 fu v2 v3 σ = some (rv, σ1) → mm_fr (fw_J7_fill_53178_k21 x1) σ σ1 := by
  intro fu
  induction fu with
  | zero =>
    intro v2 v3 σ hf
    exact mm_no hf
  | succ fu ih =>
    intro v2 v3 σ hf
    rw [fx_J7_fill_53178_k21_L5] at hf
    have F : mm_fr (fw_J7_fill_53178_k21 x1) σ σ := mm_fr.rf
    by_cases c_1 : v3 ≤ v2
    · replace hf := mm_it c_1 hf
      exact mm_fr.ret hf F
    · replace hf := mm_if c_1 hf
      obtain ⟨h_2, hf⟩ := mm_gd_ok hf
      obtain ⟨s_3, e_3, hf⟩ := mm_lt_ok hf
      have F := F.trans (mm_fr.a e_3 (fun _ => ⟨rfl, rfl⟩))
      obtain ⟨y_4, e_4, hf⟩ := mm_li_ok hf
      exact F.trans (ih y_4 v3 s_3 hf)
theorem fr_J7_fill_53178_k21 (x1 : Int32) (σ : mm_M) (rv : Int32) (σ1 : mm_M) (hf : fx_J7_fill_53178_k21 x1 σ = some (rv, σ1)) : mm_fr (fw_J7_fill_53178_k21 x1) σ σ1 := by
  rw [fx_J7_fill_53178_k21] at hf
  have F : mm_fr (fw_J7_fill_53178_k21 x1) σ σ := mm_fr.rf
  exact F.trans (fr_J7_fill_53178_k21_L5 x1 rv σ1 mm_FU (0 : Int32) (64 : Int32) σ hf)
def fw_X9_reach (x1 : Int32) (x2 : Int32) (q t i : Nat) : Prop := (q = 7 ∧ t = 20 ∧ i = 2) ∨ (q = 7 ∧ t = 21) ∨ (q = 7 ∧ t = 22)
theorem fr_X9_reach (x1 : Int32) (x2 : Int32) (σ : mm_M) (rv : Int32) (σ1 : mm_M) (hf : fx_X9_reach x1 x2 σ = some (rv, σ1)) : mm_fr (fw_X9_reach x1 x2) σ σ1 := by
  rw [fx_X9_reach] at hf
  have F : mm_fr (fw_X9_reach x1 x2) σ σ := mm_fr.rf
  obtain ⟨h_1, hf⟩ := mm_gd_ok hf
  by_cases c_2 : (σ 7 21 0 x1.toNatClampNeg) = (-1 : Int32)
  · replace hf := mm_it c_2 hf
    by_cases c_3 : (64 : Int32) ≤ (σ 7 20 0 2)
    · replace hf := mm_it c_3 hf
      exact mm_fr.ret hf F
    · replace hf := mm_if c_3 hf
      obtain ⟨h_4, hf⟩ := mm_gd_ok hf
      obtain ⟨s_5, e_5, hf⟩ := mm_lt_ok hf
      have F := F.trans (mm_fr.a e_5 (fun _ => (Or.inr (Or.inl ⟨rfl, rfl⟩))))
      obtain ⟨h_6, hf⟩ := mm_gd_ok hf
      obtain ⟨s_7, e_7, hf⟩ := mm_lt_ok hf
      have F := F.trans (mm_fr.a e_7 (fun _ => (Or.inr (Or.inr ⟨rfl, rfl⟩))))
      obtain ⟨s_8, e_8, hf⟩ := mm_lt_ok hf
      have F := F.trans (mm_fr.u e_8 ((Or.inl ⟨rfl, rfl, rfl⟩)))
      exact mm_fr.ret hf F
  · replace hf := mm_if c_2 hf
    exact mm_fr.ret hf F
def fw_X9_reachAround (r1 : Nat) (x2 : Int32) (q t i : Nat) : Prop := (q = 7 ∧ t = 20 ∧ i = 2) ∨ (q = 7 ∧ t = 21) ∨ (q = 7 ∧ t = 22)
theorem fr_X9_reachAround_L2 (r1 : Nat) (x2 : Int32) (rv : Int32) (σ1 : mm_M)  : ∀ (fu : Nat) (v3 : Int32) (σ : mm_M), fx_X9_reachAround_L2 r1 x2 fu v3 σ = some (rv, σ1) → mm_fr (fw_X9_reachAround r1 x2) σ σ1 := by
  intro fu
  induction fu with
  | zero =>
    intro v3 σ hf
    exact mm_no hf
  | succ fu ih =>
    intro v3 σ hf
    rw [fx_X9_reachAround_L2] at hf
    have F : mm_fr (fw_X9_reachAround r1 x2) σ σ := mm_fr.rf
    by_cases c_1 : (4 : Int32) ≤ v3
    · replace hf := mm_it c_1 hf
      exact mm_fr.ret hf F
    · replace hf := mm_if c_1 hf
      obtain ⟨r_2, s_2, e_2, hf⟩ := mm_bd_ok hf
      have F := F.trans (mm_fr.eq (fr_X1_neighbour x2 v3 σ r_2 s_2 e_2))
      by_cases c_3 : r_2 = (-1 : Int32)
      · replace hf := mm_it c_3 hf
        obtain ⟨y_4, e_4, hf⟩ := mm_li_ok hf
        exact F.trans (ih y_4 s_2 hf)
      · replace hf := mm_if c_3 hf
        obtain ⟨r_5, s_5, e_5, hf⟩ := mm_bd_ok hf
        have F := F.trans (mm_fr.eq (fr_X1_hasWall r1 x2 v3 s_2 r_5 s_5 e_5))
        by_cases c_6 : r_5 = (0 : Int32)
        · replace hf := mm_it c_6 hf
          obtain ⟨r_8, s_8, e_8, hf⟩ := mm_bd_ok hf
          have F := F.trans (mm_fr.eq (fr_X1_isPit r1 r_2 s_5 r_8 s_8 e_8))
          by_cases c_9 : r_8 = (0 : Int32)
          · replace hf := mm_it c_9 hf
            obtain ⟨h_11, hf⟩ := mm_gd_ok hf
            obtain ⟨r_12, s_12, e_12, hf⟩ := mm_bd_ok hf
            have F := F.trans ((fr_X9_reach r_2 ((s_8 7 21 0 x2.toNatClampNeg) + (1 : Int32)) s_8 r_12 s_12 e_12).mono (fun q t i h => (fun h => h.elim (fun h => (Or.inl h)) (fun h => h.elim (fun h => (Or.inr (Or.inl h))) (fun h => (Or.inr (Or.inr h))))) h))
            obtain ⟨y_13, e_13, hf⟩ := mm_li_ok hf
            exact F.trans (ih y_13 s_12 hf)
          · replace hf := mm_if c_9 hf
            obtain ⟨y_10, e_10, hf⟩ := mm_li_ok hf
            exact F.trans (ih y_10 s_8 hf)
        · replace hf := mm_if c_6 hf
          obtain ⟨y_7, e_7, hf⟩ := mm_li_ok hf
          exact F.trans (ih y_7 s_5 hf)
theorem fr_X9_reachAround (r1 : Nat) (x2 : Int32) (σ : mm_M) (rv : Int32) (σ1 : mm_M) (hf : fx_X9_reachAround r1 x2 σ = some (rv, σ1)) : mm_fr (fw_X9_reachAround r1 x2) σ σ1 := by
  rw [fx_X9_reachAround] at hf
  have F : mm_fr (fw_X9_reachAround r1 x2) σ σ := mm_fr.rf
  exact F.trans (fr_X9_reachAround_L2 r1 x2 rv σ1 mm_FU (0 : Int32) σ hf)
def fw_X9_shortest (r1 : Nat) (x2 : Int32) (x3 : Int32) (q t i : Nat) : Prop := (q = 7 ∧ t = 20 ∧ i = 2) ∨ (q = 7 ∧ t = 21) ∨ (q = 7 ∧ t = 22)
theorem fr_X9_shortest_J66 (r1 : Nat) (x2 : Int32) (x3 : Int32) (rv : Int32) (σ1 : mm_M)  : ∀ (σ : mm_M), fx_X9_shortest_J66 r1 x2 x3  σ = some (rv, σ1) → mm_fr (fw_X9_shortest r1 x2 x3) σ σ1 := by
  intro  σ hf
  rw [fx_X9_shortest_J66] at hf
  have F : mm_fr (fw_X9_shortest r1 x2 x3) σ σ := mm_fr.rf
  obtain ⟨h_11, hf⟩ := mm_gd_ok hf
  by_cases c_12 : (σ 7 21 0 x3.toNatClampNeg) = (-1 : Int32)
  · replace hf := mm_it c_12 hf
    exact mm_fr.ret hf F
  · replace hf := mm_if c_12 hf
    obtain ⟨h_13, hf⟩ := mm_gd_ok hf
    exact mm_fr.ret hf F
theorem fr_X9_shortest_L22 (r1 : Nat) (x2 : Int32) (x3 : Int32) (rv : Int32) (σ1 : mm_M)  : ∀ (fu : Nat) (v4 : Int32) (σ : mm_M), fx_X9_shortest_L22 r1 x2 x3 fu v4 σ = some (rv, σ1) → mm_fr (fw_X9_shortest r1 x2 x3) σ σ1 := by
  intro fu
  induction fu with
  | zero =>
    intro v4 σ hf
    exact mm_no hf
  | succ fu ih =>
    intro v4 σ hf
    rw [fx_X9_shortest_L22] at hf
    have F : mm_fr (fw_X9_shortest r1 x2 x3) σ σ := mm_fr.rf
    by_cases c_4 : (64 : Int32) ≤ v4
    · replace hf := mm_it c_4 hf
      exact F.trans (fr_X9_shortest_J66 r1 x2 x3 rv σ1 σ hf)
    · replace hf := mm_if c_4 hf
      by_cases c_5 : (σ 7 20 0 2) ≤ v4
      · replace hf := mm_it c_5 hf
        exact F.trans (fr_X9_shortest_J66 r1 x2 x3 rv σ1 σ hf)
      · replace hf := mm_if c_5 hf
        obtain ⟨h_6, hf⟩ := mm_gd_ok hf
        by_cases c_7 : (σ 7 21 0 x3.toNatClampNeg) = (-1 : Int32)
        · replace hf := mm_it c_7 hf
          obtain ⟨h_8, hf⟩ := mm_gd_ok hf
          obtain ⟨r_9, s_9, e_9, hf⟩ := mm_bd_ok hf
          have F := F.trans ((fr_X9_reachAround r1 (σ 7 22 0 v4.toNatClampNeg) σ r_9 s_9 e_9).mono (fun q t i h => (fun h => h.elim (fun h => (Or.inl h)) (fun h => h.elim (fun h => (Or.inr (Or.inl h))) (fun h => (Or.inr (Or.inr h))))) h))
          obtain ⟨y_10, e_10, hf⟩ := mm_li_ok hf
          exact F.trans (ih y_10 s_9 hf)
        · replace hf := mm_if c_7 hf
          exact F.trans (fr_X9_shortest_J66 r1 x2 x3 rv σ1 σ hf)
theorem fr_X9_shortest (r1 : Nat) (x2 : Int32) (x3 : Int32) (σ : mm_M) (rv : Int32) (σ1 : mm_M) (hf : fx_X9_shortest r1 x2 x3 σ = some (rv, σ1)) : mm_fr (fw_X9_shortest r1 x2 x3) σ σ1 := by
  rw [fx_X9_shortest] at hf
  have F : mm_fr (fw_X9_shortest r1 x2 x3) σ σ := mm_fr.rf
  obtain ⟨r_1, s_1, e_1, hf⟩ := mm_bd_ok hf
  have F := F.trans ((fr_J7_fill_53178_k21 (-1 : Int32) σ r_1 s_1 e_1).mono (fun q t i h => (fun h => (Or.inr (Or.inl h))) h))
  obtain ⟨s_2, e_2, hf⟩ := mm_lt_ok hf
  have F := F.trans (mm_fr.u e_2 ((Or.inl ⟨rfl, rfl, rfl⟩)))
  obtain ⟨r_3, s_3, e_3, hf⟩ := mm_bd_ok hf
  have F := F.trans ((fr_X9_reach x2 (0 : Int32) s_2 r_3 s_3 e_3).mono (fun q t i h => (fun h => h.elim (fun h => (Or.inl h)) (fun h => h.elim (fun h => (Or.inr (Or.inl h))) (fun h => (Or.inr (Or.inr h))))) h))
  exact F.trans (fr_X9_shortest_L22 r1 x2 x3 rv σ1 mm_FU (0 : Int32) s_3 hf)
def fw_X10_steps (x1 : Int32) (x2 : Int32) (q t i : Nat) : Prop := (q = 7 ∧ t = 20 ∧ i = 2) ∨ (q = 7 ∧ t = 21) ∨ (q = 7 ∧ t = 22)
theorem fr_X10_steps (x1 : Int32) (x2 : Int32) (σ : mm_M) (rv : Int32) (σ1 : mm_M) (hf : fx_X10_steps x1 x2 σ = some (rv, σ1)) : mm_fr (fw_X10_steps x1 x2) σ σ1 := by
  rw [fx_X10_steps] at hf
  have F : mm_fr (fw_X10_steps x1 x2) σ σ := mm_fr.rf
  obtain ⟨r_1, s_1, e_1, hf⟩ := mm_bd_ok hf
  have F := F.trans (mm_fr.eq (fr_X10_isCell x1 σ r_1 s_1 e_1))
  by_cases c_2 : r_1 = (0 : Int32)
  · replace hf := mm_it c_2 hf
    exact mm_fr.ret hf F
  · replace hf := mm_if c_2 hf
    obtain ⟨r_3, s_3, e_3, hf⟩ := mm_bd_ok hf
    have F := F.trans (mm_fr.eq (fr_X10_isCell x2 s_1 r_3 s_3 e_3))
    by_cases c_4 : r_3 = (0 : Int32)
    · replace hf := mm_it c_4 hf
      exact mm_fr.ret hf F
    · replace hf := mm_if c_4 hf
      obtain ⟨r_5, s_5, e_5, hf⟩ := mm_bd_ok hf
      have F := F.trans ((fr_X9_shortest 0 x1 x2 s_3 r_5 s_5 e_5).mono (fun q t i h => (fun h => h.elim (fun h => (Or.inl h)) (fun h => h.elim (fun h => (Or.inr (Or.inl h))) (fun h => (Or.inr (Or.inr h))))) h))
      exact mm_fr.ret hf F
def fw_X8_cartsOut (r0 : Nat) (q t i : Nat) : Prop := False
theorem fr_X8_cartsOut_L4 (r0 : Nat) (rv : Int32) (σ1 : mm_M)  : ∀ (fu : Nat) (v1 : Int32) (v2 : Int32) (σ : mm_M), fx_X8_cartsOut_L4 r0 fu v1 v2 σ = some (rv, σ1) → mm_fr (fw_X8_cartsOut r0) σ σ1 := by
  intro fu
  induction fu with
  | zero =>
    intro v1 v2 σ hf
    exact mm_no hf
  | succ fu ih =>
    intro v1 v2 σ hf
    rw [fx_X8_cartsOut_L4] at hf
    have F : mm_fr (fw_X8_cartsOut r0) σ σ := mm_fr.rf
    by_cases c_1 : (σ r0 0 0 2) ≤ v2
    · replace hf := mm_it c_1 hf
      exact mm_fr.ret hf F
    · replace hf := mm_if c_1 hf
      obtain ⟨h_2, hf⟩ := mm_gd_ok hf
      obtain ⟨r_3, s_3, e_3, hf⟩ := mm_bd_ok hf
      have F := F.trans (mm_fr.eq (fr_X3_isOut r0 v2.toNatClampNeg σ r_3 s_3 e_3))
      by_cases c_4 : r_3 = (0 : Int32)
      · replace hf := mm_it c_4 hf
        obtain ⟨y_5, e_5, hf⟩ := mm_li_ok hf
        exact F.trans (ih v1 y_5 s_3 hf)
      · replace hf := mm_if c_4 hf
        obtain ⟨y_6, e_6, hf⟩ := mm_li_ok hf
        obtain ⟨y_7, e_7, hf⟩ := mm_li_ok hf
        exact F.trans (ih y_6 y_7 s_3 hf)
theorem fr_X8_cartsOut (r0 : Nat) (σ : mm_M) (rv : Int32) (σ1 : mm_M) (hf : fx_X8_cartsOut r0 σ = some (rv, σ1)) : σ1 = σ := by
  refine mm_fr.none (W := (fw_X8_cartsOut r0)) (fun _ _ _ h => h) ?_
  rw [fx_X8_cartsOut] at hf
  have F : mm_fr (fw_X8_cartsOut r0) σ σ := mm_fr.rf
  exact F.trans (fr_X8_cartsOut_L4 r0 rv σ1 mm_FU (0 : Int32) (0 : Int32) σ hf)
def fw_X10_count (x1 : Int32) (q t i : Nat) : Prop := False
theorem fr_X10_count (x1 : Int32) (σ : mm_M) (rv : Int32) (σ1 : mm_M) (hf : fx_X10_count x1 σ = some (rv, σ1)) : σ1 = σ := by
  refine mm_fr.none (W := (fw_X10_count x1)) (fun _ _ _ h => h) ?_
  rw [fx_X10_count] at hf
  have F : mm_fr (fw_X10_count x1) σ σ := mm_fr.rf
  by_cases c_1 : x1 = (0 : Int32)
  · replace hf := mm_it c_1 hf
    exact mm_fr.ret hf F
  replace hf := mm_if c_1 hf
  by_cases c_2 : x1 = (1 : Int32)
  · replace hf := mm_it c_2 hf
    exact mm_fr.ret hf F
  replace hf := mm_if c_2 hf
  by_cases c_3 : x1 = (2 : Int32)
  · replace hf := mm_it c_3 hf
    exact mm_fr.ret hf F
  replace hf := mm_if c_3 hf
  by_cases c_4 : x1 = (3 : Int32)
  · replace hf := mm_it c_4 hf
    exact mm_fr.ret hf F
  replace hf := mm_if c_4 hf
  by_cases c_5 : x1 = (4 : Int32)
  · replace hf := mm_it c_5 hf
    obtain ⟨r_6, s_6, e_6, hf⟩ := mm_bd_ok hf
    have F := F.trans (mm_fr.eq (fr_X8_cartsOut 0 σ r_6 s_6 e_6))
    exact mm_fr.ret hf F
  replace hf := mm_if c_5 hf
  by_cases c_7 : x1 = (5 : Int32)
  · replace hf := mm_it c_7 hf
    by_cases c_8 : (σ 0 0 0 7) = (-1 : Int32)
    · replace hf := mm_it c_8 hf
      exact mm_fr.ret hf F
    · replace hf := mm_if c_8 hf
      exact mm_fr.ret hf F
  replace hf := mm_if c_7 hf
  by_cases c_9 : x1 = (6 : Int32)
  · replace hf := mm_it c_9 hf
    exact mm_fr.ret hf F
  replace hf := mm_if c_9 hf
  by_cases c_10 : x1 = (7 : Int32)
  · replace hf := mm_it c_10 hf
    exact mm_fr.ret hf F
  replace hf := mm_if c_10 hf
  by_cases c_11 : x1 = (8 : Int32)
  · replace hf := mm_it c_11 hf
    exact mm_fr.ret hf F
  replace hf := mm_if c_11 hf
  by_cases c_12 : x1 = (9 : Int32)
  · replace hf := mm_it c_12 hf
    exact mm_fr.ret hf F
  replace hf := mm_if c_12 hf
  exact mm_fr.ret hf F
def fw_X4_restore (r1 : Nat) (q t i : Nat) : Prop := (q = 6 ∧ t = 10 ∧ i = 1) ∨ (q = r1 ∧ t = 0 ∧ i = 2) ∨ (q = r1 ∧ t = 0 ∧ i = 3) ∨ (q = r1 ∧ t = 0 ∧ i = 4) ∨ (q = r1 ∧ t = 0 ∧ i = 5) ∨ (q = r1 ∧ t = 0 ∧ i = 6) ∨ (q = r1 ∧ t = 0 ∧ i = 7) ∨ (q = r1 ∧ t = 1 ∧ i = 3) ∨ (q = r1 ∧ t = 2) ∨ (q = r1 ∧ t = 3) ∨ (q = r1 ∧ t = 4) ∨ (q = r1 ∧ t = 6 ∧ i = 2) ∨ (q = r1 ∧ t = 6 ∧ i = 3) ∨ (q = r1 ∧ t = 6 ∧ i = 4) ∨ (q = r1 ∧ t = 6 ∧ i = 5) ∨ (q = r1 ∧ t = 6 ∧ i = 6) ∨ (q = r1 ∧ t = 6 ∧ i = 7) ∨ (q = r1 ∧ t = 6 ∧ i = 8) ∨ (q = r1 ∧ t = 7) ∨ (q = r1 ∧ t = 8)
theorem fr_X4_restore (r1 : Nat) (σ : mm_M) (rv : Int32) (σ1 : mm_M) (hf : fx_X4_restore r1 σ = some (rv, σ1)) : mm_fr (fw_X4_restore r1) σ σ1 := by
  rw [fx_X4_restore] at hf
  have F : mm_fr (fw_X4_restore r1) σ σ := mm_fr.rf
  by_cases c_1 : (σ 6 10 0 1) ≤ (0 : Int32)
  · replace hf := mm_it c_1 hf
    exact mm_fr.ret hf F
  · replace hf := mm_if c_1 hf
    obtain ⟨s_2, e_2, hf⟩ := mm_lt_ok hf
    have F := F.trans (mm_fr.u e_2 ((Or.inl ⟨rfl, rfl, rfl⟩)))
    obtain ⟨h_3, hf⟩ := mm_gd_ok hf
    obtain ⟨h_4, hf⟩ := mm_gd_ok hf
    obtain ⟨r_5, s_5, e_5, hf⟩ := mm_bd_ok hf
    have F := F.trans ((fr_X8_copyFrom r1 ((s_2 6 11 0 (s_2 6 10 0 1).toNatClampNeg).toNatClampNeg) s_2 r_5 s_5 e_5).mono (fun q t i h => (fun h => h.elim (fun h => (Or.inr (Or.inl h))) (fun h => h.elim (fun h => (Or.inr (Or.inr (Or.inl h)))) (fun h => h.elim (fun h => (Or.inr (Or.inr (Or.inr (Or.inl h))))) (fun h => h.elim (fun h => (Or.inr (Or.inr (Or.inr (Or.inr (Or.inl h)))))) (fun h => h.elim (fun h => (Or.inr (Or.inr (Or.inr (Or.inr (Or.inr (Or.inl h))))))) (fun h => h.elim (fun h => (Or.inr (Or.inr (Or.inr (Or.inr (Or.inr (Or.inr (Or.inl h)))))))) (fun h => h.elim (fun h => (Or.inr (Or.inr (Or.inr (Or.inr (Or.inr (Or.inr (Or.inr (Or.inl h))))))))) (fun h => h.elim (fun h => (Or.inr (Or.inr (Or.inr (Or.inr (Or.inr (Or.inr (Or.inr (Or.inr (Or.inl h)))))))))) (fun h => h.elim (fun h => (Or.inr (Or.inr (Or.inr (Or.inr (Or.inr (Or.inr (Or.inr (Or.inr (Or.inr (Or.inl h))))))))))) (fun h => h.elim (fun h => (Or.inr (Or.inr (Or.inr (Or.inr (Or.inr (Or.inr (Or.inr (Or.inr (Or.inr (Or.inr (Or.inl h)))))))))))) (fun h => h.elim (fun h => (Or.inr (Or.inr (Or.inr (Or.inr (Or.inr (Or.inr (Or.inr (Or.inr (Or.inr (Or.inr (Or.inr (Or.inl h))))))))))))) (fun h => h.elim (fun h => (Or.inr (Or.inr (Or.inr (Or.inr (Or.inr (Or.inr (Or.inr (Or.inr (Or.inr (Or.inr (Or.inr (Or.inr (Or.inl h)))))))))))))) (fun h => h.elim (fun h => (Or.inr (Or.inr (Or.inr (Or.inr (Or.inr (Or.inr (Or.inr (Or.inr (Or.inr (Or.inr (Or.inr (Or.inr (Or.inr (Or.inl h))))))))))))))) (fun h => h.elim (fun h => (Or.inr (Or.inr (Or.inr (Or.inr (Or.inr (Or.inr (Or.inr (Or.inr (Or.inr (Or.inr (Or.inr (Or.inr (Or.inr (Or.inr (Or.inl h)))))))))))))))) (fun h => h.elim (fun h => (Or.inr (Or.inr (Or.inr (Or.inr (Or.inr (Or.inr (Or.inr (Or.inr (Or.inr (Or.inr (Or.inr (Or.inr (Or.inr (Or.inr (Or.inr (Or.inl h))))))))))))))))) (fun h => h.elim (fun h => (Or.inr (Or.inr (Or.inr (Or.inr (Or.inr (Or.inr (Or.inr (Or.inr (Or.inr (Or.inr (Or.inr (Or.inr (Or.inr (Or.inr (Or.inr (Or.inr (Or.inl h)))))))))))))))))) (fun h => h.elim (fun h => (Or.inr (Or.inr (Or.inr (Or.inr (Or.inr (Or.inr (Or.inr (Or.inr (Or.inr (Or.inr (Or.inr (Or.inr (Or.inr (Or.inr (Or.inr (Or.inr (Or.inr (Or.inl h))))))))))))))))))) (fun h => h.elim (fun h => (Or.inr (Or.inr (Or.inr (Or.inr (Or.inr (Or.inr (Or.inr (Or.inr (Or.inr (Or.inr (Or.inr (Or.inr (Or.inr (Or.inr (Or.inr (Or.inr (Or.inr (Or.inr (Or.inl h)))))))))))))))))))) (fun h => (Or.inr (Or.inr (Or.inr (Or.inr (Or.inr (Or.inr (Or.inr (Or.inr (Or.inr (Or.inr (Or.inr (Or.inr (Or.inr (Or.inr (Or.inr (Or.inr (Or.inr (Or.inr (Or.inr h)))))))))))))))))))))))))))))))))))))) h))
    exact mm_fr.ret hf F
def fw_X10_undo  (q t i : Nat) : Prop := (q = 0 ∧ t = 0 ∧ i = 2) ∨ (q = 0 ∧ t = 0 ∧ i = 3) ∨ (q = 0 ∧ t = 0 ∧ i = 4) ∨ (q = 0 ∧ t = 0 ∧ i = 5) ∨ (q = 0 ∧ t = 0 ∧ i = 6) ∨ (q = 0 ∧ t = 0 ∧ i = 7) ∨ (q = 0 ∧ t = 1 ∧ i = 3) ∨ (q = 0 ∧ t = 2) ∨ (q = 0 ∧ t = 3) ∨ (q = 0 ∧ t = 4) ∨ (q = 0 ∧ t = 6 ∧ i = 2) ∨ (q = 0 ∧ t = 6 ∧ i = 3) ∨ (q = 0 ∧ t = 6 ∧ i = 4) ∨ (q = 0 ∧ t = 6 ∧ i = 5) ∨ (q = 0 ∧ t = 6 ∧ i = 6) ∨ (q = 0 ∧ t = 6 ∧ i = 7) ∨ (q = 0 ∧ t = 6 ∧ i = 8) ∨ (q = 0 ∧ t = 7) ∨ (q = 0 ∧ t = 8) ∨ (q = 6 ∧ t = 10 ∧ i = 1)
theorem fr_X10_undo  (σ : mm_M) (rv : Int32) (σ1 : mm_M) (hf : fx_X10_undo  σ = some (rv, σ1)) : mm_fr (fw_X10_undo) σ σ1 := by
  rw [fx_X10_undo] at hf
  have F : mm_fr (fw_X10_undo) σ σ := mm_fr.rf
  by_cases c_1 : (σ 6 10 0 1) = (0 : Int32)
  · replace hf := mm_it c_1 hf
    exact mm_fr.ret hf F
  · replace hf := mm_if c_1 hf
    obtain ⟨r_2, s_2, e_2, hf⟩ := mm_bd_ok hf
    have F := F.trans ((fr_X4_restore 0 σ r_2 s_2 e_2).mono (fun q t i h => (fun h => h.elim (fun h => (Or.inr (Or.inr (Or.inr (Or.inr (Or.inr (Or.inr (Or.inr (Or.inr (Or.inr (Or.inr (Or.inr (Or.inr (Or.inr (Or.inr (Or.inr (Or.inr (Or.inr (Or.inr (Or.inr h)))))))))))))))))))) (fun h => h.elim (fun h => (Or.inl h)) (fun h => h.elim (fun h => (Or.inr (Or.inl h))) (fun h => h.elim (fun h => (Or.inr (Or.inr (Or.inl h)))) (fun h => h.elim (fun h => (Or.inr (Or.inr (Or.inr (Or.inl h))))) (fun h => h.elim (fun h => (Or.inr (Or.inr (Or.inr (Or.inr (Or.inl h)))))) (fun h => h.elim (fun h => (Or.inr (Or.inr (Or.inr (Or.inr (Or.inr (Or.inl h))))))) (fun h => h.elim (fun h => (Or.inr (Or.inr (Or.inr (Or.inr (Or.inr (Or.inr (Or.inl h)))))))) (fun h => h.elim (fun h => (Or.inr (Or.inr (Or.inr (Or.inr (Or.inr (Or.inr (Or.inr (Or.inl h))))))))) (fun h => h.elim (fun h => (Or.inr (Or.inr (Or.inr (Or.inr (Or.inr (Or.inr (Or.inr (Or.inr (Or.inl h)))))))))) (fun h => h.elim (fun h => (Or.inr (Or.inr (Or.inr (Or.inr (Or.inr (Or.inr (Or.inr (Or.inr (Or.inr (Or.inl h))))))))))) (fun h => h.elim (fun h => (Or.inr (Or.inr (Or.inr (Or.inr (Or.inr (Or.inr (Or.inr (Or.inr (Or.inr (Or.inr (Or.inl h)))))))))))) (fun h => h.elim (fun h => (Or.inr (Or.inr (Or.inr (Or.inr (Or.inr (Or.inr (Or.inr (Or.inr (Or.inr (Or.inr (Or.inr (Or.inl h))))))))))))) (fun h => h.elim (fun h => (Or.inr (Or.inr (Or.inr (Or.inr (Or.inr (Or.inr (Or.inr (Or.inr (Or.inr (Or.inr (Or.inr (Or.inr (Or.inl h)))))))))))))) (fun h => h.elim (fun h => (Or.inr (Or.inr (Or.inr (Or.inr (Or.inr (Or.inr (Or.inr (Or.inr (Or.inr (Or.inr (Or.inr (Or.inr (Or.inr (Or.inl h))))))))))))))) (fun h => h.elim (fun h => (Or.inr (Or.inr (Or.inr (Or.inr (Or.inr (Or.inr (Or.inr (Or.inr (Or.inr (Or.inr (Or.inr (Or.inr (Or.inr (Or.inr (Or.inl h)))))))))))))))) (fun h => h.elim (fun h => (Or.inr (Or.inr (Or.inr (Or.inr (Or.inr (Or.inr (Or.inr (Or.inr (Or.inr (Or.inr (Or.inr (Or.inr (Or.inr (Or.inr (Or.inr (Or.inl h))))))))))))))))) (fun h => h.elim (fun h => (Or.inr (Or.inr (Or.inr (Or.inr (Or.inr (Or.inr (Or.inr (Or.inr (Or.inr (Or.inr (Or.inr (Or.inr (Or.inr (Or.inr (Or.inr (Or.inr (Or.inl h)))))))))))))))))) (fun h => h.elim (fun h => (Or.inr (Or.inr (Or.inr (Or.inr (Or.inr (Or.inr (Or.inr (Or.inr (Or.inr (Or.inr (Or.inr (Or.inr (Or.inr (Or.inr (Or.inr (Or.inr (Or.inr (Or.inl h))))))))))))))))))) (fun h => (Or.inr (Or.inr (Or.inr (Or.inr (Or.inr (Or.inr (Or.inr (Or.inr (Or.inr (Or.inr (Or.inr (Or.inr (Or.inr (Or.inr (Or.inr (Or.inr (Or.inr (Or.inr (Or.inl h))))))))))))))))))))))))))))))))))))))) h))
    exact mm_fr.ret hf F
def fw_X6_append (x1 : Int32) (q t i : Nat) : Prop := (q = 8 ∧ t = 23 ∧ i = 1) ∨ (q = 8 ∧ t = 24)
theorem fr_X6_append (x1 : Int32) (σ : mm_M) (rv : Int32) (σ1 : mm_M) (hf : fx_X6_append x1 σ = some (rv, σ1)) : mm_fr (fw_X6_append x1) σ σ1 := by
  rw [fx_X6_append] at hf
  have F : mm_fr (fw_X6_append x1) σ σ := mm_fr.rf
  by_cases c_1 : (σ 8 23 0 1) < (60 : Int32)
  · replace hf := mm_it c_1 hf
    obtain ⟨h_2, hf⟩ := mm_gd_ok hf
    obtain ⟨h_3, hf⟩ := mm_gd_ok hf
    obtain ⟨s_4, e_4, hf⟩ := mm_lt_ok hf
    have F := F.trans (mm_fr.a e_4 (fun _ => (Or.inr ⟨rfl, rfl⟩)))
    obtain ⟨s_5, e_5, hf⟩ := mm_lt_ok hf
    have F := F.trans (mm_fr.u e_5 ((Or.inl ⟨rfl, rfl, rfl⟩)))
    exact mm_fr.ret hf F
  · replace hf := mm_if c_1 hf
    exact mm_fr.ret hf F
def fw_X10_type (x1 : Int32) (q t i : Nat) : Prop := (q = 8 ∧ t = 23 ∧ i = 1) ∨ (q = 8 ∧ t = 24)
theorem fr_X10_type (x1 : Int32) (σ : mm_M) (rv : Int32) (σ1 : mm_M) (hf : fx_X10_type x1 σ = some (rv, σ1)) : mm_fr (fw_X10_type x1) σ σ1 := by
  rw [fx_X10_type] at hf
  have F : mm_fr (fw_X10_type x1) σ σ := mm_fr.rf
  obtain ⟨r_1, s_1, e_1, hf⟩ := mm_bd_ok hf
  have F := F.trans (mm_fr.eq (fr_X10_isWithin x1 (32 : Int32) (126 : Int32) σ r_1 s_1 e_1))
  by_cases c_2 : r_1 = (0 : Int32)
  · replace hf := mm_it c_2 hf
    exact mm_fr.ret hf F
  · replace hf := mm_if c_2 hf
    obtain ⟨r_3, s_3, e_3, hf⟩ := mm_bd_ok hf
    have F := F.trans ((fr_X6_append ((x1.toUInt32 % 65536).toInt32) s_1 r_3 s_3 e_3).mono (fun q t i h => (fun h => h.elim (fun h => (Or.inl h)) (fun h => (Or.inr h))) h))
    exact mm_fr.ret hf F
def fw_X10_clearText  (q t i : Nat) : Prop := (q = 8 ∧ t = 23 ∧ i = 1)
theorem fr_X10_clearText  (σ : mm_M) (rv : Int32) (σ1 : mm_M) (hf : fx_X10_clearText  σ = some (rv, σ1)) : mm_fr (fw_X10_clearText) σ σ1 := by
  rw [fx_X10_clearText] at hf
  have F : mm_fr (fw_X10_clearText) σ σ := mm_fr.rf
  obtain ⟨y_1, e_1, hf⟩ := mm_li_ok hf
  obtain ⟨s_2, e_2, hf⟩ := mm_lt_ok hf
  have F := F.trans (mm_fr.u e_2 (⟨rfl, rfl, rfl⟩))
  exact mm_fr.ret hf F
def fw_X5_isFaulty  (q t i : Nat) : Prop := False
theorem fr_X5_isFaulty  (σ : mm_M) (rv : Int32) (σ1 : mm_M) (hf : fx_X5_isFaulty  σ = some (rv, σ1)) : σ1 = σ := by
  refine mm_fr.none (W := (fw_X5_isFaulty)) (fun _ _ _ h => h) ?_
  rw [fx_X5_isFaulty] at hf
  have F : mm_fr (fw_X5_isFaulty) σ σ := mm_fr.rf
  by_cases c_1 : (σ 9 26 0 4) = (0 : Int32)
  · replace hf := mm_it c_1 hf
    exact mm_fr.ret hf F
  · replace hf := mm_if c_1 hf
    exact mm_fr.ret hf F
def fw_X6_numbersBehind (x0 : Int32) (q t i : Nat) : Prop := False
theorem fr_X6_numbersBehind (x0 : Int32) (σ : mm_M) (rv : Int32) (σ1 : mm_M) (hf : fx_X6_numbersBehind x0 σ = some (rv, σ1)) : σ1 = σ := by
  refine mm_fr.none (W := (fw_X6_numbersBehind x0)) (fun _ _ _ h => h) ?_
  rw [fx_X6_numbersBehind] at hf
  have F : mm_fr (fw_X6_numbersBehind x0) σ σ := mm_fr.rf
  by_cases c_1 : x0 = (99 : Int32)
  · replace hf := mm_it c_1 hf
    exact mm_fr.ret hf F
  replace hf := mm_if c_1 hf
  by_cases c_2 : x0 = (107 : Int32)
  · replace hf := mm_it c_2 hf
    exact mm_fr.ret hf F
  replace hf := mm_if c_2 hf
  by_cases c_3 : x0 = (112 : Int32)
  · replace hf := mm_it c_3 hf
    exact mm_fr.ret hf F
  replace hf := mm_if c_3 hf
  by_cases c_4 : x0 = (114 : Int32)
  · replace hf := mm_it c_4 hf
    exact mm_fr.ret hf F
  replace hf := mm_if c_4 hf
  by_cases c_5 : x0 = (119 : Int32)
  · replace hf := mm_it c_5 hf
    exact mm_fr.ret hf F
  replace hf := mm_if c_5 hf
  exact mm_fr.ret hf F
def fw_X6_take (x1 : Int32) (q t i : Nat) : Prop := (q = 8 ∧ t = 23 ∧ i = 4)
theorem fr_X6_take (x1 : Int32) (σ : mm_M) (rv : Int32) (σ1 : mm_M) (hf : fx_X6_take x1 σ = some (rv, σ1)) : mm_fr (fw_X6_take x1) σ σ1 := by
  rw [fx_X6_take] at hf
  have F : mm_fr (fw_X6_take x1) σ σ := mm_fr.rf
  by_cases c_1 : (σ 8 23 0 1) ≤ (σ 8 23 0 4)
  · replace hf := mm_it c_1 hf
    exact mm_fr.ret hf F
  · replace hf := mm_if c_1 hf
    obtain ⟨h_2, hf⟩ := mm_gd_ok hf
    by_cases c_3 : (σ 8 24 0 (σ 8 23 0 4).toNatClampNeg) = x1
    · replace hf := mm_it c_3 hf
      obtain ⟨s_4, e_4, hf⟩ := mm_lt_ok hf
      have F := F.trans (mm_fr.u e_4 (⟨rfl, rfl, rfl⟩))
      exact mm_fr.ret hf F
    · replace hf := mm_if c_3 hf
      exact mm_fr.ret hf F
def fw_X6_takeNumber (x1 : Int32) (q t i : Nat) : Prop := (q = 8 ∧ t = 23 ∧ i = 4) ∨ (q = 8 ∧ t = 25)
theorem fr_X6_takeNumber_J82 (x1 : Int32) (rv : Int32) (σ1 : mm_M)  : ∀ (v2 : Int32) (v3 : Int32) (σ : mm_M), fx_X6_takeNumber_J82 x1 v2 v3 σ = some (rv, σ1) → mm_fr (fw_X6_takeNumber x1) σ σ1 := by
  intro v2 v3 σ hf
  rw [fx_X6_takeNumber_J82] at hf
  have F : mm_fr (fw_X6_takeNumber x1) σ σ := mm_fr.rf
  obtain ⟨h_11, hf⟩ := mm_gd_ok hf
  obtain ⟨s_12, e_12, hf⟩ := mm_lt_ok hf
  have F := F.trans (mm_fr.a e_12 (fun _ => (Or.inr ⟨rfl, rfl⟩)))
  by_cases c_13 : v3 ≤ (0 : Int32)
  · replace hf := mm_it c_13 hf
    exact mm_fr.ret hf F
  · replace hf := mm_if c_13 hf
    exact mm_fr.ret hf F
theorem fr_X6_takeNumber_L4 (x1 : Int32) (rv : Int32) (σ1 : mm_M)  : ∀ (fu : Nat) (v2 : Int32) (v3 : Int32) (σ : mm_M), fx_X6_takeNumber_L4 x1 fu v2 v3 σ = some (rv, σ1) → mm_fr (fw_X6_takeNumber x1) σ σ1 := by
  intro fu
  induction fu with
  | zero =>
    intro v2 v3 σ hf
    exact mm_no hf
  | succ fu ih =>
    intro v2 v3 σ hf
    rw [fx_X6_takeNumber_L4] at hf
    have F : mm_fr (fw_X6_takeNumber x1) σ σ := mm_fr.rf
    by_cases c_1 : (3 : Int32) ≤ v3
    · replace hf := mm_it c_1 hf
      exact F.trans (fr_X6_takeNumber_J82 x1 rv σ1 v2 v3 σ hf)
    · replace hf := mm_if c_1 hf
      by_cases c_2 : (σ 8 23 0 1) ≤ (σ 8 23 0 4)
      · replace hf := mm_it c_2 hf
        exact F.trans (fr_X6_takeNumber_J82 x1 rv σ1 v2 v3 σ hf)
      · replace hf := mm_if c_2 hf
        obtain ⟨h_3, hf⟩ := mm_gd_ok hf
        by_cases c_4 : (σ 8 24 0 (σ 8 23 0 4).toNatClampNeg) < (48 : Int32)
        · replace hf := mm_it c_4 hf
          exact F.trans (fr_X6_takeNumber_J82 x1 rv σ1 v2 v3 σ hf)
        · replace hf := mm_if c_4 hf
          obtain ⟨h_5, hf⟩ := mm_gd_ok hf
          by_cases c_6 : (57 : Int32) < (σ 8 24 0 (σ 8 23 0 4).toNatClampNeg)
          · replace hf := mm_it c_6 hf
            exact F.trans (fr_X6_takeNumber_J82 x1 rv σ1 v2 v3 σ hf)
          · replace hf := mm_if c_6 hf
            obtain ⟨h_7, hf⟩ := mm_gd_ok hf
            obtain ⟨y_8, e_8, hf⟩ := mm_li_ok hf
            obtain ⟨y_9, e_9, hf⟩ := mm_li_ok hf
            obtain ⟨s_10, e_10, hf⟩ := mm_lt_ok hf
            have F := F.trans (mm_fr.u e_10 ((Or.inl ⟨rfl, rfl, rfl⟩)))
            exact F.trans (ih y_8 y_9 s_10 hf)
theorem fr_X6_takeNumber (x1 : Int32) (σ : mm_M) (rv : Int32) (σ1 : mm_M) (hf : fx_X6_takeNumber x1 σ = some (rv, σ1)) : mm_fr (fw_X6_takeNumber x1) σ σ1 := by
  rw [fx_X6_takeNumber] at hf
  have F : mm_fr (fw_X6_takeNumber x1) σ σ := mm_fr.rf
  exact F.trans (fr_X6_takeNumber_L4 x1 rv σ1 mm_FU (0 : Int32) (0 : Int32) σ hf)
def fw_X6_read (x1 : Int32) (q t i : Nat) : Prop := (q = 8 ∧ t = 23 ∧ i = 2) ∨ (q = 8 ∧ t = 23 ∧ i = 4) ∨ (q = 8 ∧ t = 25)
theorem fr_X6_read_J79 (x1 : Int32) (rv : Int32) (σ1 : mm_M) (k61 : Int32 → Int32 → mm_M → mm_R) (hk61 : ∀ (v2 : Int32) (v3 : Int32) (σ : mm_M), k61 v2 v3 σ = some (rv, σ1) → mm_fr (fw_X6_read x1) σ σ1) : ∀ (v2 : Int32) (v3 : Int32) (σ : mm_M), fx_X6_read_J79 x1 k61 v2 v3 σ = some (rv, σ1) → mm_fr (fw_X6_read x1) σ σ1 := by
  intro v2 v3 σ hf
  rw [fx_X6_read_J79] at hf
  have F : mm_fr (fw_X6_read x1) σ σ := mm_fr.rf
  obtain ⟨r_15, s_15, e_15, hf⟩ := mm_bd_ok hf
  have F := F.trans ((fr_X6_takeNumber v3 σ r_15 s_15 e_15).mono (fun q t i h => (fun h => h.elim (fun h => (Or.inr (Or.inl h))) (fun h => (Or.inr (Or.inr h)))) h))
  by_cases c_16 : r_15 = (0 : Int32)
  · replace hf := mm_it c_16 hf
    exact mm_fr.ret hf F
  · replace hf := mm_if c_16 hf
    obtain ⟨y_17, e_17, hf⟩ := mm_li_ok hf
    exact F.trans (hk61 v2 y_17 s_15 hf)
theorem fr_X6_read_L61 (x1 : Int32) (rv : Int32) (σ1 : mm_M)  : ∀ (fu : Nat) (v2 : Int32) (v3 : Int32) (σ : mm_M), fx_X6_read_L61 x1 fu v2 v3 σ = some (rv, σ1) → mm_fr (fw_X6_read x1) σ σ1 := by
  intro fu
  induction fu with
  | zero =>
    intro v2 v3 σ hf
    exact mm_no hf
  | succ fu ih =>
    intro v2 v3 σ hf
    rw [fx_X6_read_L61] at hf
    have F : mm_fr (fw_X6_read x1) σ σ := mm_fr.rf
    by_cases c_9 : v2 ≤ v3
    · replace hf := mm_it c_9 hf
      obtain ⟨r_10, s_10, e_10, hf⟩ := mm_bd_ok hf
      have F := F.trans ((fr_X6_take (59 : Int32) σ r_10 s_10 e_10).mono (fun q t i h => (fun h => (Or.inr (Or.inl h))) h))
      obtain ⟨h_11, hf⟩ := mm_gd_ok hf
      exact mm_fr.ret hf F
    · replace hf := mm_if c_9 hf
      by_cases c_12 : v3 ≤ (0 : Int32)
      · replace hf := mm_it c_12 hf
        exact F.trans (fr_X6_read_J79 x1 rv σ1 (fun z0 z1 z => fx_X6_read_L61 x1 fu z0 z1 z) ih v2 v3 σ hf)
      · replace hf := mm_if c_12 hf
        obtain ⟨r_13, s_13, e_13, hf⟩ := mm_bd_ok hf
        have F := F.trans ((fr_X6_take (44 : Int32) σ r_13 s_13 e_13).mono (fun q t i h => (fun h => (Or.inr (Or.inl h))) h))
        by_cases c_14 : r_13 = (0 : Int32)
        · replace hf := mm_it c_14 hf
          exact mm_fr.ret hf F
        · replace hf := mm_if c_14 hf
          exact F.trans (fr_X6_read_J79 x1 rv σ1 (fun z0 z1 z => fx_X6_read_L61 x1 fu z0 z1 z) ih v2 v3 s_13 hf)
theorem fr_X6_read_J31 (x1 : Int32) (rv : Int32) (σ1 : mm_M)  : ∀ (w1 : Int32) (σ : mm_M), fx_X6_read_J31 x1 w1 σ = some (rv, σ1) → mm_fr (fw_X6_read x1) σ σ1 := by
  intro w1 σ hf
  rw [fx_X6_read_J31] at hf
  have F : mm_fr (fw_X6_read x1) σ σ := mm_fr.rf
  obtain ⟨h_4, hf⟩ := mm_gd_ok hf
  obtain ⟨s_5, e_5, hf⟩ := mm_lt_ok hf
  have F := F.trans (mm_fr.u e_5 ((Or.inl ⟨rfl, rfl, rfl⟩)))
  obtain ⟨r_6, s_6, e_6, hf⟩ := mm_bd_ok hf
  have F := F.trans (mm_fr.eq (fr_X6_numbersBehind (s_5 8 23 0 2) s_5 r_6 s_6 e_6))
  by_cases c_7 : r_6 = (-1 : Int32)
  · replace hf := mm_it c_7 hf
    exact mm_fr.ret hf F
  · replace hf := mm_if c_7 hf
    obtain ⟨s_8, e_8, hf⟩ := mm_lt_ok hf
    have F := F.trans (mm_fr.u e_8 ((Or.inr (Or.inl ⟨rfl, rfl, rfl⟩))))
    exact F.trans (fr_X6_read_L61 x1 rv σ1 mm_FU r_6 (0 : Int32) s_8 hf)
theorem fr_X6_read (x1 : Int32) (σ : mm_M) (rv : Int32) (σ1 : mm_M) (hf : fx_X6_read x1 σ = some (rv, σ1)) : mm_fr (fw_X6_read x1) σ σ1 := by
  rw [fx_X6_read] at hf
  have F : mm_fr (fw_X6_read x1) σ σ := mm_fr.rf
  obtain ⟨s_1, e_1, hf⟩ := mm_lt_ok hf
  have F := F.trans (mm_fr.u e_1 ((Or.inr (Or.inl ⟨rfl, rfl, rfl⟩))))
  by_cases c_2 : (s_1 8 23 0 1) ≤ (s_1 8 23 0 4)
  · replace hf := mm_it c_2 hf
    exact F.trans (fr_X6_read_J31 x1 rv σ1 (32 : Int32) s_1 hf)
  · replace hf := mm_if c_2 hf
    obtain ⟨h_3, hf⟩ := mm_gd_ok hf
    exact F.trans (fr_X6_read_J31 x1 rv σ1 (s_1 8 24 0 (s_1 8 23 0 4).toNatClampNeg) s_1 hf)
def fw_X5_obey_k25 (r1 : Nat) (q t i : Nat) : Prop := (q = 7 ∧ t = 14) ∨ (q = 7 ∧ t = 15) ∨ (q = 7 ∧ t = 17) ∨ (q = 7 ∧ t = 18) ∨ (q = 7 ∧ t = 19) ∨ (q = r1 ∧ t = 0 ∧ i = 2) ∨ (q = r1 ∧ t = 0 ∧ i = 3) ∨ (q = r1 ∧ t = 0 ∧ i = 4) ∨ (q = r1 ∧ t = 0 ∧ i = 5) ∨ (q = r1 ∧ t = 0 ∧ i = 6) ∨ (q = r1 ∧ t = 0 ∧ i = 7) ∨ (q = r1 ∧ t = 2) ∨ (q = r1 ∧ t = 3) ∨ (q = r1 ∧ t = 6 ∧ i = 2) ∨ (q = r1 ∧ t = 6 ∧ i = 3) ∨ (q = r1 ∧ t = 6 ∧ i = 4) ∨ (q = r1 ∧ t = 6 ∧ i = 5) ∨ (q = r1 ∧ t = 6 ∧ i = 6) ∨ (q = r1 ∧ t = 6 ∧ i = 7) ∨ (q = r1 ∧ t = 6 ∧ i = 8) ∨ (q = r1 ∧ t = 7) ∨ (q = r1 ∧ t = 8)
theorem fr_X5_obey_k25 (r1 : Nat) (σ : mm_M) (rv : Int32) (σ1 : mm_M) (hf : fx_X5_obey_k25 r1 σ = some (rv, σ1)) : mm_fr (fw_X5_obey_k25 r1) σ σ1 := by
  rw [fx_X5_obey_k25] at hf
  have F : mm_fr (fw_X5_obey_k25 r1) σ σ := mm_fr.rf
  by_cases c_1 : (σ 8 23 0 2) = (99 : Int32)
  · replace hf := mm_it c_1 hf
    obtain ⟨r_2, s_2, e_2, hf⟩ := mm_bd_ok hf
    have F := F.trans ((fr_X8_addCart r1 (σ 8 25 0 (0 : Int32).toNatClampNeg) (σ 8 25 0 (1 : Int32).toNatClampNeg) σ r_2 s_2 e_2).mono (fun q t i h => (fun h => h.elim (fun h => (Or.inr (Or.inr (Or.inr (Or.inr (Or.inr (Or.inl h))))))) (fun h => h.elim (fun h => (Or.inr (Or.inr (Or.inr (Or.inr (Or.inr (Or.inr (Or.inr (Or.inr (Or.inr (Or.inr (Or.inr (Or.inr (Or.inr (Or.inl h))))))))))))))) (fun h => h.elim (fun h => (Or.inr (Or.inr (Or.inr (Or.inr (Or.inr (Or.inr (Or.inr (Or.inr (Or.inr (Or.inr (Or.inr (Or.inr (Or.inr (Or.inr (Or.inl h)))))))))))))))) (fun h => (Or.inr (Or.inr (Or.inr (Or.inr (Or.inr (Or.inr (Or.inr (Or.inr (Or.inr (Or.inr (Or.inr (Or.inr (Or.inr (Or.inr (Or.inr (Or.inl h)))))))))))))))))))) h))
    exact mm_fr.ret hf F
  replace hf := mm_if c_1 hf
  by_cases c_3 : (σ 8 23 0 2) = (107 : Int32)
  · replace hf := mm_it c_3 hf
    obtain ⟨r_4, s_4, e_4, hf⟩ := mm_bd_ok hf
    have F := F.trans ((fr_X8_setKind r1 (σ 8 25 0 (0 : Int32).toNatClampNeg) (σ 8 25 0 (1 : Int32).toNatClampNeg) σ r_4 s_4 e_4).mono (fun q t i h => (fun h => (Or.inr (Or.inr (Or.inr (Or.inr (Or.inr (Or.inr (Or.inr (Or.inr (Or.inr (Or.inr (Or.inr (Or.inl h))))))))))))) h))
    exact mm_fr.ret hf F
  replace hf := mm_if c_3 hf
  by_cases c_5 : (σ 8 23 0 2) = (112 : Int32)
  · replace hf := mm_it c_5 hf
    obtain ⟨r_6, s_6, e_6, hf⟩ := mm_bd_ok hf
    have F := F.trans ((fr_X8_layCard r1 (σ 8 25 0 (0 : Int32).toNatClampNeg) (σ 8 25 0 (1 : Int32).toNatClampNeg) (σ 8 25 0 (2 : Int32).toNatClampNeg) (σ 8 25 0 (3 : Int32).toNatClampNeg) σ r_6 s_6 e_6).mono (fun q t i h => (fun h => h.elim (fun h => (Or.inr (Or.inr (Or.inr (Or.inr (Or.inr (Or.inr (Or.inr (Or.inr (Or.inr (Or.inr (Or.inr (Or.inr (Or.inr (Or.inr (Or.inr (Or.inr (Or.inr (Or.inr (Or.inr (Or.inr (Or.inl h)))))))))))))))))))))) (fun h => (Or.inr (Or.inr (Or.inr (Or.inr (Or.inr (Or.inr (Or.inr (Or.inr (Or.inr (Or.inr (Or.inr (Or.inr (Or.inr (Or.inr (Or.inr (Or.inr (Or.inr (Or.inr (Or.inr (Or.inr (Or.inr h))))))))))))))))))))))) h))
    exact mm_fr.ret hf F
  replace hf := mm_if c_5 hf
  by_cases c_7 : (σ 8 23 0 2) = (119 : Int32)
  · replace hf := mm_it c_7 hf
    obtain ⟨r_8, s_8, e_8, hf⟩ := mm_bd_ok hf
    have F := F.trans ((fr_X8_flipWall r1 (σ 8 25 0 (0 : Int32).toNatClampNeg) (σ 8 25 0 (1 : Int32).toNatClampNeg) σ r_8 s_8 e_8).mono (fun q t i h => (fun h => (Or.inr (Or.inr (Or.inr (Or.inr (Or.inr (Or.inr (Or.inr (Or.inr (Or.inr (Or.inr (Or.inr (Or.inr (Or.inl h)))))))))))))) h))
    exact mm_fr.ret hf F
  replace hf := mm_if c_7 hf
  obtain ⟨r_9, s_9, e_9, hf⟩ := mm_bd_ok hf
  have F := F.trans ((fr_X7_runNext r1 σ r_9 s_9 e_9).mono (fun q t i h => (fun h => h.elim (fun h => (Or.inl h)) (fun h => h.elim (fun h => (Or.inr (Or.inl h))) (fun h => h.elim (fun h => (Or.inr (Or.inr (Or.inl h)))) (fun h => h.elim (fun h => (Or.inr (Or.inr (Or.inr (Or.inl h))))) (fun h => h.elim (fun h => (Or.inr (Or.inr (Or.inr (Or.inr (Or.inl h)))))) (fun h => h.elim (fun h => (Or.inr (Or.inr (Or.inr (Or.inr (Or.inr (Or.inr (Or.inl h)))))))) (fun h => h.elim (fun h => (Or.inr (Or.inr (Or.inr (Or.inr (Or.inr (Or.inr (Or.inr (Or.inl h))))))))) (fun h => h.elim (fun h => (Or.inr (Or.inr (Or.inr (Or.inr (Or.inr (Or.inr (Or.inr (Or.inr (Or.inl h)))))))))) (fun h => h.elim (fun h => (Or.inr (Or.inr (Or.inr (Or.inr (Or.inr (Or.inr (Or.inr (Or.inr (Or.inr (Or.inl h))))))))))) (fun h => h.elim (fun h => (Or.inr (Or.inr (Or.inr (Or.inr (Or.inr (Or.inr (Or.inr (Or.inr (Or.inr (Or.inr (Or.inl h)))))))))))) (fun h => h.elim (fun h => (Or.inr (Or.inr (Or.inr (Or.inr (Or.inr (Or.inr (Or.inr (Or.inr (Or.inr (Or.inr (Or.inr (Or.inr (Or.inr (Or.inr (Or.inl h)))))))))))))))) (fun h => h.elim (fun h => (Or.inr (Or.inr (Or.inr (Or.inr (Or.inr (Or.inr (Or.inr (Or.inr (Or.inr (Or.inr (Or.inr (Or.inr (Or.inr (Or.inr (Or.inr (Or.inl h))))))))))))))))) (fun h => h.elim (fun h => (Or.inr (Or.inr (Or.inr (Or.inr (Or.inr (Or.inr (Or.inr (Or.inr (Or.inr (Or.inr (Or.inr (Or.inr (Or.inr (Or.inr (Or.inr (Or.inr (Or.inl h)))))))))))))))))) (fun h => h.elim (fun h => (Or.inr (Or.inr (Or.inr (Or.inr (Or.inr (Or.inr (Or.inr (Or.inr (Or.inr (Or.inr (Or.inr (Or.inr (Or.inr (Or.inr (Or.inr (Or.inr (Or.inr (Or.inl h))))))))))))))))))) (fun h => h.elim (fun h => (Or.inr (Or.inr (Or.inr (Or.inr (Or.inr (Or.inr (Or.inr (Or.inr (Or.inr (Or.inr (Or.inr (Or.inr (Or.inr (Or.inr (Or.inr (Or.inr (Or.inr (Or.inr (Or.inl h)))))))))))))))))))) (fun h => h.elim (fun h => (Or.inr (Or.inr (Or.inr (Or.inr (Or.inr (Or.inr (Or.inr (Or.inr (Or.inr (Or.inr (Or.inr (Or.inr (Or.inr (Or.inr (Or.inr (Or.inr (Or.inr (Or.inr (Or.inr (Or.inl h))))))))))))))))))))) (fun h => (Or.inr (Or.inr (Or.inr (Or.inr (Or.inr (Or.inr (Or.inr (Or.inr (Or.inr (Or.inr (Or.inr (Or.inr (Or.inr (Or.inr (Or.inr (Or.inr (Or.inr (Or.inr (Or.inr (Or.inr (Or.inr h)))))))))))))))))))))))))))))))))))))) h))
  exact mm_fr.ret hf F
def fw_X5_doAll (r1 : Nat) (q t i : Nat) : Prop := (q = 7 ∧ t = 14) ∨ (q = 7 ∧ t = 15) ∨ (q = 7 ∧ t = 17) ∨ (q = 7 ∧ t = 18) ∨ (q = 7 ∧ t = 19) ∨ (q = 8 ∧ t = 23 ∧ i = 2) ∨ (q = 8 ∧ t = 23 ∧ i = 4) ∨ (q = 8 ∧ t = 25) ∨ (q = 9 ∧ t = 26 ∧ i = 2) ∨ (q = 9 ∧ t = 26 ∧ i = 3) ∨ (q = 9 ∧ t = 26 ∧ i = 4) ∨ (q = 9 ∧ t = 26 ∧ i = 5) ∨ (q = r1 ∧ t = 0 ∧ i = 2) ∨ (q = r1 ∧ t = 0 ∧ i = 3) ∨ (q = r1 ∧ t = 0 ∧ i = 4) ∨ (q = r1 ∧ t = 0 ∧ i = 5) ∨ (q = r1 ∧ t = 0 ∧ i = 6) ∨ (q = r1 ∧ t = 0 ∧ i = 7) ∨ (q = r1 ∧ t = 2) ∨ (q = r1 ∧ t = 3) ∨ (q = r1 ∧ t = 6 ∧ i = 2) ∨ (q = r1 ∧ t = 6 ∧ i = 3) ∨ (q = r1 ∧ t = 6 ∧ i = 4) ∨ (q = r1 ∧ t = 6 ∧ i = 5) ∨ (q = r1 ∧ t = 6 ∧ i = 6) ∨ (q = r1 ∧ t = 6 ∧ i = 7) ∨ (q = r1 ∧ t = 6 ∧ i = 8) ∨ (q = r1 ∧ t = 7) ∨ (q = r1 ∧ t = 8)
theorem fr_X5_doAll_J81 (r1 : Nat) (rv : Int32) (σ1 : mm_M) (k22 : Int32 → mm_M → mm_R) (hk22 : ∀ (v2 : Int32) (σ : mm_M), k22 v2 σ = some (rv, σ1) → mm_fr (fw_X5_doAll r1) σ σ1) : ∀ (v2 : Int32) (v3 : Int32) (w0 : Int32) (σ : mm_M), fx_X5_doAll_J81 r1 k22 v2 v3 w0 σ = some (rv, σ1) → mm_fr (fw_X5_doAll r1) σ σ1 := by
  intro v2 v3 w0 σ hf
  rw [fx_X5_doAll_J81] at hf
  have F : mm_fr (fw_X5_doAll r1) σ σ := mm_fr.rf
  by_cases c_12 : v3 = (0 : Int32)
  · replace hf := mm_it c_12 hf
    obtain ⟨s_21, e_21, hf⟩ := mm_lt_ok hf
    have F := F.trans (mm_fr.u e_21 ((Or.inr (Or.inr (Or.inr (Or.inr (Or.inr (Or.inr (Or.inr (Or.inr (Or.inr (Or.inr (Or.inl ⟨rfl, rfl, rfl⟩)))))))))))))
    obtain ⟨s_22, e_22, hf⟩ := mm_lt_ok hf
    have F := F.trans (mm_fr.u e_22 ((Or.inr (Or.inr (Or.inr (Or.inr (Or.inr (Or.inr (Or.inr (Or.inr (Or.inr (Or.inr (Or.inr (Or.inl ⟨rfl, rfl, rfl⟩))))))))))))))
    obtain ⟨y_23, e_23, hf⟩ := mm_li_ok hf
    exact F.trans (hk22 y_23 s_22 hf)
  · replace hf := mm_if c_12 hf
    obtain ⟨r_13, s_13, e_13, hf⟩ := mm_bd_ok hf
    have F := F.trans (mm_fr.eq (fr_X10_isError w0 σ r_13 s_13 e_13))
    by_cases c_14 : r_13 = (0 : Int32)
    · replace hf := mm_it c_14 hf
      obtain ⟨s_15, e_15, hf⟩ := mm_lt_ok hf
      have F := F.trans (mm_fr.u e_15 ((Or.inr (Or.inr (Or.inr (Or.inr (Or.inr (Or.inr (Or.inr (Or.inr (Or.inr (Or.inl ⟨rfl, rfl, rfl⟩))))))))))))
      obtain ⟨s_16, e_16, hf⟩ := mm_lt_ok hf
      have F := F.trans (mm_fr.u e_16 ((Or.inr (Or.inr (Or.inr (Or.inr (Or.inr (Or.inr (Or.inr (Or.inr (Or.inl ⟨rfl, rfl, rfl⟩)))))))))))
      obtain ⟨y_17, e_17, hf⟩ := mm_li_ok hf
      exact F.trans (hk22 y_17 s_16 hf)
    · replace hf := mm_if c_14 hf
      obtain ⟨s_18, e_18, hf⟩ := mm_lt_ok hf
      have F := F.trans (mm_fr.u e_18 ((Or.inr (Or.inr (Or.inr (Or.inr (Or.inr (Or.inr (Or.inr (Or.inr (Or.inr (Or.inr (Or.inl ⟨rfl, rfl, rfl⟩)))))))))))))
      obtain ⟨s_19, e_19, hf⟩ := mm_lt_ok hf
      have F := F.trans (mm_fr.u e_19 ((Or.inr (Or.inr (Or.inr (Or.inr (Or.inr (Or.inr (Or.inr (Or.inr (Or.inr (Or.inr (Or.inr (Or.inl ⟨rfl, rfl, rfl⟩))))))))))))))
      obtain ⟨y_20, e_20, hf⟩ := mm_li_ok hf
      exact F.trans (hk22 y_20 s_19 hf)
theorem fr_X5_doAll_L22 (r1 : Nat) (rv : Int32) (σ1 : mm_M)  : ∀ (fu : Nat) (v2 : Int32) (σ : mm_M), fx_X5_doAll_L22 r1 fu v2 σ = some (rv, σ1) → mm_fr (fw_X5_doAll r1) σ σ1 := by
  intro fu
  induction fu with
  | zero =>
    intro v2 σ hf
    exact mm_no hf
  | succ fu ih =>
    intro v2 σ hf
    rw [fx_X5_doAll_L22] at hf
    have F : mm_fr (fw_X5_doAll r1) σ σ := mm_fr.rf
    by_cases c_5 : (60 : Int32) ≤ v2
    · replace hf := mm_it c_5 hf
      exact mm_fr.ret hf F
    · replace hf := mm_if c_5 hf
      by_cases c_6 : (σ 8 23 0 1) ≤ (σ 9 26 0 3)
      · replace hf := mm_it c_6 hf
        exact mm_fr.ret hf F
      · replace hf := mm_if c_6 hf
        obtain ⟨r_7, s_7, e_7, hf⟩ := mm_bd_ok hf
        have F := F.trans (mm_fr.eq (fr_X5_isFaulty  σ r_7 s_7 e_7))
        by_cases c_8 : r_7 = (0 : Int32)
        · replace hf := mm_it c_8 hf
          obtain ⟨r_9, s_9, e_9, hf⟩ := mm_bd_ok hf
          have F := F.trans ((fr_X6_read (s_7 9 26 0 3) s_7 r_9 s_9 e_9).mono (fun q t i h => (fun h => h.elim (fun h => (Or.inr (Or.inr (Or.inr (Or.inr (Or.inr (Or.inl h))))))) (fun h => h.elim (fun h => (Or.inr (Or.inr (Or.inr (Or.inr (Or.inr (Or.inr (Or.inl h)))))))) (fun h => (Or.inr (Or.inr (Or.inr (Or.inr (Or.inr (Or.inr (Or.inr (Or.inl h))))))))))) h))
          by_cases c_10 : r_9 = (0 : Int32)
          · replace hf := mm_it c_10 hf
            exact F.trans (fr_X5_doAll_J81 r1 rv σ1 (fun z0 z => fx_X5_doAll_L22 r1 fu z0 z) ih v2 r_9 (0 : Int32) s_9 hf)
          · replace hf := mm_if c_10 hf
            obtain ⟨r_11, s_11, e_11, hf⟩ := mm_bd_ok hf
            have F := F.trans ((fr_X5_obey_k25 r1 s_9 r_11 s_11 e_11).mono (fun q t i h => (fun h => h.elim (fun h => (Or.inl h)) (fun h => h.elim (fun h => (Or.inr (Or.inl h))) (fun h => h.elim (fun h => (Or.inr (Or.inr (Or.inl h)))) (fun h => h.elim (fun h => (Or.inr (Or.inr (Or.inr (Or.inl h))))) (fun h => h.elim (fun h => (Or.inr (Or.inr (Or.inr (Or.inr (Or.inl h)))))) (fun h => h.elim (fun h => (Or.inr (Or.inr (Or.inr (Or.inr (Or.inr (Or.inr (Or.inr (Or.inr (Or.inr (Or.inr (Or.inr (Or.inr (Or.inl h)))))))))))))) (fun h => h.elim (fun h => (Or.inr (Or.inr (Or.inr (Or.inr (Or.inr (Or.inr (Or.inr (Or.inr (Or.inr (Or.inr (Or.inr (Or.inr (Or.inr (Or.inl h))))))))))))))) (fun h => h.elim (fun h => (Or.inr (Or.inr (Or.inr (Or.inr (Or.inr (Or.inr (Or.inr (Or.inr (Or.inr (Or.inr (Or.inr (Or.inr (Or.inr (Or.inr (Or.inl h)))))))))))))))) (fun h => h.elim (fun h => (Or.inr (Or.inr (Or.inr (Or.inr (Or.inr (Or.inr (Or.inr (Or.inr (Or.inr (Or.inr (Or.inr (Or.inr (Or.inr (Or.inr (Or.inr (Or.inl h))))))))))))))))) (fun h => h.elim (fun h => (Or.inr (Or.inr (Or.inr (Or.inr (Or.inr (Or.inr (Or.inr (Or.inr (Or.inr (Or.inr (Or.inr (Or.inr (Or.inr (Or.inr (Or.inr (Or.inr (Or.inl h)))))))))))))))))) (fun h => h.elim (fun h => (Or.inr (Or.inr (Or.inr (Or.inr (Or.inr (Or.inr (Or.inr (Or.inr (Or.inr (Or.inr (Or.inr (Or.inr (Or.inr (Or.inr (Or.inr (Or.inr (Or.inr (Or.inl h))))))))))))))))))) (fun h => h.elim (fun h => (Or.inr (Or.inr (Or.inr (Or.inr (Or.inr (Or.inr (Or.inr (Or.inr (Or.inr (Or.inr (Or.inr (Or.inr (Or.inr (Or.inr (Or.inr (Or.inr (Or.inr (Or.inr (Or.inl h)))))))))))))))))))) (fun h => h.elim (fun h => (Or.inr (Or.inr (Or.inr (Or.inr (Or.inr (Or.inr (Or.inr (Or.inr (Or.inr (Or.inr (Or.inr (Or.inr (Or.inr (Or.inr (Or.inr (Or.inr (Or.inr (Or.inr (Or.inr (Or.inl h))))))))))))))))))))) (fun h => h.elim (fun h => (Or.inr (Or.inr (Or.inr (Or.inr (Or.inr (Or.inr (Or.inr (Or.inr (Or.inr (Or.inr (Or.inr (Or.inr (Or.inr (Or.inr (Or.inr (Or.inr (Or.inr (Or.inr (Or.inr (Or.inr (Or.inl h)))))))))))))))))))))) (fun h => h.elim (fun h => (Or.inr (Or.inr (Or.inr (Or.inr (Or.inr (Or.inr (Or.inr (Or.inr (Or.inr (Or.inr (Or.inr (Or.inr (Or.inr (Or.inr (Or.inr (Or.inr (Or.inr (Or.inr (Or.inr (Or.inr (Or.inr (Or.inl h))))))))))))))))))))))) (fun h => h.elim (fun h => (Or.inr (Or.inr (Or.inr (Or.inr (Or.inr (Or.inr (Or.inr (Or.inr (Or.inr (Or.inr (Or.inr (Or.inr (Or.inr (Or.inr (Or.inr (Or.inr (Or.inr (Or.inr (Or.inr (Or.inr (Or.inr (Or.inr (Or.inl h)))))))))))))))))))))))) (fun h => h.elim (fun h => (Or.inr (Or.inr (Or.inr (Or.inr (Or.inr (Or.inr (Or.inr (Or.inr (Or.inr (Or.inr (Or.inr (Or.inr (Or.inr (Or.inr (Or.inr (Or.inr (Or.inr (Or.inr (Or.inr (Or.inr (Or.inr (Or.inr (Or.inr (Or.inl h))))))))))))))))))))))))) (fun h => h.elim (fun h => (Or.inr (Or.inr (Or.inr (Or.inr (Or.inr (Or.inr (Or.inr (Or.inr (Or.inr (Or.inr (Or.inr (Or.inr (Or.inr (Or.inr (Or.inr (Or.inr (Or.inr (Or.inr (Or.inr (Or.inr (Or.inr (Or.inr (Or.inr (Or.inr (Or.inl h)))))))))))))))))))))))))) (fun h => h.elim (fun h => (Or.inr (Or.inr (Or.inr (Or.inr (Or.inr (Or.inr (Or.inr (Or.inr (Or.inr (Or.inr (Or.inr (Or.inr (Or.inr (Or.inr (Or.inr (Or.inr (Or.inr (Or.inr (Or.inr (Or.inr (Or.inr (Or.inr (Or.inr (Or.inr (Or.inr (Or.inl h))))))))))))))))))))))))))) (fun h => h.elim (fun h => (Or.inr (Or.inr (Or.inr (Or.inr (Or.inr (Or.inr (Or.inr (Or.inr (Or.inr (Or.inr (Or.inr (Or.inr (Or.inr (Or.inr (Or.inr (Or.inr (Or.inr (Or.inr (Or.inr (Or.inr (Or.inr (Or.inr (Or.inr (Or.inr (Or.inr (Or.inr (Or.inl h)))))))))))))))))))))))))))) (fun h => h.elim (fun h => (Or.inr (Or.inr (Or.inr (Or.inr (Or.inr (Or.inr (Or.inr (Or.inr (Or.inr (Or.inr (Or.inr (Or.inr (Or.inr (Or.inr (Or.inr (Or.inr (Or.inr (Or.inr (Or.inr (Or.inr (Or.inr (Or.inr (Or.inr (Or.inr (Or.inr (Or.inr (Or.inr (Or.inl h))))))))))))))))))))))))))))) (fun h => (Or.inr (Or.inr (Or.inr (Or.inr (Or.inr (Or.inr (Or.inr (Or.inr (Or.inr (Or.inr (Or.inr (Or.inr (Or.inr (Or.inr (Or.inr (Or.inr (Or.inr (Or.inr (Or.inr (Or.inr (Or.inr (Or.inr (Or.inr (Or.inr (Or.inr (Or.inr (Or.inr (Or.inr h)))))))))))))))))))))))))))))))))))))))))))))))))) h))
            exact F.trans (fr_X5_doAll_J81 r1 rv σ1 (fun z0 z => fx_X5_doAll_L22 r1 fu z0 z) ih v2 r_9 r_11 s_11 hf)
        · replace hf := mm_if c_8 hf
          exact mm_fr.ret hf F
theorem fr_X5_doAll (r1 : Nat) (σ : mm_M) (rv : Int32) (σ1 : mm_M) (hf : fx_X5_doAll r1 σ = some (rv, σ1)) : mm_fr (fw_X5_doAll r1) σ σ1 := by
  rw [fx_X5_doAll] at hf
  have F : mm_fr (fw_X5_doAll r1) σ σ := mm_fr.rf
  obtain ⟨s_1, e_1, hf⟩ := mm_lt_ok hf
  have F := F.trans (mm_fr.u e_1 ((Or.inr (Or.inr (Or.inr (Or.inr (Or.inr (Or.inr (Or.inr (Or.inr (Or.inl ⟨rfl, rfl, rfl⟩)))))))))))
  obtain ⟨s_2, e_2, hf⟩ := mm_lt_ok hf
  have F := F.trans (mm_fr.u e_2 ((Or.inr (Or.inr (Or.inr (Or.inr (Or.inr (Or.inr (Or.inr (Or.inr (Or.inr (Or.inl ⟨rfl, rfl, rfl⟩))))))))))))
  obtain ⟨s_3, e_3, hf⟩ := mm_lt_ok hf
  have F := F.trans (mm_fr.u e_3 ((Or.inr (Or.inr (Or.inr (Or.inr (Or.inr (Or.inr (Or.inr (Or.inr (Or.inr (Or.inr (Or.inl ⟨rfl, rfl, rfl⟩)))))))))))))
  obtain ⟨s_4, e_4, hf⟩ := mm_lt_ok hf
  have F := F.trans (mm_fr.u e_4 ((Or.inr (Or.inr (Or.inr (Or.inr (Or.inr (Or.inr (Or.inr (Or.inr (Or.inr (Or.inr (Or.inr (Or.inl ⟨rfl, rfl, rfl⟩))))))))))))))
  exact F.trans (fr_X5_doAll_L22 r1 rv σ1 mm_FU (0 : Int32) s_4 hf)
def fw_X10_fault (x1 : Int32) (q t i : Nat) : Prop := (q = 1 ∧ t = 0 ∧ i = 2) ∨ (q = 1 ∧ t = 0 ∧ i = 3) ∨ (q = 1 ∧ t = 0 ∧ i = 4) ∨ (q = 1 ∧ t = 0 ∧ i = 5) ∨ (q = 1 ∧ t = 0 ∧ i = 6) ∨ (q = 1 ∧ t = 0 ∧ i = 7) ∨ (q = 1 ∧ t = 1 ∧ i = 3) ∨ (q = 1 ∧ t = 2) ∨ (q = 1 ∧ t = 3) ∨ (q = 1 ∧ t = 4) ∨ (q = 1 ∧ t = 6 ∧ i = 2) ∨ (q = 1 ∧ t = 6 ∧ i = 3) ∨ (q = 1 ∧ t = 6 ∧ i = 4) ∨ (q = 1 ∧ t = 6 ∧ i = 5) ∨ (q = 1 ∧ t = 6 ∧ i = 6) ∨ (q = 1 ∧ t = 6 ∧ i = 7) ∨ (q = 1 ∧ t = 6 ∧ i = 8) ∨ (q = 1 ∧ t = 7) ∨ (q = 1 ∧ t = 8) ∨ (q = 7 ∧ t = 14) ∨ (q = 7 ∧ t = 15) ∨ (q = 7 ∧ t = 17) ∨ (q = 7 ∧ t = 18) ∨ (q = 7 ∧ t = 19) ∨ (q = 8 ∧ t = 23 ∧ i = 2) ∨ (q = 8 ∧ t = 23 ∧ i = 4) ∨ (q = 8 ∧ t = 25) ∨ (q = 9 ∧ t = 26 ∧ i = 2) ∨ (q = 9 ∧ t = 26 ∧ i = 3) ∨ (q = 9 ∧ t = 26 ∧ i = 4) ∨ (q = 9 ∧ t = 26 ∧ i = 5)
theorem fr_X10_fault (x1 : Int32) (σ : mm_M) (rv : Int32) (σ1 : mm_M) (hf : fx_X10_fault x1 σ = some (rv, σ1)) : mm_fr (fw_X10_fault x1) σ σ1 := by
  rw [fx_X10_fault] at hf
  have F : mm_fr (fw_X10_fault x1) σ σ := mm_fr.rf
  obtain ⟨r_1, s_1, e_1, hf⟩ := mm_bd_ok hf
  have F := F.trans (mm_fr.eq (fr_X10_isWithin x1 (0 : Int32) (2 : Int32) σ r_1 s_1 e_1))
  by_cases c_2 : r_1 = (0 : Int32)
  · replace hf := mm_it c_2 hf
    exact mm_fr.ret hf F
  · replace hf := mm_if c_2 hf
    obtain ⟨r_3, s_3, e_3, hf⟩ := mm_bd_ok hf
    have F := F.trans ((fr_X10_freshTrial  s_1 r_3 s_3 e_3).mono (fun q t i h => (fun h => h.elim (fun h => (Or.inl h)) (fun h => h.elim (fun h => (Or.inr (Or.inl h))) (fun h => h.elim (fun h => (Or.inr (Or.inr (Or.inl h)))) (fun h => h.elim (fun h => (Or.inr (Or.inr (Or.inr (Or.inl h))))) (fun h => h.elim (fun h => (Or.inr (Or.inr (Or.inr (Or.inr (Or.inl h)))))) (fun h => h.elim (fun h => (Or.inr (Or.inr (Or.inr (Or.inr (Or.inr (Or.inl h))))))) (fun h => h.elim (fun h => (Or.inr (Or.inr (Or.inr (Or.inr (Or.inr (Or.inr (Or.inl h)))))))) (fun h => h.elim (fun h => (Or.inr (Or.inr (Or.inr (Or.inr (Or.inr (Or.inr (Or.inr (Or.inl h))))))))) (fun h => h.elim (fun h => (Or.inr (Or.inr (Or.inr (Or.inr (Or.inr (Or.inr (Or.inr (Or.inr (Or.inl h)))))))))) (fun h => h.elim (fun h => (Or.inr (Or.inr (Or.inr (Or.inr (Or.inr (Or.inr (Or.inr (Or.inr (Or.inr (Or.inl h))))))))))) (fun h => h.elim (fun h => (Or.inr (Or.inr (Or.inr (Or.inr (Or.inr (Or.inr (Or.inr (Or.inr (Or.inr (Or.inr (Or.inl h)))))))))))) (fun h => h.elim (fun h => (Or.inr (Or.inr (Or.inr (Or.inr (Or.inr (Or.inr (Or.inr (Or.inr (Or.inr (Or.inr (Or.inr (Or.inl h))))))))))))) (fun h => h.elim (fun h => (Or.inr (Or.inr (Or.inr (Or.inr (Or.inr (Or.inr (Or.inr (Or.inr (Or.inr (Or.inr (Or.inr (Or.inr (Or.inl h)))))))))))))) (fun h => h.elim (fun h => (Or.inr (Or.inr (Or.inr (Or.inr (Or.inr (Or.inr (Or.inr (Or.inr (Or.inr (Or.inr (Or.inr (Or.inr (Or.inr (Or.inl h))))))))))))))) (fun h => h.elim (fun h => (Or.inr (Or.inr (Or.inr (Or.inr (Or.inr (Or.inr (Or.inr (Or.inr (Or.inr (Or.inr (Or.inr (Or.inr (Or.inr (Or.inr (Or.inl h)))))))))))))))) (fun h => h.elim (fun h => (Or.inr (Or.inr (Or.inr (Or.inr (Or.inr (Or.inr (Or.inr (Or.inr (Or.inr (Or.inr (Or.inr (Or.inr (Or.inr (Or.inr (Or.inr (Or.inl h))))))))))))))))) (fun h => h.elim (fun h => (Or.inr (Or.inr (Or.inr (Or.inr (Or.inr (Or.inr (Or.inr (Or.inr (Or.inr (Or.inr (Or.inr (Or.inr (Or.inr (Or.inr (Or.inr (Or.inr (Or.inl h)))))))))))))))))) (fun h => h.elim (fun h => (Or.inr (Or.inr (Or.inr (Or.inr (Or.inr (Or.inr (Or.inr (Or.inr (Or.inr (Or.inr (Or.inr (Or.inr (Or.inr (Or.inr (Or.inr (Or.inr (Or.inr (Or.inl h))))))))))))))))))) (fun h => (Or.inr (Or.inr (Or.inr (Or.inr (Or.inr (Or.inr (Or.inr (Or.inr (Or.inr (Or.inr (Or.inr (Or.inr (Or.inr (Or.inr (Or.inr (Or.inr (Or.inr (Or.inr (Or.inl h)))))))))))))))))))))))))))))))))))))) h))
    obtain ⟨r_4, s_4, e_4, hf⟩ := mm_bd_ok hf
    have F := F.trans ((fr_X5_doAll 1 s_3 r_4 s_4 e_4).mono (fun q t i h => (fun h => h.elim (fun h => (Or.inr (Or.inr (Or.inr (Or.inr (Or.inr (Or.inr (Or.inr (Or.inr (Or.inr (Or.inr (Or.inr (Or.inr (Or.inr (Or.inr (Or.inr (Or.inr (Or.inr (Or.inr (Or.inr (Or.inl h))))))))))))))))))))) (fun h => h.elim (fun h => (Or.inr (Or.inr (Or.inr (Or.inr (Or.inr (Or.inr (Or.inr (Or.inr (Or.inr (Or.inr (Or.inr (Or.inr (Or.inr (Or.inr (Or.inr (Or.inr (Or.inr (Or.inr (Or.inr (Or.inr (Or.inl h)))))))))))))))))))))) (fun h => h.elim (fun h => (Or.inr (Or.inr (Or.inr (Or.inr (Or.inr (Or.inr (Or.inr (Or.inr (Or.inr (Or.inr (Or.inr (Or.inr (Or.inr (Or.inr (Or.inr (Or.inr (Or.inr (Or.inr (Or.inr (Or.inr (Or.inr (Or.inl h))))))))))))))))))))))) (fun h => h.elim (fun h => (Or.inr (Or.inr (Or.inr (Or.inr (Or.inr (Or.inr (Or.inr (Or.inr (Or.inr (Or.inr (Or.inr (Or.inr (Or.inr (Or.inr (Or.inr (Or.inr (Or.inr (Or.inr (Or.inr (Or.inr (Or.inr (Or.inr (Or.inl h)))))))))))))))))))))))) (fun h => h.elim (fun h => (Or.inr (Or.inr (Or.inr (Or.inr (Or.inr (Or.inr (Or.inr (Or.inr (Or.inr (Or.inr (Or.inr (Or.inr (Or.inr (Or.inr (Or.inr (Or.inr (Or.inr (Or.inr (Or.inr (Or.inr (Or.inr (Or.inr (Or.inr (Or.inl h))))))))))))))))))))))))) (fun h => h.elim (fun h => (Or.inr (Or.inr (Or.inr (Or.inr (Or.inr (Or.inr (Or.inr (Or.inr (Or.inr (Or.inr (Or.inr (Or.inr (Or.inr (Or.inr (Or.inr (Or.inr (Or.inr (Or.inr (Or.inr (Or.inr (Or.inr (Or.inr (Or.inr (Or.inr (Or.inl h)))))))))))))))))))))))))) (fun h => h.elim (fun h => (Or.inr (Or.inr (Or.inr (Or.inr (Or.inr (Or.inr (Or.inr (Or.inr (Or.inr (Or.inr (Or.inr (Or.inr (Or.inr (Or.inr (Or.inr (Or.inr (Or.inr (Or.inr (Or.inr (Or.inr (Or.inr (Or.inr (Or.inr (Or.inr (Or.inr (Or.inl h))))))))))))))))))))))))))) (fun h => h.elim (fun h => (Or.inr (Or.inr (Or.inr (Or.inr (Or.inr (Or.inr (Or.inr (Or.inr (Or.inr (Or.inr (Or.inr (Or.inr (Or.inr (Or.inr (Or.inr (Or.inr (Or.inr (Or.inr (Or.inr (Or.inr (Or.inr (Or.inr (Or.inr (Or.inr (Or.inr (Or.inr (Or.inl h)))))))))))))))))))))))))))) (fun h => h.elim (fun h => (Or.inr (Or.inr (Or.inr (Or.inr (Or.inr (Or.inr (Or.inr (Or.inr (Or.inr (Or.inr (Or.inr (Or.inr (Or.inr (Or.inr (Or.inr (Or.inr (Or.inr (Or.inr (Or.inr (Or.inr (Or.inr (Or.inr (Or.inr (Or.inr (Or.inr (Or.inr (Or.inr (Or.inl h))))))))))))))))))))))))))))) (fun h => h.elim (fun h => (Or.inr (Or.inr (Or.inr (Or.inr (Or.inr (Or.inr (Or.inr (Or.inr (Or.inr (Or.inr (Or.inr (Or.inr (Or.inr (Or.inr (Or.inr (Or.inr (Or.inr (Or.inr (Or.inr (Or.inr (Or.inr (Or.inr (Or.inr (Or.inr (Or.inr (Or.inr (Or.inr (Or.inr (Or.inl h)))))))))))))))))))))))))))))) (fun h => h.elim (fun h => (Or.inr (Or.inr (Or.inr (Or.inr (Or.inr (Or.inr (Or.inr (Or.inr (Or.inr (Or.inr (Or.inr (Or.inr (Or.inr (Or.inr (Or.inr (Or.inr (Or.inr (Or.inr (Or.inr (Or.inr (Or.inr (Or.inr (Or.inr (Or.inr (Or.inr (Or.inr (Or.inr (Or.inr (Or.inr (Or.inl h))))))))))))))))))))))))))))))) (fun h => h.elim (fun h => (Or.inr (Or.inr (Or.inr (Or.inr (Or.inr (Or.inr (Or.inr (Or.inr (Or.inr (Or.inr (Or.inr (Or.inr (Or.inr (Or.inr (Or.inr (Or.inr (Or.inr (Or.inr (Or.inr (Or.inr (Or.inr (Or.inr (Or.inr (Or.inr (Or.inr (Or.inr (Or.inr (Or.inr (Or.inr (Or.inr h))))))))))))))))))))))))))))))) (fun h => h.elim (fun h => (Or.inl h)) (fun h => h.elim (fun h => (Or.inr (Or.inl h))) (fun h => h.elim (fun h => (Or.inr (Or.inr (Or.inl h)))) (fun h => h.elim (fun h => (Or.inr (Or.inr (Or.inr (Or.inl h))))) (fun h => h.elim (fun h => (Or.inr (Or.inr (Or.inr (Or.inr (Or.inl h)))))) (fun h => h.elim (fun h => (Or.inr (Or.inr (Or.inr (Or.inr (Or.inr (Or.inl h))))))) (fun h => h.elim (fun h => (Or.inr (Or.inr (Or.inr (Or.inr (Or.inr (Or.inr (Or.inr (Or.inl h))))))))) (fun h => h.elim (fun h => (Or.inr (Or.inr (Or.inr (Or.inr (Or.inr (Or.inr (Or.inr (Or.inr (Or.inl h)))))))))) (fun h => h.elim (fun h => (Or.inr (Or.inr (Or.inr (Or.inr (Or.inr (Or.inr (Or.inr (Or.inr (Or.inr (Or.inr (Or.inl h)))))))))))) (fun h => h.elim (fun h => (Or.inr (Or.inr (Or.inr (Or.inr (Or.inr (Or.inr (Or.inr (Or.inr (Or.inr (Or.inr (Or.inr (Or.inl h))))))))))))) (fun h => h.elim (fun h => (Or.inr (Or.inr (Or.inr (Or.inr (Or.inr (Or.inr (Or.inr (Or.inr (Or.inr (Or.inr (Or.inr (Or.inr (Or.inl h)))))))))))))) (fun h => h.elim (fun h => (Or.inr (Or.inr (Or.inr (Or.inr (Or.inr (Or.inr (Or.inr (Or.inr (Or.inr (Or.inr (Or.inr (Or.inr (Or.inr (Or.inl h))))))))))))))) (fun h => h.elim (fun h => (Or.inr (Or.inr (Or.inr (Or.inr (Or.inr (Or.inr (Or.inr (Or.inr (Or.inr (Or.inr (Or.inr (Or.inr (Or.inr (Or.inr (Or.inl h)))))))))))))))) (fun h => h.elim (fun h => (Or.inr (Or.inr (Or.inr (Or.inr (Or.inr (Or.inr (Or.inr (Or.inr (Or.inr (Or.inr (Or.inr (Or.inr (Or.inr (Or.inr (Or.inr (Or.inl h))))))))))))))))) (fun h => h.elim (fun h => (Or.inr (Or.inr (Or.inr (Or.inr (Or.inr (Or.inr (Or.inr (Or.inr (Or.inr (Or.inr (Or.inr (Or.inr (Or.inr (Or.inr (Or.inr (Or.inr (Or.inl h)))))))))))))))))) (fun h => h.elim (fun h => (Or.inr (Or.inr (Or.inr (Or.inr (Or.inr (Or.inr (Or.inr (Or.inr (Or.inr (Or.inr (Or.inr (Or.inr (Or.inr (Or.inr (Or.inr (Or.inr (Or.inr (Or.inl h))))))))))))))))))) (fun h => (Or.inr (Or.inr (Or.inr (Or.inr (Or.inr (Or.inr (Or.inr (Or.inr (Or.inr (Or.inr (Or.inr (Or.inr (Or.inr (Or.inr (Or.inr (Or.inr (Or.inr (Or.inr (Or.inl h)))))))))))))))))))))))))))))))))))))))))))))))) h))
    obtain ⟨r_5, s_5, e_5, hf⟩ := mm_bd_ok hf
    have F := F.trans (mm_fr.eq (fr_X5_isFaulty  s_4 r_5 s_5 e_5))
    by_cases c_6 : r_5 = (0 : Int32)
    · replace hf := mm_it c_6 hf
      exact mm_fr.ret hf F
    · replace hf := mm_if c_6 hf
      by_cases c_7 : x1 = (0 : Int32)
      · replace hf := mm_it c_7 hf
        exact mm_fr.ret hf F
      replace hf := mm_if c_7 hf
      by_cases c_8 : x1 = (1 : Int32)
      · replace hf := mm_it c_8 hf
        exact mm_fr.ret hf F
      replace hf := mm_if c_8 hf
      exact mm_fr.ret hf F
def fw_X10_play  (q t i : Nat) : Prop := (q = 0 ∧ t = 0 ∧ i = 2) ∨ (q = 0 ∧ t = 0 ∧ i = 3) ∨ (q = 0 ∧ t = 0 ∧ i = 4) ∨ (q = 0 ∧ t = 0 ∧ i = 5) ∨ (q = 0 ∧ t = 0 ∧ i = 6) ∨ (q = 0 ∧ t = 0 ∧ i = 7) ∨ (q = 0 ∧ t = 1 ∧ i = 3) ∨ (q = 0 ∧ t = 2) ∨ (q = 0 ∧ t = 3) ∨ (q = 0 ∧ t = 4) ∨ (q = 0 ∧ t = 6 ∧ i = 2) ∨ (q = 0 ∧ t = 6 ∧ i = 3) ∨ (q = 0 ∧ t = 6 ∧ i = 4) ∨ (q = 0 ∧ t = 6 ∧ i = 5) ∨ (q = 0 ∧ t = 6 ∧ i = 6) ∨ (q = 0 ∧ t = 6 ∧ i = 7) ∨ (q = 0 ∧ t = 6 ∧ i = 8) ∨ (q = 0 ∧ t = 7) ∨ (q = 0 ∧ t = 8) ∨ (q = 1 ∧ t = 0 ∧ i = 2) ∨ (q = 1 ∧ t = 0 ∧ i = 3) ∨ (q = 1 ∧ t = 0 ∧ i = 4) ∨ (q = 1 ∧ t = 0 ∧ i = 5) ∨ (q = 1 ∧ t = 0 ∧ i = 6) ∨ (q = 1 ∧ t = 0 ∧ i = 7) ∨ (q = 1 ∧ t = 1 ∧ i = 3) ∨ (q = 1 ∧ t = 2) ∨ (q = 1 ∧ t = 3) ∨ (q = 1 ∧ t = 4) ∨ (q = 1 ∧ t = 6 ∧ i = 2) ∨ (q = 1 ∧ t = 6 ∧ i = 3) ∨ (q = 1 ∧ t = 6 ∧ i = 4) ∨ (q = 1 ∧ t = 6 ∧ i = 5) ∨ (q = 1 ∧ t = 6 ∧ i = 6) ∨ (q = 1 ∧ t = 6 ∧ i = 7) ∨ (q = 1 ∧ t = 6 ∧ i = 8) ∨ (q = 1 ∧ t = 7) ∨ (q = 1 ∧ t = 8) ∨ (q = 6 ∧ t = 10 ∧ i = 1) ∨ (q = 6 ∧ t = 11) ∨ (q = 7 ∧ t = 14) ∨ (q = 7 ∧ t = 15) ∨ (q = 7 ∧ t = 17) ∨ (q = 7 ∧ t = 18) ∨ (q = 7 ∧ t = 19) ∨ (q = 8 ∧ t = 23 ∧ i = 2) ∨ (q = 8 ∧ t = 23 ∧ i = 4) ∨ (q = 8 ∧ t = 25) ∨ (q = 9 ∧ t = 26 ∧ i = 2) ∨ (q = 9 ∧ t = 26 ∧ i = 3) ∨ (q = 9 ∧ t = 26 ∧ i = 4) ∨ (q = 9 ∧ t = 26 ∧ i = 5) ∨ (q < 6 ∧ t = 0 ∧ i = 2) ∨ (q < 6 ∧ t = 0 ∧ i = 3) ∨ (q < 6 ∧ t = 0 ∧ i = 4) ∨ (q < 6 ∧ t = 0 ∧ i = 5) ∨ (q < 6 ∧ t = 0 ∧ i = 6) ∨ (q < 6 ∧ t = 0 ∧ i = 7) ∨ (q < 6 ∧ t = 1 ∧ i = 3) ∨ (q < 6 ∧ t = 2) ∨ (q < 6 ∧ t = 3) ∨ (q < 6 ∧ t = 4) ∨ (q < 6 ∧ t = 6 ∧ i = 2) ∨ (q < 6 ∧ t = 6 ∧ i = 3) ∨ (q < 6 ∧ t = 6 ∧ i = 4) ∨ (q < 6 ∧ t = 6 ∧ i = 5) ∨ (q < 6 ∧ t = 6 ∧ i = 6) ∨ (q < 6 ∧ t = 6 ∧ i = 7) ∨ (q < 6 ∧ t = 6 ∧ i = 8) ∨ (q < 6 ∧ t = 7) ∨ (q < 6 ∧ t = 8)
theorem fr_X10_play_J34  (rv : Int32) (σ1 : mm_M)  : ∀ (w1 : Int32) (σ : mm_M), fx_X10_play_J34  w1 σ = some (rv, σ1) → mm_fr (fw_X10_play) σ σ1 := by
  intro w1 σ hf
  rw [fx_X10_play_J34] at hf
  have F : mm_fr (fw_X10_play) σ σ := mm_fr.rf
  obtain ⟨r_5, s_5, e_5, hf⟩ := mm_bd_ok hf
  have F := F.trans ((fr_X10_keep w1 σ r_5 s_5 e_5).mono (fun q t i h => (fun h => h.elim (fun h => (Or.inl h)) (fun h => h.elim (fun h => (Or.inr (Or.inl h))) (fun h => h.elim (fun h => (Or.inr (Or.inr (Or.inl h)))) (fun h => h.elim (fun h => (Or.inr (Or.inr (Or.inr (Or.inl h))))) (fun h => h.elim (fun h => (Or.inr (Or.inr (Or.inr (Or.inr (Or.inl h)))))) (fun h => h.elim (fun h => (Or.inr (Or.inr (Or.inr (Or.inr (Or.inr (Or.inl h))))))) (fun h => h.elim (fun h => (Or.inr (Or.inr (Or.inr (Or.inr (Or.inr (Or.inr (Or.inl h)))))))) (fun h => h.elim (fun h => (Or.inr (Or.inr (Or.inr (Or.inr (Or.inr (Or.inr (Or.inr (Or.inl h))))))))) (fun h => h.elim (fun h => (Or.inr (Or.inr (Or.inr (Or.inr (Or.inr (Or.inr (Or.inr (Or.inr (Or.inl h)))))))))) (fun h => h.elim (fun h => (Or.inr (Or.inr (Or.inr (Or.inr (Or.inr (Or.inr (Or.inr (Or.inr (Or.inr (Or.inl h))))))))))) (fun h => h.elim (fun h => (Or.inr (Or.inr (Or.inr (Or.inr (Or.inr (Or.inr (Or.inr (Or.inr (Or.inr (Or.inr (Or.inl h)))))))))))) (fun h => h.elim (fun h => (Or.inr (Or.inr (Or.inr (Or.inr (Or.inr (Or.inr (Or.inr (Or.inr (Or.inr (Or.inr (Or.inr (Or.inl h))))))))))))) (fun h => h.elim (fun h => (Or.inr (Or.inr (Or.inr (Or.inr (Or.inr (Or.inr (Or.inr (Or.inr (Or.inr (Or.inr (Or.inr (Or.inr (Or.inl h)))))))))))))) (fun h => h.elim (fun h => (Or.inr (Or.inr (Or.inr (Or.inr (Or.inr (Or.inr (Or.inr (Or.inr (Or.inr (Or.inr (Or.inr (Or.inr (Or.inr (Or.inl h))))))))))))))) (fun h => h.elim (fun h => (Or.inr (Or.inr (Or.inr (Or.inr (Or.inr (Or.inr (Or.inr (Or.inr (Or.inr (Or.inr (Or.inr (Or.inr (Or.inr (Or.inr (Or.inl h)))))))))))))))) (fun h => h.elim (fun h => (Or.inr (Or.inr (Or.inr (Or.inr (Or.inr (Or.inr (Or.inr (Or.inr (Or.inr (Or.inr (Or.inr (Or.inr (Or.inr (Or.inr (Or.inr (Or.inl h))))))))))))))))) (fun h => h.elim (fun h => (Or.inr (Or.inr (Or.inr (Or.inr (Or.inr (Or.inr (Or.inr (Or.inr (Or.inr (Or.inr (Or.inr (Or.inr (Or.inr (Or.inr (Or.inr (Or.inr (Or.inl h)))))))))))))))))) (fun h => h.elim (fun h => (Or.inr (Or.inr (Or.inr (Or.inr (Or.inr (Or.inr (Or.inr (Or.inr (Or.inr (Or.inr (Or.inr (Or.inr (Or.inr (Or.inr (Or.inr (Or.inr (Or.inr (Or.inl h))))))))))))))))))) (fun h => h.elim (fun h => (Or.inr (Or.inr (Or.inr (Or.inr (Or.inr (Or.inr (Or.inr (Or.inr (Or.inr (Or.inr (Or.inr (Or.inr (Or.inr (Or.inr (Or.inr (Or.inr (Or.inr (Or.inr (Or.inl h)))))))))))))))))))) (fun h => h.elim (fun h => (Or.inr (Or.inr (Or.inr (Or.inr (Or.inr (Or.inr (Or.inr (Or.inr (Or.inr (Or.inr (Or.inr (Or.inr (Or.inr (Or.inr (Or.inr (Or.inr (Or.inr (Or.inr (Or.inr (Or.inr (Or.inr (Or.inr (Or.inr (Or.inr (Or.inr (Or.inr (Or.inr (Or.inr (Or.inr (Or.inr (Or.inr (Or.inr (Or.inr (Or.inr (Or.inr (Or.inr (Or.inr (Or.inr (Or.inl h)))))))))))))))))))))))))))))))))))))))) (fun h => h.elim (fun h => (Or.inr (Or.inr (Or.inr (Or.inr (Or.inr (Or.inr (Or.inr (Or.inr (Or.inr (Or.inr (Or.inr (Or.inr (Or.inr (Or.inr (Or.inr (Or.inr (Or.inr (Or.inr (Or.inr (Or.inr (Or.inr (Or.inr (Or.inr (Or.inr (Or.inr (Or.inr (Or.inr (Or.inr (Or.inr (Or.inr (Or.inr (Or.inr (Or.inr (Or.inr (Or.inr (Or.inr (Or.inr (Or.inr (Or.inr (Or.inl h))))))))))))))))))))))))))))))))))))))))) (fun h => h.elim (fun h => (Or.inr (Or.inr (Or.inr (Or.inr (Or.inr (Or.inr (Or.inr (Or.inr (Or.inr (Or.inr (Or.inr (Or.inr (Or.inr (Or.inr (Or.inr (Or.inr (Or.inr (Or.inr (Or.inr (Or.inr (Or.inr (Or.inr (Or.inr (Or.inr (Or.inr (Or.inr (Or.inr (Or.inr (Or.inr (Or.inr (Or.inr (Or.inr (Or.inr (Or.inr (Or.inr (Or.inr (Or.inr (Or.inr (Or.inr (Or.inr (Or.inr (Or.inr (Or.inr (Or.inr (Or.inr (Or.inr (Or.inr (Or.inr (Or.inr (Or.inr (Or.inr (Or.inr (Or.inl h)))))))))))))))))))))))))))))))))))))))))))))))))))))) (fun h => h.elim (fun h => (Or.inr (Or.inr (Or.inr (Or.inr (Or.inr (Or.inr (Or.inr (Or.inr (Or.inr (Or.inr (Or.inr (Or.inr (Or.inr (Or.inr (Or.inr (Or.inr (Or.inr (Or.inr (Or.inr (Or.inr (Or.inr (Or.inr (Or.inr (Or.inr (Or.inr (Or.inr (Or.inr (Or.inr (Or.inr (Or.inr (Or.inr (Or.inr (Or.inr (Or.inr (Or.inr (Or.inr (Or.inr (Or.inr (Or.inr (Or.inr (Or.inr (Or.inr (Or.inr (Or.inr (Or.inr (Or.inr (Or.inr (Or.inr (Or.inr (Or.inr (Or.inr (Or.inr (Or.inr (Or.inl h))))))))))))))))))))))))))))))))))))))))))))))))))))))) (fun h => h.elim (fun h => (Or.inr (Or.inr (Or.inr (Or.inr (Or.inr (Or.inr (Or.inr (Or.inr (Or.inr (Or.inr (Or.inr (Or.inr (Or.inr (Or.inr (Or.inr (Or.inr (Or.inr (Or.inr (Or.inr (Or.inr (Or.inr (Or.inr (Or.inr (Or.inr (Or.inr (Or.inr (Or.inr (Or.inr (Or.inr (Or.inr (Or.inr (Or.inr (Or.inr (Or.inr (Or.inr (Or.inr (Or.inr (Or.inr (Or.inr (Or.inr (Or.inr (Or.inr (Or.inr (Or.inr (Or.inr (Or.inr (Or.inr (Or.inr (Or.inr (Or.inr (Or.inr (Or.inr (Or.inr (Or.inr (Or.inl h)))))))))))))))))))))))))))))))))))))))))))))))))))))))) (fun h => h.elim (fun h => (Or.inr (Or.inr (Or.inr (Or.inr (Or.inr (Or.inr (Or.inr (Or.inr (Or.inr (Or.inr (Or.inr (Or.inr (Or.inr (Or.inr (Or.inr (Or.inr (Or.inr (Or.inr (Or.inr (Or.inr (Or.inr (Or.inr (Or.inr (Or.inr (Or.inr (Or.inr (Or.inr (Or.inr (Or.inr (Or.inr (Or.inr (Or.inr (Or.inr (Or.inr (Or.inr (Or.inr (Or.inr (Or.inr (Or.inr (Or.inr (Or.inr (Or.inr (Or.inr (Or.inr (Or.inr (Or.inr (Or.inr (Or.inr (Or.inr (Or.inr (Or.inr (Or.inr (Or.inr (Or.inr (Or.inr (Or.inl h))))))))))))))))))))))))))))))))))))))))))))))))))))))))) (fun h => h.elim (fun h => (Or.inr (Or.inr (Or.inr (Or.inr (Or.inr (Or.inr (Or.inr (Or.inr (Or.inr (Or.inr (Or.inr (Or.inr (Or.inr (Or.inr (Or.inr (Or.inr (Or.inr (Or.inr (Or.inr (Or.inr (Or.inr (Or.inr (Or.inr (Or.inr (Or.inr (Or.inr (Or.inr (Or.inr (Or.inr (Or.inr (Or.inr (Or.inr (Or.inr (Or.inr (Or.inr (Or.inr (Or.inr (Or.inr (Or.inr (Or.inr (Or.inr (Or.inr (Or.inr (Or.inr (Or.inr (Or.inr (Or.inr (Or.inr (Or.inr (Or.inr (Or.inr (Or.inr (Or.inr (Or.inr (Or.inr (Or.inr (Or.inl h)))))))))))))))))))))))))))))))))))))))))))))))))))))))))) (fun h => h.elim (fun h => (Or.inr (Or.inr (Or.inr (Or.inr (Or.inr (Or.inr (Or.inr (Or.inr (Or.inr (Or.inr (Or.inr (Or.inr (Or.inr (Or.inr (Or.inr (Or.inr (Or.inr (Or.inr (Or.inr (Or.inr (Or.inr (Or.inr (Or.inr (Or.inr (Or.inr (Or.inr (Or.inr (Or.inr (Or.inr (Or.inr (Or.inr (Or.inr (Or.inr (Or.inr (Or.inr (Or.inr (Or.inr (Or.inr (Or.inr (Or.inr (Or.inr (Or.inr (Or.inr (Or.inr (Or.inr (Or.inr (Or.inr (Or.inr (Or.inr (Or.inr (Or.inr (Or.inr (Or.inr (Or.inr (Or.inr (Or.inr (Or.inr (Or.inl h))))))))))))))))))))))))))))))))))))))))))))))))))))))))))) (fun h => h.elim (fun h => (Or.inr (Or.inr (Or.inr (Or.inr (Or.inr (Or.inr (Or.inr (Or.inr (Or.inr (Or.inr (Or.inr (Or.inr (Or.inr (Or.inr (Or.inr (Or.inr (Or.inr (Or.inr (Or.inr (Or.inr (Or.inr (Or.inr (Or.inr (Or.inr (Or.inr (Or.inr (Or.inr (Or.inr (Or.inr (Or.inr (Or.inr (Or.inr (Or.inr (Or.inr (Or.inr (Or.inr (Or.inr (Or.inr (Or.inr (Or.inr (Or.inr (Or.inr (Or.inr (Or.inr (Or.inr (Or.inr (Or.inr (Or.inr (Or.inr (Or.inr (Or.inr (Or.inr (Or.inr (Or.inr (Or.inr (Or.inr (Or.inr (Or.inr (Or.inl h)))))))))))))))))))))))))))))))))))))))))))))))))))))))))))) (fun h => h.elim (fun h => (Or.inr (Or.inr (Or.inr (Or.inr (Or.inr (Or.inr (Or.inr (Or.inr (Or.inr (Or.inr (Or.inr (Or.inr (Or.inr (Or.inr (Or.inr (Or.inr (Or.inr (Or.inr (Or.inr (Or.inr (Or.inr (Or.inr (Or.inr (Or.inr (Or.inr (Or.inr (Or.inr (Or.inr (Or.inr (Or.inr (Or.inr (Or.inr (Or.inr (Or.inr (Or.inr (Or.inr (Or.inr (Or.inr (Or.inr (Or.inr (Or.inr (Or.inr (Or.inr (Or.inr (Or.inr (Or.inr (Or.inr (Or.inr (Or.inr (Or.inr (Or.inr (Or.inr (Or.inr (Or.inr (Or.inr (Or.inr (Or.inr (Or.inr (Or.inr (Or.inl h))))))))))))))))))))))))))))))))))))))))))))))))))))))))))))) (fun h => h.elim (fun h => (Or.inr (Or.inr (Or.inr (Or.inr (Or.inr (Or.inr (Or.inr (Or.inr (Or.inr (Or.inr (Or.inr (Or.inr (Or.inr (Or.inr (Or.inr (Or.inr (Or.inr (Or.inr (Or.inr (Or.inr (Or.inr (Or.inr (Or.inr (Or.inr (Or.inr (Or.inr (Or.inr (Or.inr (Or.inr (Or.inr (Or.inr (Or.inr (Or.inr (Or.inr (Or.inr (Or.inr (Or.inr (Or.inr (Or.inr (Or.inr (Or.inr (Or.inr (Or.inr (Or.inr (Or.inr (Or.inr (Or.inr (Or.inr (Or.inr (Or.inr (Or.inr (Or.inr (Or.inr (Or.inr (Or.inr (Or.inr (Or.inr (Or.inr (Or.inr (Or.inr (Or.inl h)))))))))))))))))))))))))))))))))))))))))))))))))))))))))))))) (fun h => h.elim (fun h => (Or.inr (Or.inr (Or.inr (Or.inr (Or.inr (Or.inr (Or.inr (Or.inr (Or.inr (Or.inr (Or.inr (Or.inr (Or.inr (Or.inr (Or.inr (Or.inr (Or.inr (Or.inr (Or.inr (Or.inr (Or.inr (Or.inr (Or.inr (Or.inr (Or.inr (Or.inr (Or.inr (Or.inr (Or.inr (Or.inr (Or.inr (Or.inr (Or.inr (Or.inr (Or.inr (Or.inr (Or.inr (Or.inr (Or.inr (Or.inr (Or.inr (Or.inr (Or.inr (Or.inr (Or.inr (Or.inr (Or.inr (Or.inr (Or.inr (Or.inr (Or.inr (Or.inr (Or.inr (Or.inr (Or.inr (Or.inr (Or.inr (Or.inr (Or.inr (Or.inr (Or.inr (Or.inl h))))))))))))))))))))))))))))))))))))))))))))))))))))))))))))))) (fun h => h.elim (fun h => (Or.inr (Or.inr (Or.inr (Or.inr (Or.inr (Or.inr (Or.inr (Or.inr (Or.inr (Or.inr (Or.inr (Or.inr (Or.inr (Or.inr (Or.inr (Or.inr (Or.inr (Or.inr (Or.inr (Or.inr (Or.inr (Or.inr (Or.inr (Or.inr (Or.inr (Or.inr (Or.inr (Or.inr (Or.inr (Or.inr (Or.inr (Or.inr (Or.inr (Or.inr (Or.inr (Or.inr (Or.inr (Or.inr (Or.inr (Or.inr (Or.inr (Or.inr (Or.inr (Or.inr (Or.inr (Or.inr (Or.inr (Or.inr (Or.inr (Or.inr (Or.inr (Or.inr (Or.inr (Or.inr (Or.inr (Or.inr (Or.inr (Or.inr (Or.inr (Or.inr (Or.inr (Or.inr (Or.inl h)))))))))))))))))))))))))))))))))))))))))))))))))))))))))))))))) (fun h => h.elim (fun h => (Or.inr (Or.inr (Or.inr (Or.inr (Or.inr (Or.inr (Or.inr (Or.inr (Or.inr (Or.inr (Or.inr (Or.inr (Or.inr (Or.inr (Or.inr (Or.inr (Or.inr (Or.inr (Or.inr (Or.inr (Or.inr (Or.inr (Or.inr (Or.inr (Or.inr (Or.inr (Or.inr (Or.inr (Or.inr (Or.inr (Or.inr (Or.inr (Or.inr (Or.inr (Or.inr (Or.inr (Or.inr (Or.inr (Or.inr (Or.inr (Or.inr (Or.inr (Or.inr (Or.inr (Or.inr (Or.inr (Or.inr (Or.inr (Or.inr (Or.inr (Or.inr (Or.inr (Or.inr (Or.inr (Or.inr (Or.inr (Or.inr (Or.inr (Or.inr (Or.inr (Or.inr (Or.inr (Or.inr (Or.inl h))))))))))))))))))))))))))))))))))))))))))))))))))))))))))))))))) (fun h => h.elim (fun h => (Or.inr (Or.inr (Or.inr (Or.inr (Or.inr (Or.inr (Or.inr (Or.inr (Or.inr (Or.inr (Or.inr (Or.inr (Or.inr (Or.inr (Or.inr (Or.inr (Or.inr (Or.inr (Or.inr (Or.inr (Or.inr (Or.inr (Or.inr (Or.inr (Or.inr (Or.inr (Or.inr (Or.inr (Or.inr (Or.inr (Or.inr (Or.inr (Or.inr (Or.inr (Or.inr (Or.inr (Or.inr (Or.inr (Or.inr (Or.inr (Or.inr (Or.inr (Or.inr (Or.inr (Or.inr (Or.inr (Or.inr (Or.inr (Or.inr (Or.inr (Or.inr (Or.inr (Or.inr (Or.inr (Or.inr (Or.inr (Or.inr (Or.inr (Or.inr (Or.inr (Or.inr (Or.inr (Or.inr (Or.inr (Or.inl h)))))))))))))))))))))))))))))))))))))))))))))))))))))))))))))))))) (fun h => h.elim (fun h => (Or.inr (Or.inr (Or.inr (Or.inr (Or.inr (Or.inr (Or.inr (Or.inr (Or.inr (Or.inr (Or.inr (Or.inr (Or.inr (Or.inr (Or.inr (Or.inr (Or.inr (Or.inr (Or.inr (Or.inr (Or.inr (Or.inr (Or.inr (Or.inr (Or.inr (Or.inr (Or.inr (Or.inr (Or.inr (Or.inr (Or.inr (Or.inr (Or.inr (Or.inr (Or.inr (Or.inr (Or.inr (Or.inr (Or.inr (Or.inr (Or.inr (Or.inr (Or.inr (Or.inr (Or.inr (Or.inr (Or.inr (Or.inr (Or.inr (Or.inr (Or.inr (Or.inr (Or.inr (Or.inr (Or.inr (Or.inr (Or.inr (Or.inr (Or.inr (Or.inr (Or.inr (Or.inr (Or.inr (Or.inr (Or.inr (Or.inl h))))))))))))))))))))))))))))))))))))))))))))))))))))))))))))))))))) (fun h => h.elim (fun h => (Or.inr (Or.inr (Or.inr (Or.inr (Or.inr (Or.inr (Or.inr (Or.inr (Or.inr (Or.inr (Or.inr (Or.inr (Or.inr (Or.inr (Or.inr (Or.inr (Or.inr (Or.inr (Or.inr (Or.inr (Or.inr (Or.inr (Or.inr (Or.inr (Or.inr (Or.inr (Or.inr (Or.inr (Or.inr (Or.inr (Or.inr (Or.inr (Or.inr (Or.inr (Or.inr (Or.inr (Or.inr (Or.inr (Or.inr (Or.inr (Or.inr (Or.inr (Or.inr (Or.inr (Or.inr (Or.inr (Or.inr (Or.inr (Or.inr (Or.inr (Or.inr (Or.inr (Or.inr (Or.inr (Or.inr (Or.inr (Or.inr (Or.inr (Or.inr (Or.inr (Or.inr (Or.inr (Or.inr (Or.inr (Or.inr (Or.inr (Or.inl h)))))))))))))))))))))))))))))))))))))))))))))))))))))))))))))))))))) (fun h => h.elim (fun h => (Or.inr (Or.inr (Or.inr (Or.inr (Or.inr (Or.inr (Or.inr (Or.inr (Or.inr (Or.inr (Or.inr (Or.inr (Or.inr (Or.inr (Or.inr (Or.inr (Or.inr (Or.inr (Or.inr (Or.inr (Or.inr (Or.inr (Or.inr (Or.inr (Or.inr (Or.inr (Or.inr (Or.inr (Or.inr (Or.inr (Or.inr (Or.inr (Or.inr (Or.inr (Or.inr (Or.inr (Or.inr (Or.inr (Or.inr (Or.inr (Or.inr (Or.inr (Or.inr (Or.inr (Or.inr (Or.inr (Or.inr (Or.inr (Or.inr (Or.inr (Or.inr (Or.inr (Or.inr (Or.inr (Or.inr (Or.inr (Or.inr (Or.inr (Or.inr (Or.inr (Or.inr (Or.inr (Or.inr (Or.inr (Or.inr (Or.inr (Or.inr (Or.inl h))))))))))))))))))))))))))))))))))))))))))))))))))))))))))))))))))))) (fun h => h.elim (fun h => (Or.inr (Or.inr (Or.inr (Or.inr (Or.inr (Or.inr (Or.inr (Or.inr (Or.inr (Or.inr (Or.inr (Or.inr (Or.inr (Or.inr (Or.inr (Or.inr (Or.inr (Or.inr (Or.inr (Or.inr (Or.inr (Or.inr (Or.inr (Or.inr (Or.inr (Or.inr (Or.inr (Or.inr (Or.inr (Or.inr (Or.inr (Or.inr (Or.inr (Or.inr (Or.inr (Or.inr (Or.inr (Or.inr (Or.inr (Or.inr (Or.inr (Or.inr (Or.inr (Or.inr (Or.inr (Or.inr (Or.inr (Or.inr (Or.inr (Or.inr (Or.inr (Or.inr (Or.inr (Or.inr (Or.inr (Or.inr (Or.inr (Or.inr (Or.inr (Or.inr (Or.inr (Or.inr (Or.inr (Or.inr (Or.inr (Or.inr (Or.inr (Or.inr (Or.inl h)))))))))))))))))))))))))))))))))))))))))))))))))))))))))))))))))))))) (fun h => h.elim (fun h => (Or.inr (Or.inr (Or.inr (Or.inr (Or.inr (Or.inr (Or.inr (Or.inr (Or.inr (Or.inr (Or.inr (Or.inr (Or.inr (Or.inr (Or.inr (Or.inr (Or.inr (Or.inr (Or.inr (Or.inr (Or.inr (Or.inr (Or.inr (Or.inr (Or.inr (Or.inr (Or.inr (Or.inr (Or.inr (Or.inr (Or.inr (Or.inr (Or.inr (Or.inr (Or.inr (Or.inr (Or.inr (Or.inr (Or.inr (Or.inr (Or.inr (Or.inr (Or.inr (Or.inr (Or.inr (Or.inr (Or.inr (Or.inr (Or.inr (Or.inr (Or.inr (Or.inr (Or.inr (Or.inr (Or.inr (Or.inr (Or.inr (Or.inr (Or.inr (Or.inr (Or.inr (Or.inr (Or.inr (Or.inr (Or.inr (Or.inr (Or.inr (Or.inr (Or.inr (Or.inl h))))))))))))))))))))))))))))))))))))))))))))))))))))))))))))))))))))))) (fun h => (Or.inr (Or.inr (Or.inr (Or.inr (Or.inr (Or.inr (Or.inr (Or.inr (Or.inr (Or.inr (Or.inr (Or.inr (Or.inr (Or.inr (Or.inr (Or.inr (Or.inr (Or.inr (Or.inr (Or.inr (Or.inr (Or.inr (Or.inr (Or.inr (Or.inr (Or.inr (Or.inr (Or.inr (Or.inr (Or.inr (Or.inr (Or.inr (Or.inr (Or.inr (Or.inr (Or.inr (Or.inr (Or.inr (Or.inr (Or.inr (Or.inr (Or.inr (Or.inr (Or.inr (Or.inr (Or.inr (Or.inr (Or.inr (Or.inr (Or.inr (Or.inr (Or.inr (Or.inr (Or.inr (Or.inr (Or.inr (Or.inr (Or.inr (Or.inr (Or.inr (Or.inr (Or.inr (Or.inr (Or.inr (Or.inr (Or.inr (Or.inr (Or.inr (Or.inr (Or.inr h)))))))))))))))))))))))))))))))))))))))))))))))))))))))))))))))))))))))))))))))))))))))))))))))))))))))))))))) h))
  exact mm_fr.ret hf F
theorem fr_X10_play  (σ : mm_M) (rv : Int32) (σ1 : mm_M) (hf : fx_X10_play  σ = some (rv, σ1)) : mm_fr (fw_X10_play) σ σ1 := by
  rw [fx_X10_play] at hf
  have F : mm_fr (fw_X10_play) σ σ := mm_fr.rf
  obtain ⟨r_1, s_1, e_1, hf⟩ := mm_bd_ok hf
  have F := F.trans ((fr_X10_freshTrial  σ r_1 s_1 e_1).mono (fun q t i h => (fun h => h.elim (fun h => (Or.inr (Or.inr (Or.inr (Or.inr (Or.inr (Or.inr (Or.inr (Or.inr (Or.inr (Or.inr (Or.inr (Or.inr (Or.inr (Or.inr (Or.inr (Or.inr (Or.inr (Or.inr (Or.inr (Or.inl h))))))))))))))))))))) (fun h => h.elim (fun h => (Or.inr (Or.inr (Or.inr (Or.inr (Or.inr (Or.inr (Or.inr (Or.inr (Or.inr (Or.inr (Or.inr (Or.inr (Or.inr (Or.inr (Or.inr (Or.inr (Or.inr (Or.inr (Or.inr (Or.inr (Or.inl h)))))))))))))))))))))) (fun h => h.elim (fun h => (Or.inr (Or.inr (Or.inr (Or.inr (Or.inr (Or.inr (Or.inr (Or.inr (Or.inr (Or.inr (Or.inr (Or.inr (Or.inr (Or.inr (Or.inr (Or.inr (Or.inr (Or.inr (Or.inr (Or.inr (Or.inr (Or.inl h))))))))))))))))))))))) (fun h => h.elim (fun h => (Or.inr (Or.inr (Or.inr (Or.inr (Or.inr (Or.inr (Or.inr (Or.inr (Or.inr (Or.inr (Or.inr (Or.inr (Or.inr (Or.inr (Or.inr (Or.inr (Or.inr (Or.inr (Or.inr (Or.inr (Or.inr (Or.inr (Or.inl h)))))))))))))))))))))))) (fun h => h.elim (fun h => (Or.inr (Or.inr (Or.inr (Or.inr (Or.inr (Or.inr (Or.inr (Or.inr (Or.inr (Or.inr (Or.inr (Or.inr (Or.inr (Or.inr (Or.inr (Or.inr (Or.inr (Or.inr (Or.inr (Or.inr (Or.inr (Or.inr (Or.inr (Or.inl h))))))))))))))))))))))))) (fun h => h.elim (fun h => (Or.inr (Or.inr (Or.inr (Or.inr (Or.inr (Or.inr (Or.inr (Or.inr (Or.inr (Or.inr (Or.inr (Or.inr (Or.inr (Or.inr (Or.inr (Or.inr (Or.inr (Or.inr (Or.inr (Or.inr (Or.inr (Or.inr (Or.inr (Or.inr (Or.inl h)))))))))))))))))))))))))) (fun h => h.elim (fun h => (Or.inr (Or.inr (Or.inr (Or.inr (Or.inr (Or.inr (Or.inr (Or.inr (Or.inr (Or.inr (Or.inr (Or.inr (Or.inr (Or.inr (Or.inr (Or.inr (Or.inr (Or.inr (Or.inr (Or.inr (Or.inr (Or.inr (Or.inr (Or.inr (Or.inr (Or.inl h))))))))))))))))))))))))))) (fun h => h.elim (fun h => (Or.inr (Or.inr (Or.inr (Or.inr (Or.inr (Or.inr (Or.inr (Or.inr (Or.inr (Or.inr (Or.inr (Or.inr (Or.inr (Or.inr (Or.inr (Or.inr (Or.inr (Or.inr (Or.inr (Or.inr (Or.inr (Or.inr (Or.inr (Or.inr (Or.inr (Or.inr (Or.inl h)))))))))))))))))))))))))))) (fun h => h.elim (fun h => (Or.inr (Or.inr (Or.inr (Or.inr (Or.inr (Or.inr (Or.inr (Or.inr (Or.inr (Or.inr (Or.inr (Or.inr (Or.inr (Or.inr (Or.inr (Or.inr (Or.inr (Or.inr (Or.inr (Or.inr (Or.inr (Or.inr (Or.inr (Or.inr (Or.inr (Or.inr (Or.inr (Or.inl h))))))))))))))))))))))))))))) (fun h => h.elim (fun h => (Or.inr (Or.inr (Or.inr (Or.inr (Or.inr (Or.inr (Or.inr (Or.inr (Or.inr (Or.inr (Or.inr (Or.inr (Or.inr (Or.inr (Or.inr (Or.inr (Or.inr (Or.inr (Or.inr (Or.inr (Or.inr (Or.inr (Or.inr (Or.inr (Or.inr (Or.inr (Or.inr (Or.inr (Or.inl h)))))))))))))))))))))))))))))) (fun h => h.elim (fun h => (Or.inr (Or.inr (Or.inr (Or.inr (Or.inr (Or.inr (Or.inr (Or.inr (Or.inr (Or.inr (Or.inr (Or.inr (Or.inr (Or.inr (Or.inr (Or.inr (Or.inr (Or.inr (Or.inr (Or.inr (Or.inr (Or.inr (Or.inr (Or.inr (Or.inr (Or.inr (Or.inr (Or.inr (Or.inr (Or.inl h))))))))))))))))))))))))))))))) (fun h => h.elim (fun h => (Or.inr (Or.inr (Or.inr (Or.inr (Or.inr (Or.inr (Or.inr (Or.inr (Or.inr (Or.inr (Or.inr (Or.inr (Or.inr (Or.inr (Or.inr (Or.inr (Or.inr (Or.inr (Or.inr (Or.inr (Or.inr (Or.inr (Or.inr (Or.inr (Or.inr (Or.inr (Or.inr (Or.inr (Or.inr (Or.inr (Or.inl h)))))))))))))))))))))))))))))))) (fun h => h.elim (fun h => (Or.inr (Or.inr (Or.inr (Or.inr (Or.inr (Or.inr (Or.inr (Or.inr (Or.inr (Or.inr (Or.inr (Or.inr (Or.inr (Or.inr (Or.inr (Or.inr (Or.inr (Or.inr (Or.inr (Or.inr (Or.inr (Or.inr (Or.inr (Or.inr (Or.inr (Or.inr (Or.inr (Or.inr (Or.inr (Or.inr (Or.inr (Or.inl h))))))))))))))))))))))))))))))))) (fun h => h.elim (fun h => (Or.inr (Or.inr (Or.inr (Or.inr (Or.inr (Or.inr (Or.inr (Or.inr (Or.inr (Or.inr (Or.inr (Or.inr (Or.inr (Or.inr (Or.inr (Or.inr (Or.inr (Or.inr (Or.inr (Or.inr (Or.inr (Or.inr (Or.inr (Or.inr (Or.inr (Or.inr (Or.inr (Or.inr (Or.inr (Or.inr (Or.inr (Or.inr (Or.inl h)))))))))))))))))))))))))))))))))) (fun h => h.elim (fun h => (Or.inr (Or.inr (Or.inr (Or.inr (Or.inr (Or.inr (Or.inr (Or.inr (Or.inr (Or.inr (Or.inr (Or.inr (Or.inr (Or.inr (Or.inr (Or.inr (Or.inr (Or.inr (Or.inr (Or.inr (Or.inr (Or.inr (Or.inr (Or.inr (Or.inr (Or.inr (Or.inr (Or.inr (Or.inr (Or.inr (Or.inr (Or.inr (Or.inr (Or.inl h))))))))))))))))))))))))))))))))))) (fun h => h.elim (fun h => (Or.inr (Or.inr (Or.inr (Or.inr (Or.inr (Or.inr (Or.inr (Or.inr (Or.inr (Or.inr (Or.inr (Or.inr (Or.inr (Or.inr (Or.inr (Or.inr (Or.inr (Or.inr (Or.inr (Or.inr (Or.inr (Or.inr (Or.inr (Or.inr (Or.inr (Or.inr (Or.inr (Or.inr (Or.inr (Or.inr (Or.inr (Or.inr (Or.inr (Or.inr (Or.inl h)))))))))))))))))))))))))))))))))))) (fun h => h.elim (fun h => (Or.inr (Or.inr (Or.inr (Or.inr (Or.inr (Or.inr (Or.inr (Or.inr (Or.inr (Or.inr (Or.inr (Or.inr (Or.inr (Or.inr (Or.inr (Or.inr (Or.inr (Or.inr (Or.inr (Or.inr (Or.inr (Or.inr (Or.inr (Or.inr (Or.inr (Or.inr (Or.inr (Or.inr (Or.inr (Or.inr (Or.inr (Or.inr (Or.inr (Or.inr (Or.inr (Or.inl h))))))))))))))))))))))))))))))))))))) (fun h => h.elim (fun h => (Or.inr (Or.inr (Or.inr (Or.inr (Or.inr (Or.inr (Or.inr (Or.inr (Or.inr (Or.inr (Or.inr (Or.inr (Or.inr (Or.inr (Or.inr (Or.inr (Or.inr (Or.inr (Or.inr (Or.inr (Or.inr (Or.inr (Or.inr (Or.inr (Or.inr (Or.inr (Or.inr (Or.inr (Or.inr (Or.inr (Or.inr (Or.inr (Or.inr (Or.inr (Or.inr (Or.inr (Or.inl h)))))))))))))))))))))))))))))))))))))) (fun h => (Or.inr (Or.inr (Or.inr (Or.inr (Or.inr (Or.inr (Or.inr (Or.inr (Or.inr (Or.inr (Or.inr (Or.inr (Or.inr (Or.inr (Or.inr (Or.inr (Or.inr (Or.inr (Or.inr (Or.inr (Or.inr (Or.inr (Or.inr (Or.inr (Or.inr (Or.inr (Or.inr (Or.inr (Or.inr (Or.inr (Or.inr (Or.inr (Or.inr (Or.inr (Or.inr (Or.inr (Or.inr (Or.inl h))))))))))))))))))))))))))))))))))))))))))))))))))))))))) h))
  obtain ⟨r_2, s_2, e_2, hf⟩ := mm_bd_ok hf
  have F := F.trans ((fr_X5_doAll 1 s_1 r_2 s_2 e_2).mono (fun q t i h => (fun h => h.elim (fun h => (Or.inr (Or.inr (Or.inr (Or.inr (Or.inr (Or.inr (Or.inr (Or.inr (Or.inr (Or.inr (Or.inr (Or.inr (Or.inr (Or.inr (Or.inr (Or.inr (Or.inr (Or.inr (Or.inr (Or.inr (Or.inr (Or.inr (Or.inr (Or.inr (Or.inr (Or.inr (Or.inr (Or.inr (Or.inr (Or.inr (Or.inr (Or.inr (Or.inr (Or.inr (Or.inr (Or.inr (Or.inr (Or.inr (Or.inr (Or.inr (Or.inl h)))))))))))))))))))))))))))))))))))))))))) (fun h => h.elim (fun h => (Or.inr (Or.inr (Or.inr (Or.inr (Or.inr (Or.inr (Or.inr (Or.inr (Or.inr (Or.inr (Or.inr (Or.inr (Or.inr (Or.inr (Or.inr (Or.inr (Or.inr (Or.inr (Or.inr (Or.inr (Or.inr (Or.inr (Or.inr (Or.inr (Or.inr (Or.inr (Or.inr (Or.inr (Or.inr (Or.inr (Or.inr (Or.inr (Or.inr (Or.inr (Or.inr (Or.inr (Or.inr (Or.inr (Or.inr (Or.inr (Or.inr (Or.inl h))))))))))))))))))))))))))))))))))))))))))) (fun h => h.elim (fun h => (Or.inr (Or.inr (Or.inr (Or.inr (Or.inr (Or.inr (Or.inr (Or.inr (Or.inr (Or.inr (Or.inr (Or.inr (Or.inr (Or.inr (Or.inr (Or.inr (Or.inr (Or.inr (Or.inr (Or.inr (Or.inr (Or.inr (Or.inr (Or.inr (Or.inr (Or.inr (Or.inr (Or.inr (Or.inr (Or.inr (Or.inr (Or.inr (Or.inr (Or.inr (Or.inr (Or.inr (Or.inr (Or.inr (Or.inr (Or.inr (Or.inr (Or.inr (Or.inl h)))))))))))))))))))))))))))))))))))))))))))) (fun h => h.elim (fun h => (Or.inr (Or.inr (Or.inr (Or.inr (Or.inr (Or.inr (Or.inr (Or.inr (Or.inr (Or.inr (Or.inr (Or.inr (Or.inr (Or.inr (Or.inr (Or.inr (Or.inr (Or.inr (Or.inr (Or.inr (Or.inr (Or.inr (Or.inr (Or.inr (Or.inr (Or.inr (Or.inr (Or.inr (Or.inr (Or.inr (Or.inr (Or.inr (Or.inr (Or.inr (Or.inr (Or.inr (Or.inr (Or.inr (Or.inr (Or.inr (Or.inr (Or.inr (Or.inr (Or.inl h))))))))))))))))))))))))))))))))))))))))))))) (fun h => h.elim (fun h => (Or.inr (Or.inr (Or.inr (Or.inr (Or.inr (Or.inr (Or.inr (Or.inr (Or.inr (Or.inr (Or.inr (Or.inr (Or.inr (Or.inr (Or.inr (Or.inr (Or.inr (Or.inr (Or.inr (Or.inr (Or.inr (Or.inr (Or.inr (Or.inr (Or.inr (Or.inr (Or.inr (Or.inr (Or.inr (Or.inr (Or.inr (Or.inr (Or.inr (Or.inr (Or.inr (Or.inr (Or.inr (Or.inr (Or.inr (Or.inr (Or.inr (Or.inr (Or.inr (Or.inr (Or.inl h)))))))))))))))))))))))))))))))))))))))))))))) (fun h => h.elim (fun h => (Or.inr (Or.inr (Or.inr (Or.inr (Or.inr (Or.inr (Or.inr (Or.inr (Or.inr (Or.inr (Or.inr (Or.inr (Or.inr (Or.inr (Or.inr (Or.inr (Or.inr (Or.inr (Or.inr (Or.inr (Or.inr (Or.inr (Or.inr (Or.inr (Or.inr (Or.inr (Or.inr (Or.inr (Or.inr (Or.inr (Or.inr (Or.inr (Or.inr (Or.inr (Or.inr (Or.inr (Or.inr (Or.inr (Or.inr (Or.inr (Or.inr (Or.inr (Or.inr (Or.inr (Or.inr (Or.inl h))))))))))))))))))))))))))))))))))))))))))))))) (fun h => h.elim (fun h => (Or.inr (Or.inr (Or.inr (Or.inr (Or.inr (Or.inr (Or.inr (Or.inr (Or.inr (Or.inr (Or.inr (Or.inr (Or.inr (Or.inr (Or.inr (Or.inr (Or.inr (Or.inr (Or.inr (Or.inr (Or.inr (Or.inr (Or.inr (Or.inr (Or.inr (Or.inr (Or.inr (Or.inr (Or.inr (Or.inr (Or.inr (Or.inr (Or.inr (Or.inr (Or.inr (Or.inr (Or.inr (Or.inr (Or.inr (Or.inr (Or.inr (Or.inr (Or.inr (Or.inr (Or.inr (Or.inr (Or.inl h)))))))))))))))))))))))))))))))))))))))))))))))) (fun h => h.elim (fun h => (Or.inr (Or.inr (Or.inr (Or.inr (Or.inr (Or.inr (Or.inr (Or.inr (Or.inr (Or.inr (Or.inr (Or.inr (Or.inr (Or.inr (Or.inr (Or.inr (Or.inr (Or.inr (Or.inr (Or.inr (Or.inr (Or.inr (Or.inr (Or.inr (Or.inr (Or.inr (Or.inr (Or.inr (Or.inr (Or.inr (Or.inr (Or.inr (Or.inr (Or.inr (Or.inr (Or.inr (Or.inr (Or.inr (Or.inr (Or.inr (Or.inr (Or.inr (Or.inr (Or.inr (Or.inr (Or.inr (Or.inr (Or.inl h))))))))))))))))))))))))))))))))))))))))))))))))) (fun h => h.elim (fun h => (Or.inr (Or.inr (Or.inr (Or.inr (Or.inr (Or.inr (Or.inr (Or.inr (Or.inr (Or.inr (Or.inr (Or.inr (Or.inr (Or.inr (Or.inr (Or.inr (Or.inr (Or.inr (Or.inr (Or.inr (Or.inr (Or.inr (Or.inr (Or.inr (Or.inr (Or.inr (Or.inr (Or.inr (Or.inr (Or.inr (Or.inr (Or.inr (Or.inr (Or.inr (Or.inr (Or.inr (Or.inr (Or.inr (Or.inr (Or.inr (Or.inr (Or.inr (Or.inr (Or.inr (Or.inr (Or.inr (Or.inr (Or.inr (Or.inl h)))))))))))))))))))))))))))))))))))))))))))))))))) (fun h => h.elim (fun h => (Or.inr (Or.inr (Or.inr (Or.inr (Or.inr (Or.inr (Or.inr (Or.inr (Or.inr (Or.inr (Or.inr (Or.inr (Or.inr (Or.inr (Or.inr (Or.inr (Or.inr (Or.inr (Or.inr (Or.inr (Or.inr (Or.inr (Or.inr (Or.inr (Or.inr (Or.inr (Or.inr (Or.inr (Or.inr (Or.inr (Or.inr (Or.inr (Or.inr (Or.inr (Or.inr (Or.inr (Or.inr (Or.inr (Or.inr (Or.inr (Or.inr (Or.inr (Or.inr (Or.inr (Or.inr (Or.inr (Or.inr (Or.inr (Or.inr (Or.inl h))))))))))))))))))))))))))))))))))))))))))))))))))) (fun h => h.elim (fun h => (Or.inr (Or.inr (Or.inr (Or.inr (Or.inr (Or.inr (Or.inr (Or.inr (Or.inr (Or.inr (Or.inr (Or.inr (Or.inr (Or.inr (Or.inr (Or.inr (Or.inr (Or.inr (Or.inr (Or.inr (Or.inr (Or.inr (Or.inr (Or.inr (Or.inr (Or.inr (Or.inr (Or.inr (Or.inr (Or.inr (Or.inr (Or.inr (Or.inr (Or.inr (Or.inr (Or.inr (Or.inr (Or.inr (Or.inr (Or.inr (Or.inr (Or.inr (Or.inr (Or.inr (Or.inr (Or.inr (Or.inr (Or.inr (Or.inr (Or.inr (Or.inl h)))))))))))))))))))))))))))))))))))))))))))))))))))) (fun h => h.elim (fun h => (Or.inr (Or.inr (Or.inr (Or.inr (Or.inr (Or.inr (Or.inr (Or.inr (Or.inr (Or.inr (Or.inr (Or.inr (Or.inr (Or.inr (Or.inr (Or.inr (Or.inr (Or.inr (Or.inr (Or.inr (Or.inr (Or.inr (Or.inr (Or.inr (Or.inr (Or.inr (Or.inr (Or.inr (Or.inr (Or.inr (Or.inr (Or.inr (Or.inr (Or.inr (Or.inr (Or.inr (Or.inr (Or.inr (Or.inr (Or.inr (Or.inr (Or.inr (Or.inr (Or.inr (Or.inr (Or.inr (Or.inr (Or.inr (Or.inr (Or.inr (Or.inr (Or.inl h))))))))))))))))))))))))))))))))))))))))))))))))))))) (fun h => h.elim (fun h => (Or.inr (Or.inr (Or.inr (Or.inr (Or.inr (Or.inr (Or.inr (Or.inr (Or.inr (Or.inr (Or.inr (Or.inr (Or.inr (Or.inr (Or.inr (Or.inr (Or.inr (Or.inr (Or.inr (Or.inl h))))))))))))))))))))) (fun h => h.elim (fun h => (Or.inr (Or.inr (Or.inr (Or.inr (Or.inr (Or.inr (Or.inr (Or.inr (Or.inr (Or.inr (Or.inr (Or.inr (Or.inr (Or.inr (Or.inr (Or.inr (Or.inr (Or.inr (Or.inr (Or.inr (Or.inl h)))))))))))))))))))))) (fun h => h.elim (fun h => (Or.inr (Or.inr (Or.inr (Or.inr (Or.inr (Or.inr (Or.inr (Or.inr (Or.inr (Or.inr (Or.inr (Or.inr (Or.inr (Or.inr (Or.inr (Or.inr (Or.inr (Or.inr (Or.inr (Or.inr (Or.inr (Or.inl h))))))))))))))))))))))) (fun h => h.elim (fun h => (Or.inr (Or.inr (Or.inr (Or.inr (Or.inr (Or.inr (Or.inr (Or.inr (Or.inr (Or.inr (Or.inr (Or.inr (Or.inr (Or.inr (Or.inr (Or.inr (Or.inr (Or.inr (Or.inr (Or.inr (Or.inr (Or.inr (Or.inl h)))))))))))))))))))))))) (fun h => h.elim (fun h => (Or.inr (Or.inr (Or.inr (Or.inr (Or.inr (Or.inr (Or.inr (Or.inr (Or.inr (Or.inr (Or.inr (Or.inr (Or.inr (Or.inr (Or.inr (Or.inr (Or.inr (Or.inr (Or.inr (Or.inr (Or.inr (Or.inr (Or.inr (Or.inl h))))))))))))))))))))))))) (fun h => h.elim (fun h => (Or.inr (Or.inr (Or.inr (Or.inr (Or.inr (Or.inr (Or.inr (Or.inr (Or.inr (Or.inr (Or.inr (Or.inr (Or.inr (Or.inr (Or.inr (Or.inr (Or.inr (Or.inr (Or.inr (Or.inr (Or.inr (Or.inr (Or.inr (Or.inr (Or.inl h)))))))))))))))))))))))))) (fun h => h.elim (fun h => (Or.inr (Or.inr (Or.inr (Or.inr (Or.inr (Or.inr (Or.inr (Or.inr (Or.inr (Or.inr (Or.inr (Or.inr (Or.inr (Or.inr (Or.inr (Or.inr (Or.inr (Or.inr (Or.inr (Or.inr (Or.inr (Or.inr (Or.inr (Or.inr (Or.inr (Or.inr (Or.inl h)))))))))))))))))))))))))))) (fun h => h.elim (fun h => (Or.inr (Or.inr (Or.inr (Or.inr (Or.inr (Or.inr (Or.inr (Or.inr (Or.inr (Or.inr (Or.inr (Or.inr (Or.inr (Or.inr (Or.inr (Or.inr (Or.inr (Or.inr (Or.inr (Or.inr (Or.inr (Or.inr (Or.inr (Or.inr (Or.inr (Or.inr (Or.inr (Or.inl h))))))))))))))))))))))))))))) (fun h => h.elim (fun h => (Or.inr (Or.inr (Or.inr (Or.inr (Or.inr (Or.inr (Or.inr (Or.inr (Or.inr (Or.inr (Or.inr (Or.inr (Or.inr (Or.inr (Or.inr (Or.inr (Or.inr (Or.inr (Or.inr (Or.inr (Or.inr (Or.inr (Or.inr (Or.inr (Or.inr (Or.inr (Or.inr (Or.inr (Or.inr (Or.inl h))))))))))))))))))))))))))))))) (fun h => h.elim (fun h => (Or.inr (Or.inr (Or.inr (Or.inr (Or.inr (Or.inr (Or.inr (Or.inr (Or.inr (Or.inr (Or.inr (Or.inr (Or.inr (Or.inr (Or.inr (Or.inr (Or.inr (Or.inr (Or.inr (Or.inr (Or.inr (Or.inr (Or.inr (Or.inr (Or.inr (Or.inr (Or.inr (Or.inr (Or.inr (Or.inr (Or.inl h)))))))))))))))))))))))))))))))) (fun h => h.elim (fun h => (Or.inr (Or.inr (Or.inr (Or.inr (Or.inr (Or.inr (Or.inr (Or.inr (Or.inr (Or.inr (Or.inr (Or.inr (Or.inr (Or.inr (Or.inr (Or.inr (Or.inr (Or.inr (Or.inr (Or.inr (Or.inr (Or.inr (Or.inr (Or.inr (Or.inr (Or.inr (Or.inr (Or.inr (Or.inr (Or.inr (Or.inr (Or.inl h))))))))))))))))))))))))))))))))) (fun h => h.elim (fun h => (Or.inr (Or.inr (Or.inr (Or.inr (Or.inr (Or.inr (Or.inr (Or.inr (Or.inr (Or.inr (Or.inr (Or.inr (Or.inr (Or.inr (Or.inr (Or.inr (Or.inr (Or.inr (Or.inr (Or.inr (Or.inr (Or.inr (Or.inr (Or.inr (Or.inr (Or.inr (Or.inr (Or.inr (Or.inr (Or.inr (Or.inr (Or.inr (Or.inl h)))))))))))))))))))))))))))))))))) (fun h => h.elim (fun h => (Or.inr (Or.inr (Or.inr (Or.inr (Or.inr (Or.inr (Or.inr (Or.inr (Or.inr (Or.inr (Or.inr (Or.inr (Or.inr (Or.inr (Or.inr (Or.inr (Or.inr (Or.inr (Or.inr (Or.inr (Or.inr (Or.inr (Or.inr (Or.inr (Or.inr (Or.inr (Or.inr (Or.inr (Or.inr (Or.inr (Or.inr (Or.inr (Or.inr (Or.inl h))))))))))))))))))))))))))))))))))) (fun h => h.elim (fun h => (Or.inr (Or.inr (Or.inr (Or.inr (Or.inr (Or.inr (Or.inr (Or.inr (Or.inr (Or.inr (Or.inr (Or.inr (Or.inr (Or.inr (Or.inr (Or.inr (Or.inr (Or.inr (Or.inr (Or.inr (Or.inr (Or.inr (Or.inr (Or.inr (Or.inr (Or.inr (Or.inr (Or.inr (Or.inr (Or.inr (Or.inr (Or.inr (Or.inr (Or.inr (Or.inl h)))))))))))))))))))))))))))))))))))) (fun h => h.elim (fun h => (Or.inr (Or.inr (Or.inr (Or.inr (Or.inr (Or.inr (Or.inr (Or.inr (Or.inr (Or.inr (Or.inr (Or.inr (Or.inr (Or.inr (Or.inr (Or.inr (Or.inr (Or.inr (Or.inr (Or.inr (Or.inr (Or.inr (Or.inr (Or.inr (Or.inr (Or.inr (Or.inr (Or.inr (Or.inr (Or.inr (Or.inr (Or.inr (Or.inr (Or.inr (Or.inr (Or.inl h))))))))))))))))))))))))))))))))))))) (fun h => h.elim (fun h => (Or.inr (Or.inr (Or.inr (Or.inr (Or.inr (Or.inr (Or.inr (Or.inr (Or.inr (Or.inr (Or.inr (Or.inr (Or.inr (Or.inr (Or.inr (Or.inr (Or.inr (Or.inr (Or.inr (Or.inr (Or.inr (Or.inr (Or.inr (Or.inr (Or.inr (Or.inr (Or.inr (Or.inr (Or.inr (Or.inr (Or.inr (Or.inr (Or.inr (Or.inr (Or.inr (Or.inr (Or.inl h)))))))))))))))))))))))))))))))))))))) (fun h => (Or.inr (Or.inr (Or.inr (Or.inr (Or.inr (Or.inr (Or.inr (Or.inr (Or.inr (Or.inr (Or.inr (Or.inr (Or.inr (Or.inr (Or.inr (Or.inr (Or.inr (Or.inr (Or.inr (Or.inr (Or.inr (Or.inr (Or.inr (Or.inr (Or.inr (Or.inr (Or.inr (Or.inr (Or.inr (Or.inr (Or.inr (Or.inr (Or.inr (Or.inr (Or.inr (Or.inr (Or.inr (Or.inl h))))))))))))))))))))))))))))))))))))))))))))))))))))))))))))))))))) h))
  obtain ⟨r_3, s_3, e_3, hf⟩ := mm_bd_ok hf
  have F := F.trans (mm_fr.eq (fr_X5_isFaulty  s_2 r_3 s_3 e_3))
  by_cases c_4 : r_3 = (0 : Int32)
  · replace hf := mm_it c_4 hf
    exact F.trans (fr_X10_play_J34 rv σ1 (s_3 9 26 0 2) s_3 hf)
  · replace hf := mm_if c_4 hf
    exact F.trans (fr_X10_play_J34 rv σ1 (-1000002 : Int32) s_3 hf)
