def fw_X1_copyFrom (r0 : Nat) (r1 : Nat) (q t i : Nat) : Prop := (q = r0 ∧ t = 1 ∧ i = 3) ∨ (q = r0 ∧ t = 2) ∨ (q = r0 ∧ t = 3) ∨ (q = r0 ∧ t = 4)
theorem fr_X1_copyFrom (r0 : Nat) (r1 : Nat) (σ : mm_M) (rv : Int32) (σ1 : mm_M) (hf : fx_X1_copyFrom r0 r1 σ = some (rv, σ1)) : mm_fr (fw_X1_copyFrom r0 r1) σ σ1 := by
  rw [fx_X1_copyFrom] at hf
  have F : mm_fr (fw_X1_copyFrom r0 r1) σ σ := mm_fr.rf
  obtain ⟨s_1, e_1, hf⟩ := mm_lt_ok hf
  have F := F.trans (mm_fr.w e_1 (fun _ => (Or.inr (Or.inl ⟨rfl, rfl⟩))))
  obtain ⟨s_2, e_2, hf⟩ := mm_lt_ok hf
  have F := F.trans (mm_fr.w e_2 (fun _ => (Or.inr (Or.inr (Or.inl ⟨rfl, rfl⟩)))))
  obtain ⟨s_3, e_3, hf⟩ := mm_lt_ok hf
  have F := F.trans (mm_fr.w e_3 (fun _ => (Or.inr (Or.inr (Or.inr ⟨rfl, rfl⟩)))))
  obtain ⟨s_4, e_4, hf⟩ := mm_lt_ok hf
  have F := F.trans (mm_fr.u e_4 ((Or.inl ⟨rfl, rfl, rfl⟩)))
  exact mm_fr.ret hf F
def fw_X3_copyFrom (r0 : Nat) (n0 : Nat) (r1 : Nat) (n1 : Nat) (q t i : Nat) : Prop := (q = r0 ∧ t = 6 ∧ i = 2) ∨ (q = r0 ∧ t = 6 ∧ i = 3) ∨ (q = r0 ∧ t = 6 ∧ i = 4) ∨ (q = r0 ∧ t = 6 ∧ i = 5) ∨ (q = r0 ∧ t = 6 ∧ i = 6) ∨ (q = r0 ∧ t = 6 ∧ i = 7) ∨ (q = r0 ∧ t = 6 ∧ i = 8) ∨ (q = r0 ∧ t = 7) ∨ (q = r0 ∧ t = 8)
theorem fr_X3_copyFrom (r0 : Nat) (n0 : Nat) (r1 : Nat) (n1 : Nat) (σ : mm_M) (rv : Int32) (σ1 : mm_M) (hf : fx_X3_copyFrom r0 n0 r1 n1 σ = some (rv, σ1)) : mm_fr (fw_X3_copyFrom r0 n0 r1 n1) σ σ1 := by
  rw [fx_X3_copyFrom] at hf
  have F : mm_fr (fw_X3_copyFrom r0 n0 r1 n1) σ σ := mm_fr.rf
  obtain ⟨s_1, e_1, hf⟩ := mm_lt_ok hf
  have F := F.trans (mm_fr.w e_1 (fun _ => (Or.inr (Or.inr (Or.inr (Or.inr (Or.inr (Or.inr (Or.inr (Or.inl ⟨rfl, rfl⟩))))))))))
  obtain ⟨s_2, e_2, hf⟩ := mm_lt_ok hf
  have F := F.trans (mm_fr.w e_2 (fun _ => (Or.inr (Or.inr (Or.inr (Or.inr (Or.inr (Or.inr (Or.inr (Or.inr ⟨rfl, rfl⟩))))))))))
  obtain ⟨s_3, e_3, hf⟩ := mm_lt_ok hf
  have F := F.trans (mm_fr.u e_3 ((Or.inl ⟨rfl, rfl, rfl⟩)))
  obtain ⟨s_4, e_4, hf⟩ := mm_lt_ok hf
  have F := F.trans (mm_fr.u e_4 ((Or.inr (Or.inl ⟨rfl, rfl, rfl⟩))))
  obtain ⟨s_5, e_5, hf⟩ := mm_lt_ok hf
  have F := F.trans (mm_fr.u e_5 ((Or.inr (Or.inr (Or.inl ⟨rfl, rfl, rfl⟩)))))
  obtain ⟨s_6, e_6, hf⟩ := mm_lt_ok hf
  have F := F.trans (mm_fr.u e_6 ((Or.inr (Or.inr (Or.inr (Or.inl ⟨rfl, rfl, rfl⟩))))))
  obtain ⟨s_7, e_7, hf⟩ := mm_lt_ok hf
  have F := F.trans (mm_fr.u e_7 ((Or.inr (Or.inr (Or.inr (Or.inr (Or.inl ⟨rfl, rfl, rfl⟩)))))))
  obtain ⟨s_8, e_8, hf⟩ := mm_lt_ok hf
  have F := F.trans (mm_fr.u e_8 ((Or.inr (Or.inr (Or.inr (Or.inr (Or.inr (Or.inl ⟨rfl, rfl, rfl⟩))))))))
  obtain ⟨s_9, e_9, hf⟩ := mm_lt_ok hf
  have F := F.trans (mm_fr.u e_9 ((Or.inr (Or.inr (Or.inr (Or.inr (Or.inr (Or.inr (Or.inl ⟨rfl, rfl, rfl⟩)))))))))
  exact mm_fr.ret hf F
def fw_X8_copyFrom (r0 : Nat) (r1 : Nat) (q t i : Nat) : Prop := (q = r0 ∧ t = 0 ∧ i = 2) ∨ (q = r0 ∧ t = 0 ∧ i = 3) ∨ (q = r0 ∧ t = 0 ∧ i = 4) ∨ (q = r0 ∧ t = 0 ∧ i = 5) ∨ (q = r0 ∧ t = 0 ∧ i = 6) ∨ (q = r0 ∧ t = 0 ∧ i = 7) ∨ (q = r0 ∧ t = 1 ∧ i = 3) ∨ (q = r0 ∧ t = 2) ∨ (q = r0 ∧ t = 3) ∨ (q = r0 ∧ t = 4) ∨ (q = r0 ∧ t = 6 ∧ i = 2) ∨ (q = r0 ∧ t = 6 ∧ i = 3) ∨ (q = r0 ∧ t = 6 ∧ i = 4) ∨ (q = r0 ∧ t = 6 ∧ i = 5) ∨ (q = r0 ∧ t = 6 ∧ i = 6) ∨ (q = r0 ∧ t = 6 ∧ i = 7) ∨ (q = r0 ∧ t = 6 ∧ i = 8) ∨ (q = r0 ∧ t = 7) ∨ (q = r0 ∧ t = 8)
theorem fr_X8_copyFrom_L13 (r0 : Nat) (r1 : Nat) (rv : Int32) (σ1 : mm_M)  : ∀ (fu : Nat) (v2 : Int32) (σ : mm_M), fx_X8_copyFrom_L13 r0 r1 fu v2 σ = some (rv, σ1) → mm_fr (fw_X8_copyFrom r0 r1) σ σ1 := by
  intro fu
  induction fu with
  | zero =>
    intro v2 σ hf
    exact mm_no hf
  | succ fu ih =>
    intro v2 σ hf
    rw [fx_X8_copyFrom_L13] at hf
    have F : mm_fr (fw_X8_copyFrom r0 r1) σ σ := mm_fr.rf
    by_cases c_2 : (4 : Int32) ≤ v2
    · replace hf := mm_it c_2 hf
      obtain ⟨s_3, e_3, hf⟩ := mm_lt_ok hf
      have F := F.trans (mm_fr.u e_3 ((Or.inl ⟨rfl, rfl, rfl⟩)))
      obtain ⟨s_4, e_4, hf⟩ := mm_lt_ok hf
      have F := F.trans (mm_fr.u e_4 ((Or.inr (Or.inl ⟨rfl, rfl, rfl⟩))))
      obtain ⟨s_5, e_5, hf⟩ := mm_lt_ok hf
      have F := F.trans (mm_fr.u e_5 ((Or.inr (Or.inr (Or.inl ⟨rfl, rfl, rfl⟩)))))
      obtain ⟨s_6, e_6, hf⟩ := mm_lt_ok hf
      have F := F.trans (mm_fr.u e_6 ((Or.inr (Or.inr (Or.inr (Or.inl ⟨rfl, rfl, rfl⟩))))))
      obtain ⟨s_7, e_7, hf⟩ := mm_lt_ok hf
      have F := F.trans (mm_fr.u e_7 ((Or.inr (Or.inr (Or.inr (Or.inr (Or.inl ⟨rfl, rfl, rfl⟩)))))))
      obtain ⟨s_8, e_8, hf⟩ := mm_lt_ok hf
      have F := F.trans (mm_fr.u e_8 ((Or.inr (Or.inr (Or.inr (Or.inr (Or.inr (Or.inl ⟨rfl, rfl, rfl⟩))))))))
      exact mm_fr.ret hf F
    · replace hf := mm_if c_2 hf
      obtain ⟨h_9, hf⟩ := mm_gd_ok hf
      obtain ⟨h_10, hf⟩ := mm_gd_ok hf
      obtain ⟨r_11, s_11, e_11, hf⟩ := mm_bd_ok hf
      have F := F.trans ((fr_X3_copyFrom r0 v2.toNatClampNeg r1 v2.toNatClampNeg σ r_11 s_11 e_11).mono (fun q t i h => (fun h => h.elim (fun h => (Or.inr (Or.inr (Or.inr (Or.inr (Or.inr (Or.inr (Or.inr (Or.inr (Or.inr (Or.inr (Or.inl h)))))))))))) (fun h => h.elim (fun h => (Or.inr (Or.inr (Or.inr (Or.inr (Or.inr (Or.inr (Or.inr (Or.inr (Or.inr (Or.inr (Or.inr (Or.inl h))))))))))))) (fun h => h.elim (fun h => (Or.inr (Or.inr (Or.inr (Or.inr (Or.inr (Or.inr (Or.inr (Or.inr (Or.inr (Or.inr (Or.inr (Or.inr (Or.inl h)))))))))))))) (fun h => h.elim (fun h => (Or.inr (Or.inr (Or.inr (Or.inr (Or.inr (Or.inr (Or.inr (Or.inr (Or.inr (Or.inr (Or.inr (Or.inr (Or.inr (Or.inl h))))))))))))))) (fun h => h.elim (fun h => (Or.inr (Or.inr (Or.inr (Or.inr (Or.inr (Or.inr (Or.inr (Or.inr (Or.inr (Or.inr (Or.inr (Or.inr (Or.inr (Or.inr (Or.inl h)))))))))))))))) (fun h => h.elim (fun h => (Or.inr (Or.inr (Or.inr (Or.inr (Or.inr (Or.inr (Or.inr (Or.inr (Or.inr (Or.inr (Or.inr (Or.inr (Or.inr (Or.inr (Or.inr (Or.inl h))))))))))))))))) (fun h => h.elim (fun h => (Or.inr (Or.inr (Or.inr (Or.inr (Or.inr (Or.inr (Or.inr (Or.inr (Or.inr (Or.inr (Or.inr (Or.inr (Or.inr (Or.inr (Or.inr (Or.inr (Or.inl h)))))))))))))))))) (fun h => h.elim (fun h => (Or.inr (Or.inr (Or.inr (Or.inr (Or.inr (Or.inr (Or.inr (Or.inr (Or.inr (Or.inr (Or.inr (Or.inr (Or.inr (Or.inr (Or.inr (Or.inr (Or.inr (Or.inl h))))))))))))))))))) (fun h => (Or.inr (Or.inr (Or.inr (Or.inr (Or.inr (Or.inr (Or.inr (Or.inr (Or.inr (Or.inr (Or.inr (Or.inr (Or.inr (Or.inr (Or.inr (Or.inr (Or.inr (Or.inr h))))))))))))))))))))))))))) h))
      obtain ⟨y_12, e_12, hf⟩ := mm_li_ok hf
      exact F.trans (ih y_12 s_11 hf)
theorem fr_X8_copyFrom (r0 : Nat) (r1 : Nat) (σ : mm_M) (rv : Int32) (σ1 : mm_M) (hf : fx_X8_copyFrom r0 r1 σ = some (rv, σ1)) : mm_fr (fw_X8_copyFrom r0 r1) σ σ1 := by
  rw [fx_X8_copyFrom] at hf
  have F : mm_fr (fw_X8_copyFrom r0 r1) σ σ := mm_fr.rf
  obtain ⟨r_1, s_1, e_1, hf⟩ := mm_bd_ok hf
  have F := F.trans ((fr_X1_copyFrom r0 r1 σ r_1 s_1 e_1).mono (fun q t i h => (fun h => h.elim (fun h => (Or.inr (Or.inr (Or.inr (Or.inr (Or.inr (Or.inr (Or.inl h)))))))) (fun h => h.elim (fun h => (Or.inr (Or.inr (Or.inr (Or.inr (Or.inr (Or.inr (Or.inr (Or.inl h))))))))) (fun h => h.elim (fun h => (Or.inr (Or.inr (Or.inr (Or.inr (Or.inr (Or.inr (Or.inr (Or.inr (Or.inl h)))))))))) (fun h => (Or.inr (Or.inr (Or.inr (Or.inr (Or.inr (Or.inr (Or.inr (Or.inr (Or.inr (Or.inl h)))))))))))))) h))
  exact F.trans (fr_X8_copyFrom_L13 r0 r1 rv σ1 mm_FU (0 : Int32) s_1 hf)
def fw_X10_freshTrial  (q t i : Nat) : Prop := (q = 1 ∧ t = 0 ∧ i = 2) ∨ (q = 1 ∧ t = 0 ∧ i = 3) ∨ (q = 1 ∧ t = 0 ∧ i = 4) ∨ (q = 1 ∧ t = 0 ∧ i = 5) ∨ (q = 1 ∧ t = 0 ∧ i = 6) ∨ (q = 1 ∧ t = 0 ∧ i = 7) ∨ (q = 1 ∧ t = 1 ∧ i = 3) ∨ (q = 1 ∧ t = 2) ∨ (q = 1 ∧ t = 3) ∨ (q = 1 ∧ t = 4) ∨ (q = 1 ∧ t = 6 ∧ i = 2) ∨ (q = 1 ∧ t = 6 ∧ i = 3) ∨ (q = 1 ∧ t = 6 ∧ i = 4) ∨ (q = 1 ∧ t = 6 ∧ i = 5) ∨ (q = 1 ∧ t = 6 ∧ i = 6) ∨ (q = 1 ∧ t = 6 ∧ i = 7) ∨ (q = 1 ∧ t = 6 ∧ i = 8) ∨ (q = 1 ∧ t = 7) ∨ (q = 1 ∧ t = 8)
theorem fr_X10_freshTrial  (σ : mm_M) (rv : Int32) (σ1 : mm_M) (hf : fx_X10_freshTrial  σ = some (rv, σ1)) : mm_fr (fw_X10_freshTrial) σ σ1 := by
  rw [fx_X10_freshTrial] at hf
  have F : mm_fr (fw_X10_freshTrial) σ σ := mm_fr.rf
  obtain ⟨r_1, s_1, e_1, hf⟩ := mm_bd_ok hf
  have F := F.trans ((fr_X8_copyFrom 1 0 σ r_1 s_1 e_1).mono (fun q t i h => (fun h => h.elim (fun h => (Or.inl h)) (fun h => h.elim (fun h => (Or.inr (Or.inl h))) (fun h => h.elim (fun h => (Or.inr (Or.inr (Or.inl h)))) (fun h => h.elim (fun h => (Or.inr (Or.inr (Or.inr (Or.inl h))))) (fun h => h.elim (fun h => (Or.inr (Or.inr (Or.inr (Or.inr (Or.inl h)))))) (fun h => h.elim (fun h => (Or.inr (Or.inr (Or.inr (Or.inr (Or.inr (Or.inl h))))))) (fun h => h.elim (fun h => (Or.inr (Or.inr (Or.inr (Or.inr (Or.inr (Or.inr (Or.inl h)))))))) (fun h => h.elim (fun h => (Or.inr (Or.inr (Or.inr (Or.inr (Or.inr (Or.inr (Or.inr (Or.inl h))))))))) (fun h => h.elim (fun h => (Or.inr (Or.inr (Or.inr (Or.inr (Or.inr (Or.inr (Or.inr (Or.inr (Or.inl h)))))))))) (fun h => h.elim (fun h => (Or.inr (Or.inr (Or.inr (Or.inr (Or.inr (Or.inr (Or.inr (Or.inr (Or.inr (Or.inl h))))))))))) (fun h => h.elim (fun h => (Or.inr (Or.inr (Or.inr (Or.inr (Or.inr (Or.inr (Or.inr (Or.inr (Or.inr (Or.inr (Or.inl h)))))))))))) (fun h => h.elim (fun h => (Or.inr (Or.inr (Or.inr (Or.inr (Or.inr (Or.inr (Or.inr (Or.inr (Or.inr (Or.inr (Or.inr (Or.inl h))))))))))))) (fun h => h.elim (fun h => (Or.inr (Or.inr (Or.inr (Or.inr (Or.inr (Or.inr (Or.inr (Or.inr (Or.inr (Or.inr (Or.inr (Or.inr (Or.inl h)))))))))))))) (fun h => h.elim (fun h => (Or.inr (Or.inr (Or.inr (Or.inr (Or.inr (Or.inr (Or.inr (Or.inr (Or.inr (Or.inr (Or.inr (Or.inr (Or.inr (Or.inl h))))))))))))))) (fun h => h.elim (fun h => (Or.inr (Or.inr (Or.inr (Or.inr (Or.inr (Or.inr (Or.inr (Or.inr (Or.inr (Or.inr (Or.inr (Or.inr (Or.inr (Or.inr (Or.inl h)))))))))))))))) (fun h => h.elim (fun h => (Or.inr (Or.inr (Or.inr (Or.inr (Or.inr (Or.inr (Or.inr (Or.inr (Or.inr (Or.inr (Or.inr (Or.inr (Or.inr (Or.inr (Or.inr (Or.inl h))))))))))))))))) (fun h => h.elim (fun h => (Or.inr (Or.inr (Or.inr (Or.inr (Or.inr (Or.inr (Or.inr (Or.inr (Or.inr (Or.inr (Or.inr (Or.inr (Or.inr (Or.inr (Or.inr (Or.inr (Or.inl h)))))))))))))))))) (fun h => h.elim (fun h => (Or.inr (Or.inr (Or.inr (Or.inr (Or.inr (Or.inr (Or.inr (Or.inr (Or.inr (Or.inr (Or.inr (Or.inr (Or.inr (Or.inr (Or.inr (Or.inr (Or.inr (Or.inl h))))))))))))))))))) (fun h => (Or.inr (Or.inr (Or.inr (Or.inr (Or.inr (Or.inr (Or.inr (Or.inr (Or.inr (Or.inr (Or.inr (Or.inr (Or.inr (Or.inr (Or.inr (Or.inr (Or.inr (Or.inr h))))))))))))))))))))))))))))))))))))) h))
  exact mm_fr.ret hf F
def fw_X10_isCell (x0 : Int32) (q t i : Nat) : Prop := False
theorem fr_X10_isCell (x0 : Int32) (σ : mm_M) (rv : Int32) (σ1 : mm_M) (hf : fx_X10_isCell x0 σ = some (rv, σ1)) : σ1 = σ := by
  refine mm_fr.none (W := (fw_X10_isCell x0)) (fun _ _ _ h => h) ?_
  rw [fx_X10_isCell] at hf
  have F : mm_fr (fw_X10_isCell x0) σ σ := mm_fr.rf
  by_cases c_1 : x0 < (0 : Int32)
  · replace hf := mm_it c_1 hf
    exact mm_fr.ret hf F
  · replace hf := mm_if c_1 hf
    by_cases c_2 : (64 : Int32) ≤ x0
    · replace hf := mm_it c_2 hf
      exact mm_fr.ret hf F
    · replace hf := mm_if c_2 hf
      exact mm_fr.ret hf F
def fw_X10_isWithin (x0 : Int32) (x1 : Int32) (x2 : Int32) (q t i : Nat) : Prop := False
theorem fr_X10_isWithin (x0 : Int32) (x1 : Int32) (x2 : Int32) (σ : mm_M) (rv : Int32) (σ1 : mm_M) (hf : fx_X10_isWithin x0 x1 x2 σ = some (rv, σ1)) : σ1 = σ := by
  refine mm_fr.none (W := (fw_X10_isWithin x0 x1 x2)) (fun _ _ _ h => h) ?_
  rw [fx_X10_isWithin] at hf
  have F : mm_fr (fw_X10_isWithin x0 x1 x2) σ σ := mm_fr.rf
  by_cases c_1 : x0 < x1
  · replace hf := mm_it c_1 hf
    exact mm_fr.ret hf F
  · replace hf := mm_if c_1 hf
    by_cases c_2 : x2 < x0
    · replace hf := mm_it c_2 hf
      exact mm_fr.ret hf F
    · replace hf := mm_if c_2 hf
      exact mm_fr.ret hf F
def fw_X8_cartOn (r0 : Nat) (x1 : Int32) (q t i : Nat) : Prop := False
theorem fr_X8_cartOn_L2 (r0 : Nat) (x1 : Int32) (rv : Int32) (σ1 : mm_M)  : ∀ (fu : Nat) (v2 : Int32) (σ : mm_M), fx_X8_cartOn_L2 r0 x1 fu v2 σ = some (rv, σ1) → mm_fr (fw_X8_cartOn r0 x1) σ σ1 := by
  intro fu
  induction fu with
  | zero =>
    intro v2 σ hf
    exact mm_no hf
  | succ fu ih =>
    intro v2 σ hf
    rw [fx_X8_cartOn_L2] at hf
    have F : mm_fr (fw_X8_cartOn r0 x1) σ σ := mm_fr.rf
    by_cases c_1 : (σ r0 0 0 2) ≤ v2
    · replace hf := mm_it c_1 hf
      exact mm_fr.ret hf F
    · replace hf := mm_if c_1 hf
      obtain ⟨h_2, hf⟩ := mm_gd_ok hf
      by_cases c_3 : (σ r0 6 v2.toNatClampNeg 3) = x1
      · replace hf := mm_it c_3 hf
        by_cases c_5 : x1 = (-1 : Int32)
        · replace hf := mm_it c_5 hf
          obtain ⟨y_6, e_6, hf⟩ := mm_li_ok hf
          exact F.trans (ih y_6 σ hf)
        · replace hf := mm_if c_5 hf
          exact mm_fr.ret hf F
      · replace hf := mm_if c_3 hf
        obtain ⟨y_4, e_4, hf⟩ := mm_li_ok hf
        exact F.trans (ih y_4 σ hf)
theorem fr_X8_cartOn (r0 : Nat) (x1 : Int32) (σ : mm_M) (rv : Int32) (σ1 : mm_M) (hf : fx_X8_cartOn r0 x1 σ = some (rv, σ1)) : σ1 = σ := by
  refine mm_fr.none (W := (fw_X8_cartOn r0 x1)) (fun _ _ _ h => h) ?_
  rw [fx_X8_cartOn] at hf
  have F : mm_fr (fw_X8_cartOn r0 x1) σ σ := mm_fr.rf
  exact F.trans (fr_X8_cartOn_L2 r0 x1 rv σ1 mm_FU (0 : Int32) σ hf)
def fw_X8_setKind (r0 : Nat) (x1 : Int32) (x2 : Int32) (q t i : Nat) : Prop := (q = r0 ∧ t = 2)
theorem fr_X8_setKind_J38 (r0 : Nat) (x1 : Int32) (x2 : Int32) (rv : Int32) (σ1 : mm_M)  : ∀ (σ : mm_M), fx_X8_setKind_J38 r0 x1 x2  σ = some (rv, σ1) → mm_fr (fw_X8_setKind r0 x1 x2) σ σ1 := by
  intro  σ hf
  rw [fx_X8_setKind_J38] at hf
  have F : mm_fr (fw_X8_setKind r0 x1 x2) σ σ := mm_fr.rf
  obtain ⟨h_8, hf⟩ := mm_gd_ok hf
  obtain ⟨y_9, e_9, hf⟩ := mm_li_ok hf
  obtain ⟨h_10, hf⟩ := mm_gd_ok hf
  obtain ⟨s_11, e_11, hf⟩ := mm_lt_ok hf
  have F := F.trans (mm_fr.a e_11 (fun _ => ⟨rfl, rfl⟩))
  exact mm_fr.ret hf F
theorem fr_X8_setKind (r0 : Nat) (x1 : Int32) (x2 : Int32) (σ : mm_M) (rv : Int32) (σ1 : mm_M) (hf : fx_X8_setKind r0 x1 x2 σ = some (rv, σ1)) : mm_fr (fw_X8_setKind r0 x1 x2) σ σ1 := by
  rw [fx_X8_setKind] at hf
  have F : mm_fr (fw_X8_setKind r0 x1 x2) σ σ := mm_fr.rf
  obtain ⟨r_1, s_1, e_1, hf⟩ := mm_bd_ok hf
  have F := F.trans (mm_fr.eq (fr_X10_isCell x1 σ r_1 s_1 e_1))
  by_cases c_2 : r_1 = (0 : Int32)
  · replace hf := mm_it c_2 hf
    exact mm_fr.ret hf F
  · replace hf := mm_if c_2 hf
    obtain ⟨r_3, s_3, e_3, hf⟩ := mm_bd_ok hf
    have F := F.trans (mm_fr.eq (fr_X10_isWithin x2 (0 : Int32) (8 : Int32) s_1 r_3 s_3 e_3))
    by_cases c_4 : r_3 = (0 : Int32)
    · replace hf := mm_it c_4 hf
      exact mm_fr.ret hf F
    · replace hf := mm_if c_4 hf
      by_cases c_5 : x2 = (7 : Int32)
      · replace hf := mm_it c_5 hf
        obtain ⟨r_6, s_6, e_6, hf⟩ := mm_bd_ok hf
        have F := F.trans (mm_fr.eq (fr_X8_cartOn r0 x1 s_3 r_6 s_6 e_6))
        by_cases c_7 : r_6 = (-1 : Int32)
        · replace hf := mm_it c_7 hf
          exact F.trans (fr_X8_setKind_J38 r0 x1 x2 rv σ1 s_6 hf)
        · replace hf := mm_if c_7 hf
          exact mm_fr.ret hf F
      · replace hf := mm_if c_5 hf
        exact F.trans (fr_X8_setKind_J38 r0 x1 x2 rv σ1 s_3 hf)
def fw_X10_isError (x0 : Int32) (q t i : Nat) : Prop := False
theorem fr_X10_isError (x0 : Int32) (σ : mm_M) (rv : Int32) (σ1 : mm_M) (hf : fx_X10_isError x0 σ = some (rv, σ1)) : σ1 = σ := by
  refine mm_fr.none (W := (fw_X10_isError x0)) (fun _ _ _ h => h) ?_
  rw [fx_X10_isError] at hf
  have F : mm_fr (fw_X10_isError x0) σ σ := mm_fr.rf
  by_cases c_1 : (0 : Int32) ≤ x0
  · replace hf := mm_it c_1 hf
    exact mm_fr.ret hf F
  · replace hf := mm_if c_1 hf
    exact mm_fr.ret hf F
def fw_X4_dropOldest  (q t i : Nat) : Prop := (q = 6 ∧ t = 10 ∧ i = 1) ∨ (q = 6 ∧ t = 11)
theorem fr_X4_dropOldest_L9  (rv : Int32) (σ1 : mm_M)  : ∀ (fu : Nat) (m1a : Nat) (v2 : Int32) (σ : mm_M), fx_X4_dropOldest_L9  fu m1a v2 σ = some (rv, σ1) → mm_fr (fw_X4_dropOldest) σ σ1 := by
  intro fu
  induction fu with
  | zero =>
    intro m1a v2 σ hf
    exact mm_no hf
  | succ fu ih =>
    intro m1a v2 σ hf
    rw [fx_X4_dropOldest_L9] at hf
    have F : mm_fr (fw_X4_dropOldest) σ σ := mm_fr.rf
    by_cases c_2 : (4 : Int32) ≤ v2
    · replace hf := mm_it c_2 hf
      obtain ⟨s_3, e_3, hf⟩ := mm_lt_ok hf
      have F := F.trans (mm_fr.a e_3 (fun _ => (Or.inr ⟨rfl, rfl⟩)))
      obtain ⟨s_4, e_4, hf⟩ := mm_lt_ok hf
      have F := F.trans (mm_fr.u e_4 ((Or.inl ⟨rfl, rfl, rfl⟩)))
      exact mm_fr.ret hf F
    · replace hf := mm_if c_2 hf
      obtain ⟨h_5, hf⟩ := mm_gd_ok hf
      obtain ⟨h_6, hf⟩ := mm_gd_ok hf
      obtain ⟨h_7, hf⟩ := mm_gd_ok hf
      obtain ⟨s_8, e_8, hf⟩ := mm_lt_ok hf
      have F := F.trans (mm_fr.a e_8 (fun _ => (Or.inr ⟨rfl, rfl⟩)))
      obtain ⟨y_9, e_9, hf⟩ := mm_li_ok hf
      exact F.trans (ih m1a y_9 s_8 hf)
theorem fr_X4_dropOldest  (σ : mm_M) (rv : Int32) (σ1 : mm_M) (hf : fx_X4_dropOldest  σ = some (rv, σ1)) : mm_fr (fw_X4_dropOldest) σ σ1 := by
  rw [fx_X4_dropOldest] at hf
  have F : mm_fr (fw_X4_dropOldest) σ σ := mm_fr.rf
  obtain ⟨h_1, hf⟩ := mm_gd_ok hf
  exact F.trans (fr_X4_dropOldest_L9 rv σ1 mm_FU ((σ 6 11 0 (0 : Int32).toNatClampNeg).toNatClampNeg) (1 : Int32) σ hf)
def fw_X4_add (r1 : Nat) (q t i : Nat) : Prop := (q = 6 ∧ t = 10 ∧ i = 1) ∨ (q = 6 ∧ t = 11) ∨ (q < 6 ∧ t = 0 ∧ i = 2) ∨ (q < 6 ∧ t = 0 ∧ i = 3) ∨ (q < 6 ∧ t = 0 ∧ i = 4) ∨ (q < 6 ∧ t = 0 ∧ i = 5) ∨ (q < 6 ∧ t = 0 ∧ i = 6) ∨ (q < 6 ∧ t = 0 ∧ i = 7) ∨ (q < 6 ∧ t = 1 ∧ i = 3) ∨ (q < 6 ∧ t = 2) ∨ (q < 6 ∧ t = 3) ∨ (q < 6 ∧ t = 4) ∨ (q < 6 ∧ t = 6 ∧ i = 2) ∨ (q < 6 ∧ t = 6 ∧ i = 3) ∨ (q < 6 ∧ t = 6 ∧ i = 4) ∨ (q < 6 ∧ t = 6 ∧ i = 5) ∨ (q < 6 ∧ t = 6 ∧ i = 6) ∨ (q < 6 ∧ t = 6 ∧ i = 7) ∨ (q < 6 ∧ t = 6 ∧ i = 8) ∨ (q < 6 ∧ t = 7) ∨ (q < 6 ∧ t = 8)
theorem fr_X4_add_J12 (r1 : Nat) (rv : Int32) (σ1 : mm_M)  : ∀ (σ : mm_M), fx_X4_add_J12 r1  σ = some (rv, σ1) → mm_fr (fw_X4_add r1) σ σ1 := by
  intro  σ hf
  rw [fx_X4_add_J12] at hf
  have F : mm_fr (fw_X4_add r1) σ σ := mm_fr.rf
  obtain ⟨h_3, hf⟩ := mm_gd_ok hf
  obtain ⟨h_4, hf⟩ := mm_gd_ok hf
  obtain ⟨r_5, s_5, e_5, hf⟩ := mm_bd_ok hf
  have F := F.trans ((fr_X8_copyFrom ((σ 6 11 0 (σ 6 10 0 1).toNatClampNeg).toNatClampNeg) r1 σ r_5 s_5 e_5).mono (fun q t i h => (fun h => h.elim (fun h => (Or.inr (Or.inr (Or.inl ⟨lt_of_eq_of_lt h.1 h_4, h.2⟩)))) (fun h => h.elim (fun h => (Or.inr (Or.inr (Or.inr (Or.inl ⟨lt_of_eq_of_lt h.1 h_4, h.2⟩))))) (fun h => h.elim (fun h => (Or.inr (Or.inr (Or.inr (Or.inr (Or.inl ⟨lt_of_eq_of_lt h.1 h_4, h.2⟩)))))) (fun h => h.elim (fun h => (Or.inr (Or.inr (Or.inr (Or.inr (Or.inr (Or.inl ⟨lt_of_eq_of_lt h.1 h_4, h.2⟩))))))) (fun h => h.elim (fun h => (Or.inr (Or.inr (Or.inr (Or.inr (Or.inr (Or.inr (Or.inl ⟨lt_of_eq_of_lt h.1 h_4, h.2⟩)))))))) (fun h => h.elim (fun h => (Or.inr (Or.inr (Or.inr (Or.inr (Or.inr (Or.inr (Or.inr (Or.inl ⟨lt_of_eq_of_lt h.1 h_4, h.2⟩))))))))) (fun h => h.elim (fun h => (Or.inr (Or.inr (Or.inr (Or.inr (Or.inr (Or.inr (Or.inr (Or.inr (Or.inl ⟨lt_of_eq_of_lt h.1 h_4, h.2⟩)))))))))) (fun h => h.elim (fun h => (Or.inr (Or.inr (Or.inr (Or.inr (Or.inr (Or.inr (Or.inr (Or.inr (Or.inr (Or.inl ⟨lt_of_eq_of_lt h.1 h_4, h.2⟩))))))))))) (fun h => h.elim (fun h => (Or.inr (Or.inr (Or.inr (Or.inr (Or.inr (Or.inr (Or.inr (Or.inr (Or.inr (Or.inr (Or.inl ⟨lt_of_eq_of_lt h.1 h_4, h.2⟩)))))))))))) (fun h => h.elim (fun h => (Or.inr (Or.inr (Or.inr (Or.inr (Or.inr (Or.inr (Or.inr (Or.inr (Or.inr (Or.inr (Or.inr (Or.inl ⟨lt_of_eq_of_lt h.1 h_4, h.2⟩))))))))))))) (fun h => h.elim (fun h => (Or.inr (Or.inr (Or.inr (Or.inr (Or.inr (Or.inr (Or.inr (Or.inr (Or.inr (Or.inr (Or.inr (Or.inr (Or.inl ⟨lt_of_eq_of_lt h.1 h_4, h.2⟩)))))))))))))) (fun h => h.elim (fun h => (Or.inr (Or.inr (Or.inr (Or.inr (Or.inr (Or.inr (Or.inr (Or.inr (Or.inr (Or.inr (Or.inr (Or.inr (Or.inr (Or.inl ⟨lt_of_eq_of_lt h.1 h_4, h.2⟩))))))))))))))) (fun h => h.elim (fun h => (Or.inr (Or.inr (Or.inr (Or.inr (Or.inr (Or.inr (Or.inr (Or.inr (Or.inr (Or.inr (Or.inr (Or.inr (Or.inr (Or.inr (Or.inl ⟨lt_of_eq_of_lt h.1 h_4, h.2⟩)))))))))))))))) (fun h => h.elim (fun h => (Or.inr (Or.inr (Or.inr (Or.inr (Or.inr (Or.inr (Or.inr (Or.inr (Or.inr (Or.inr (Or.inr (Or.inr (Or.inr (Or.inr (Or.inr (Or.inl ⟨lt_of_eq_of_lt h.1 h_4, h.2⟩))))))))))))))))) (fun h => h.elim (fun h => (Or.inr (Or.inr (Or.inr (Or.inr (Or.inr (Or.inr (Or.inr (Or.inr (Or.inr (Or.inr (Or.inr (Or.inr (Or.inr (Or.inr (Or.inr (Or.inr (Or.inl ⟨lt_of_eq_of_lt h.1 h_4, h.2⟩)))))))))))))))))) (fun h => h.elim (fun h => (Or.inr (Or.inr (Or.inr (Or.inr (Or.inr (Or.inr (Or.inr (Or.inr (Or.inr (Or.inr (Or.inr (Or.inr (Or.inr (Or.inr (Or.inr (Or.inr (Or.inr (Or.inl ⟨lt_of_eq_of_lt h.1 h_4, h.2⟩))))))))))))))))))) (fun h => h.elim (fun h => (Or.inr (Or.inr (Or.inr (Or.inr (Or.inr (Or.inr (Or.inr (Or.inr (Or.inr (Or.inr (Or.inr (Or.inr (Or.inr (Or.inr (Or.inr (Or.inr (Or.inr (Or.inr (Or.inl ⟨lt_of_eq_of_lt h.1 h_4, h.2⟩)))))))))))))))))))) (fun h => h.elim (fun h => (Or.inr (Or.inr (Or.inr (Or.inr (Or.inr (Or.inr (Or.inr (Or.inr (Or.inr (Or.inr (Or.inr (Or.inr (Or.inr (Or.inr (Or.inr (Or.inr (Or.inr (Or.inr (Or.inr (Or.inl ⟨lt_of_eq_of_lt h.1 h_4, h.2⟩))))))))))))))))))))) (fun h => (Or.inr (Or.inr (Or.inr (Or.inr (Or.inr (Or.inr (Or.inr (Or.inr (Or.inr (Or.inr (Or.inr (Or.inr (Or.inr (Or.inr (Or.inr (Or.inr (Or.inr (Or.inr (Or.inr (Or.inr ⟨lt_of_eq_of_lt h.1 h_4, h.2⟩))))))))))))))))))))))))))))))))))))))) h))
  obtain ⟨s_6, e_6, hf⟩ := mm_lt_ok hf
  have F := F.trans (mm_fr.u e_6 ((Or.inl ⟨rfl, rfl, rfl⟩)))
  exact mm_fr.ret hf F
theorem fr_X4_add (r1 : Nat) (σ : mm_M) (rv : Int32) (σ1 : mm_M) (hf : fx_X4_add r1 σ = some (rv, σ1)) : mm_fr (fw_X4_add r1) σ σ1 := by
  rw [fx_X4_add] at hf
  have F : mm_fr (fw_X4_add r1) σ σ := mm_fr.rf
  by_cases c_1 : (σ 6 10 0 1) = (4 : Int32)
  · replace hf := mm_it c_1 hf
    obtain ⟨r_2, s_2, e_2, hf⟩ := mm_bd_ok hf
    have F := F.trans ((fr_X4_dropOldest  σ r_2 s_2 e_2).mono (fun q t i h => (fun h => h.elim (fun h => (Or.inl h)) (fun h => (Or.inr (Or.inl h)))) h))
    exact F.trans (fr_X4_add_J12 r1 rv σ1 s_2 hf)
  · replace hf := mm_if c_1 hf
    exact F.trans (fr_X4_add_J12 r1 rv σ1 σ hf)
def fw_X10_keep (x1 : Int32) (q t i : Nat) : Prop := (q = 0 ∧ t = 0 ∧ i = 2) ∨ (q = 0 ∧ t = 0 ∧ i = 3) ∨ (q = 0 ∧ t = 0 ∧ i = 4) ∨ (q = 0 ∧ t = 0 ∧ i = 5) ∨ (q = 0 ∧ t = 0 ∧ i = 6) ∨ (q = 0 ∧ t = 0 ∧ i = 7) ∨ (q = 0 ∧ t = 1 ∧ i = 3) ∨ (q = 0 ∧ t = 2) ∨ (q = 0 ∧ t = 3) ∨ (q = 0 ∧ t = 4) ∨ (q = 0 ∧ t = 6 ∧ i = 2) ∨ (q = 0 ∧ t = 6 ∧ i = 3) ∨ (q = 0 ∧ t = 6 ∧ i = 4) ∨ (q = 0 ∧ t = 6 ∧ i = 5) ∨ (q = 0 ∧ t = 6 ∧ i = 6) ∨ (q = 0 ∧ t = 6 ∧ i = 7) ∨ (q = 0 ∧ t = 6 ∧ i = 8) ∨ (q = 0 ∧ t = 7) ∨ (q = 0 ∧ t = 8) ∨ (q = 6 ∧ t = 10 ∧ i = 1) ∨ (q = 6 ∧ t = 11) ∨ (q < 6 ∧ t = 0 ∧ i = 2) ∨ (q < 6 ∧ t = 0 ∧ i = 3) ∨ (q < 6 ∧ t = 0 ∧ i = 4) ∨ (q < 6 ∧ t = 0 ∧ i = 5) ∨ (q < 6 ∧ t = 0 ∧ i = 6) ∨ (q < 6 ∧ t = 0 ∧ i = 7) ∨ (q < 6 ∧ t = 1 ∧ i = 3) ∨ (q < 6 ∧ t = 2) ∨ (q < 6 ∧ t = 3) ∨ (q < 6 ∧ t = 4) ∨ (q < 6 ∧ t = 6 ∧ i = 2) ∨ (q < 6 ∧ t = 6 ∧ i = 3) ∨ (q < 6 ∧ t = 6 ∧ i = 4) ∨ (q < 6 ∧ t = 6 ∧ i = 5) ∨ (q < 6 ∧ t = 6 ∧ i = 6) ∨ (q < 6 ∧ t = 6 ∧ i = 7) ∨ (q < 6 ∧ t = 6 ∧ i = 8) ∨ (q < 6 ∧ t = 7) ∨ (q < 6 ∧ t = 8)
theorem fr_X10_keep (x1 : Int32) (σ : mm_M) (rv : Int32) (σ1 : mm_M) (hf : fx_X10_keep x1 σ = some (rv, σ1)) : mm_fr (fw_X10_keep x1) σ σ1 := by
  rw [fx_X10_keep] at hf
  have F : mm_fr (fw_X10_keep x1) σ σ := mm_fr.rf
  obtain ⟨r_1, s_1, e_1, hf⟩ := mm_bd_ok hf
  have F := F.trans (mm_fr.eq (fr_X10_isError x1 σ r_1 s_1 e_1))
  by_cases c_2 : r_1 = (0 : Int32)
  · replace hf := mm_it c_2 hf
    obtain ⟨r_3, s_3, e_3, hf⟩ := mm_bd_ok hf
    have F := F.trans ((fr_X4_add 0 s_1 r_3 s_3 e_3).mono (fun q t i h => (fun h => h.elim (fun h => (Or.inr (Or.inr (Or.inr (Or.inr (Or.inr (Or.inr (Or.inr (Or.inr (Or.inr (Or.inr (Or.inr (Or.inr (Or.inr (Or.inr (Or.inr (Or.inr (Or.inr (Or.inr (Or.inr (Or.inl h))))))))))))))))))))) (fun h => h.elim (fun h => (Or.inr (Or.inr (Or.inr (Or.inr (Or.inr (Or.inr (Or.inr (Or.inr (Or.inr (Or.inr (Or.inr (Or.inr (Or.inr (Or.inr (Or.inr (Or.inr (Or.inr (Or.inr (Or.inr (Or.inr (Or.inl h)))))))))))))))))))))) (fun h => h.elim (fun h => (Or.inr (Or.inr (Or.inr (Or.inr (Or.inr (Or.inr (Or.inr (Or.inr (Or.inr (Or.inr (Or.inr (Or.inr (Or.inr (Or.inr (Or.inr (Or.inr (Or.inr (Or.inr (Or.inr (Or.inr (Or.inr (Or.inl h))))))))))))))))))))))) (fun h => h.elim (fun h => (Or.inr (Or.inr (Or.inr (Or.inr (Or.inr (Or.inr (Or.inr (Or.inr (Or.inr (Or.inr (Or.inr (Or.inr (Or.inr (Or.inr (Or.inr (Or.inr (Or.inr (Or.inr (Or.inr (Or.inr (Or.inr (Or.inr (Or.inl h)))))))))))))))))))))))) (fun h => h.elim (fun h => (Or.inr (Or.inr (Or.inr (Or.inr (Or.inr (Or.inr (Or.inr (Or.inr (Or.inr (Or.inr (Or.inr (Or.inr (Or.inr (Or.inr (Or.inr (Or.inr (Or.inr (Or.inr (Or.inr (Or.inr (Or.inr (Or.inr (Or.inr (Or.inl h))))))))))))))))))))))))) (fun h => h.elim (fun h => (Or.inr (Or.inr (Or.inr (Or.inr (Or.inr (Or.inr (Or.inr (Or.inr (Or.inr (Or.inr (Or.inr (Or.inr (Or.inr (Or.inr (Or.inr (Or.inr (Or.inr (Or.inr (Or.inr (Or.inr (Or.inr (Or.inr (Or.inr (Or.inr (Or.inl h)))))))))))))))))))))))))) (fun h => h.elim (fun h => (Or.inr (Or.inr (Or.inr (Or.inr (Or.inr (Or.inr (Or.inr (Or.inr (Or.inr (Or.inr (Or.inr (Or.inr (Or.inr (Or.inr (Or.inr (Or.inr (Or.inr (Or.inr (Or.inr (Or.inr (Or.inr (Or.inr (Or.inr (Or.inr (Or.inr (Or.inl h))))))))))))))))))))))))))) (fun h => h.elim (fun h => (Or.inr (Or.inr (Or.inr (Or.inr (Or.inr (Or.inr (Or.inr (Or.inr (Or.inr (Or.inr (Or.inr (Or.inr (Or.inr (Or.inr (Or.inr (Or.inr (Or.inr (Or.inr (Or.inr (Or.inr (Or.inr (Or.inr (Or.inr (Or.inr (Or.inr (Or.inr (Or.inl h)))))))))))))))))))))))))))) (fun h => h.elim (fun h => (Or.inr (Or.inr (Or.inr (Or.inr (Or.inr (Or.inr (Or.inr (Or.inr (Or.inr (Or.inr (Or.inr (Or.inr (Or.inr (Or.inr (Or.inr (Or.inr (Or.inr (Or.inr (Or.inr (Or.inr (Or.inr (Or.inr (Or.inr (Or.inr (Or.inr (Or.inr (Or.inr (Or.inl h))))))))))))))))))))))))))))) (fun h => h.elim (fun h => (Or.inr (Or.inr (Or.inr (Or.inr (Or.inr (Or.inr (Or.inr (Or.inr (Or.inr (Or.inr (Or.inr (Or.inr (Or.inr (Or.inr (Or.inr (Or.inr (Or.inr (Or.inr (Or.inr (Or.inr (Or.inr (Or.inr (Or.inr (Or.inr (Or.inr (Or.inr (Or.inr (Or.inr (Or.inl h)))))))))))))))))))))))))))))) (fun h => h.elim (fun h => (Or.inr (Or.inr (Or.inr (Or.inr (Or.inr (Or.inr (Or.inr (Or.inr (Or.inr (Or.inr (Or.inr (Or.inr (Or.inr (Or.inr (Or.inr (Or.inr (Or.inr (Or.inr (Or.inr (Or.inr (Or.inr (Or.inr (Or.inr (Or.inr (Or.inr (Or.inr (Or.inr (Or.inr (Or.inr (Or.inl h))))))))))))))))))))))))))))))) (fun h => h.elim (fun h => (Or.inr (Or.inr (Or.inr (Or.inr (Or.inr (Or.inr (Or.inr (Or.inr (Or.inr (Or.inr (Or.inr (Or.inr (Or.inr (Or.inr (Or.inr (Or.inr (Or.inr (Or.inr (Or.inr (Or.inr (Or.inr (Or.inr (Or.inr (Or.inr (Or.inr (Or.inr (Or.inr (Or.inr (Or.inr (Or.inr (Or.inl h)))))))))))))))))))))))))))))))) (fun h => h.elim (fun h => (Or.inr (Or.inr (Or.inr (Or.inr (Or.inr (Or.inr (Or.inr (Or.inr (Or.inr (Or.inr (Or.inr (Or.inr (Or.inr (Or.inr (Or.inr (Or.inr (Or.inr (Or.inr (Or.inr (Or.inr (Or.inr (Or.inr (Or.inr (Or.inr (Or.inr (Or.inr (Or.inr (Or.inr (Or.inr (Or.inr (Or.inr (Or.inl h))))))))))))))))))))))))))))))))) (fun h => h.elim (fun h => (Or.inr (Or.inr (Or.inr (Or.inr (Or.inr (Or.inr (Or.inr (Or.inr (Or.inr (Or.inr (Or.inr (Or.inr (Or.inr (Or.inr (Or.inr (Or.inr (Or.inr (Or.inr (Or.inr (Or.inr (Or.inr (Or.inr (Or.inr (Or.inr (Or.inr (Or.inr (Or.inr (Or.inr (Or.inr (Or.inr (Or.inr (Or.inr (Or.inl h)))))))))))))))))))))))))))))))))) (fun h => h.elim (fun h => (Or.inr (Or.inr (Or.inr (Or.inr (Or.inr (Or.inr (Or.inr (Or.inr (Or.inr (Or.inr (Or.inr (Or.inr (Or.inr (Or.inr (Or.inr (Or.inr (Or.inr (Or.inr (Or.inr (Or.inr (Or.inr (Or.inr (Or.inr (Or.inr (Or.inr (Or.inr (Or.inr (Or.inr (Or.inr (Or.inr (Or.inr (Or.inr (Or.inr (Or.inl h))))))))))))))))))))))))))))))))))) (fun h => h.elim (fun h => (Or.inr (Or.inr (Or.inr (Or.inr (Or.inr (Or.inr (Or.inr (Or.inr (Or.inr (Or.inr (Or.inr (Or.inr (Or.inr (Or.inr (Or.inr (Or.inr (Or.inr (Or.inr (Or.inr (Or.inr (Or.inr (Or.inr (Or.inr (Or.inr (Or.inr (Or.inr (Or.inr (Or.inr (Or.inr (Or.inr (Or.inr (Or.inr (Or.inr (Or.inr (Or.inl h)))))))))))))))))))))))))))))))))))) (fun h => h.elim (fun h => (Or.inr (Or.inr (Or.inr (Or.inr (Or.inr (Or.inr (Or.inr (Or.inr (Or.inr (Or.inr (Or.inr (Or.inr (Or.inr (Or.inr (Or.inr (Or.inr (Or.inr (Or.inr (Or.inr (Or.inr (Or.inr (Or.inr (Or.inr (Or.inr (Or.inr (Or.inr (Or.inr (Or.inr (Or.inr (Or.inr (Or.inr (Or.inr (Or.inr (Or.inr (Or.inr (Or.inl h))))))))))))))))))))))))))))))))))))) (fun h => h.elim (fun h => (Or.inr (Or.inr (Or.inr (Or.inr (Or.inr (Or.inr (Or.inr (Or.inr (Or.inr (Or.inr (Or.inr (Or.inr (Or.inr (Or.inr (Or.inr (Or.inr (Or.inr (Or.inr (Or.inr (Or.inr (Or.inr (Or.inr (Or.inr (Or.inr (Or.inr (Or.inr (Or.inr (Or.inr (Or.inr (Or.inr (Or.inr (Or.inr (Or.inr (Or.inr (Or.inr (Or.inr (Or.inl h)))))))))))))))))))))))))))))))))))))) (fun h => h.elim (fun h => (Or.inr (Or.inr (Or.inr (Or.inr (Or.inr (Or.inr (Or.inr (Or.inr (Or.inr (Or.inr (Or.inr (Or.inr (Or.inr (Or.inr (Or.inr (Or.inr (Or.inr (Or.inr (Or.inr (Or.inr (Or.inr (Or.inr (Or.inr (Or.inr (Or.inr (Or.inr (Or.inr (Or.inr (Or.inr (Or.inr (Or.inr (Or.inr (Or.inr (Or.inr (Or.inr (Or.inr (Or.inr (Or.inl h))))))))))))))))))))))))))))))))))))))) (fun h => h.elim (fun h => (Or.inr (Or.inr (Or.inr (Or.inr (Or.inr (Or.inr (Or.inr (Or.inr (Or.inr (Or.inr (Or.inr (Or.inr (Or.inr (Or.inr (Or.inr (Or.inr (Or.inr (Or.inr (Or.inr (Or.inr (Or.inr (Or.inr (Or.inr (Or.inr (Or.inr (Or.inr (Or.inr (Or.inr (Or.inr (Or.inr (Or.inr (Or.inr (Or.inr (Or.inr (Or.inr (Or.inr (Or.inr (Or.inr (Or.inl h)))))))))))))))))))))))))))))))))))))))) (fun h => (Or.inr (Or.inr (Or.inr (Or.inr (Or.inr (Or.inr (Or.inr (Or.inr (Or.inr (Or.inr (Or.inr (Or.inr (Or.inr (Or.inr (Or.inr (Or.inr (Or.inr (Or.inr (Or.inr (Or.inr (Or.inr (Or.inr (Or.inr (Or.inr (Or.inr (Or.inr (Or.inr (Or.inr (Or.inr (Or.inr (Or.inr (Or.inr (Or.inr (Or.inr (Or.inr (Or.inr (Or.inr (Or.inr (Or.inr h)))))))))))))))))))))))))))))))))))))))))))))))))))))))))))) h))
    obtain ⟨r_4, s_4, e_4, hf⟩ := mm_bd_ok hf
    have F := F.trans ((fr_X8_copyFrom 0 1 s_3 r_4 s_4 e_4).mono (fun q t i h => (fun h => h.elim (fun h => (Or.inl h)) (fun h => h.elim (fun h => (Or.inr (Or.inl h))) (fun h => h.elim (fun h => (Or.inr (Or.inr (Or.inl h)))) (fun h => h.elim (fun h => (Or.inr (Or.inr (Or.inr (Or.inl h))))) (fun h => h.elim (fun h => (Or.inr (Or.inr (Or.inr (Or.inr (Or.inl h)))))) (fun h => h.elim (fun h => (Or.inr (Or.inr (Or.inr (Or.inr (Or.inr (Or.inl h))))))) (fun h => h.elim (fun h => (Or.inr (Or.inr (Or.inr (Or.inr (Or.inr (Or.inr (Or.inl h)))))))) (fun h => h.elim (fun h => (Or.inr (Or.inr (Or.inr (Or.inr (Or.inr (Or.inr (Or.inr (Or.inl h))))))))) (fun h => h.elim (fun h => (Or.inr (Or.inr (Or.inr (Or.inr (Or.inr (Or.inr (Or.inr (Or.inr (Or.inl h)))))))))) (fun h => h.elim (fun h => (Or.inr (Or.inr (Or.inr (Or.inr (Or.inr (Or.inr (Or.inr (Or.inr (Or.inr (Or.inl h))))))))))) (fun h => h.elim (fun h => (Or.inr (Or.inr (Or.inr (Or.inr (Or.inr (Or.inr (Or.inr (Or.inr (Or.inr (Or.inr (Or.inl h)))))))))))) (fun h => h.elim (fun h => (Or.inr (Or.inr (Or.inr (Or.inr (Or.inr (Or.inr (Or.inr (Or.inr (Or.inr (Or.inr (Or.inr (Or.inl h))))))))))))) (fun h => h.elim (fun h => (Or.inr (Or.inr (Or.inr (Or.inr (Or.inr (Or.inr (Or.inr (Or.inr (Or.inr (Or.inr (Or.inr (Or.inr (Or.inl h)))))))))))))) (fun h => h.elim (fun h => (Or.inr (Or.inr (Or.inr (Or.inr (Or.inr (Or.inr (Or.inr (Or.inr (Or.inr (Or.inr (Or.inr (Or.inr (Or.inr (Or.inl h))))))))))))))) (fun h => h.elim (fun h => (Or.inr (Or.inr (Or.inr (Or.inr (Or.inr (Or.inr (Or.inr (Or.inr (Or.inr (Or.inr (Or.inr (Or.inr (Or.inr (Or.inr (Or.inl h)))))))))))))))) (fun h => h.elim (fun h => (Or.inr (Or.inr (Or.inr (Or.inr (Or.inr (Or.inr (Or.inr (Or.inr (Or.inr (Or.inr (Or.inr (Or.inr (Or.inr (Or.inr (Or.inr (Or.inl h))))))))))))))))) (fun h => h.elim (fun h => (Or.inr (Or.inr (Or.inr (Or.inr (Or.inr (Or.inr (Or.inr (Or.inr (Or.inr (Or.inr (Or.inr (Or.inr (Or.inr (Or.inr (Or.inr (Or.inr (Or.inl h)))))))))))))))))) (fun h => h.elim (fun h => (Or.inr (Or.inr (Or.inr (Or.inr (Or.inr (Or.inr (Or.inr (Or.inr (Or.inr (Or.inr (Or.inr (Or.inr (Or.inr (Or.inr (Or.inr (Or.inr (Or.inr (Or.inl h))))))))))))))))))) (fun h => (Or.inr (Or.inr (Or.inr (Or.inr (Or.inr (Or.inr (Or.inr (Or.inr (Or.inr (Or.inr (Or.inr (Or.inr (Or.inr (Or.inr (Or.inr (Or.inr (Or.inr (Or.inr (Or.inl h)))))))))))))))))))))))))))))))))))))) h))
    exact mm_fr.ret hf F
  · replace hf := mm_if c_2 hf
    exact mm_fr.ret hf F
def fw_X10_kind (x1 : Int32) (x2 : Int32) (q t i : Nat) : Prop := (q = 0 ∧ t = 0 ∧ i = 2) ∨ (q = 0 ∧ t = 0 ∧ i = 3) ∨ (q = 0 ∧ t = 0 ∧ i = 4) ∨ (q = 0 ∧ t = 0 ∧ i = 5) ∨ (q = 0 ∧ t = 0 ∧ i = 6) ∨ (q = 0 ∧ t = 0 ∧ i = 7) ∨ (q = 0 ∧ t = 1 ∧ i = 3) ∨ (q = 0 ∧ t = 2) ∨ (q = 0 ∧ t = 3) ∨ (q = 0 ∧ t = 4) ∨ (q = 0 ∧ t = 6 ∧ i = 2) ∨ (q = 0 ∧ t = 6 ∧ i = 3) ∨ (q = 0 ∧ t = 6 ∧ i = 4) ∨ (q = 0 ∧ t = 6 ∧ i = 5) ∨ (q = 0 ∧ t = 6 ∧ i = 6) ∨ (q = 0 ∧ t = 6 ∧ i = 7) ∨ (q = 0 ∧ t = 6 ∧ i = 8) ∨ (q = 0 ∧ t = 7) ∨ (q = 0 ∧ t = 8) ∨ (q = 1 ∧ t = 0 ∧ i = 2) ∨ (q = 1 ∧ t = 0 ∧ i = 3) ∨ (q = 1 ∧ t = 0 ∧ i = 4) ∨ (q = 1 ∧ t = 0 ∧ i = 5) ∨ (q = 1 ∧ t = 0 ∧ i = 6) ∨ (q = 1 ∧ t = 0 ∧ i = 7) ∨ (q = 1 ∧ t = 1 ∧ i = 3) ∨ (q = 1 ∧ t = 2) ∨ (q = 1 ∧ t = 3) ∨ (q = 1 ∧ t = 4) ∨ (q = 1 ∧ t = 6 ∧ i = 2) ∨ (q = 1 ∧ t = 6 ∧ i = 3) ∨ (q = 1 ∧ t = 6 ∧ i = 4) ∨ (q = 1 ∧ t = 6 ∧ i = 5) ∨ (q = 1 ∧ t = 6 ∧ i = 6) ∨ (q = 1 ∧ t = 6 ∧ i = 7) ∨ (q = 1 ∧ t = 6 ∧ i = 8) ∨ (q = 1 ∧ t = 7) ∨ (q = 1 ∧ t = 8) ∨ (q = 6 ∧ t = 10 ∧ i = 1) ∨ (q = 6 ∧ t = 11) ∨ (q < 6 ∧ t = 0 ∧ i = 2) ∨ (q < 6 ∧ t = 0 ∧ i = 3) ∨ (q < 6 ∧ t = 0 ∧ i = 4) ∨ (q < 6 ∧ t = 0 ∧ i = 5) ∨ (q < 6 ∧ t = 0 ∧ i = 6) ∨ (q < 6 ∧ t = 0 ∧ i = 7) ∨ (q < 6 ∧ t = 1 ∧ i = 3) ∨ (q < 6 ∧ t = 2) ∨ (q < 6 ∧ t = 3) ∨ (q < 6 ∧ t = 4) ∨ (q < 6 ∧ t = 6 ∧ i = 2) ∨ (q < 6 ∧ t = 6 ∧ i = 3) ∨ (q < 6 ∧ t = 6 ∧ i = 4) ∨ (q < 6 ∧ t = 6 ∧ i = 5) ∨ (q < 6 ∧ t = 6 ∧ i = 6) ∨ (q < 6 ∧ t = 6 ∧ i = 7) ∨ (q < 6 ∧ t = 6 ∧ i = 8) ∨ (q < 6 ∧ t = 7) ∨ (q < 6 ∧ t = 8)
theorem fr_X10_kind (x1 : Int32) (x2 : Int32) (σ : mm_M) (rv : Int32) (σ1 : mm_M) (hf : fx_X10_kind x1 x2 σ = some (rv, σ1)) : mm_fr (fw_X10_kind x1 x2) σ σ1 := by
  rw [fx_X10_kind] at hf
  have F : mm_fr (fw_X10_kind x1 x2) σ σ := mm_fr.rf
  obtain ⟨r_1, s_1, e_1, hf⟩ := mm_bd_ok hf
  have F := F.trans ((fr_X10_freshTrial  σ r_1 s_1 e_1).mono (fun q t i h => (fun h => h.elim (fun h => (Or.inr (Or.inr (Or.inr (Or.inr (Or.inr (Or.inr (Or.inr (Or.inr (Or.inr (Or.inr (Or.inr (Or.inr (Or.inr (Or.inr (Or.inr (Or.inr (Or.inr (Or.inr (Or.inr (Or.inl h))))))))))))))))))))) (fun h => h.elim (fun h => (Or.inr (Or.inr (Or.inr (Or.inr (Or.inr (Or.inr (Or.inr (Or.inr (Or.inr (Or.inr (Or.inr (Or.inr (Or.inr (Or.inr (Or.inr (Or.inr (Or.inr (Or.inr (Or.inr (Or.inr (Or.inl h)))))))))))))))))))))) (fun h => h.elim (fun h => (Or.inr (Or.inr (Or.inr (Or.inr (Or.inr (Or.inr (Or.inr (Or.inr (Or.inr (Or.inr (Or.inr (Or.inr (Or.inr (Or.inr (Or.inr (Or.inr (Or.inr (Or.inr (Or.inr (Or.inr (Or.inr (Or.inl h))))))))))))))))))))))) (fun h => h.elim (fun h => (Or.inr (Or.inr (Or.inr (Or.inr (Or.inr (Or.inr (Or.inr (Or.inr (Or.inr (Or.inr (Or.inr (Or.inr (Or.inr (Or.inr (Or.inr (Or.inr (Or.inr (Or.inr (Or.inr (Or.inr (Or.inr (Or.inr (Or.inl h)))))))))))))))))))))))) (fun h => h.elim (fun h => (Or.inr (Or.inr (Or.inr (Or.inr (Or.inr (Or.inr (Or.inr (Or.inr (Or.inr (Or.inr (Or.inr (Or.inr (Or.inr (Or.inr (Or.inr (Or.inr (Or.inr (Or.inr (Or.inr (Or.inr (Or.inr (Or.inr (Or.inr (Or.inl h))))))))))))))))))))))))) (fun h => h.elim (fun h => (Or.inr (Or.inr (Or.inr (Or.inr (Or.inr (Or.inr (Or.inr (Or.inr (Or.inr (Or.inr (Or.inr (Or.inr (Or.inr (Or.inr (Or.inr (Or.inr (Or.inr (Or.inr (Or.inr (Or.inr (Or.inr (Or.inr (Or.inr (Or.inr (Or.inl h)))))))))))))))))))))))))) (fun h => h.elim (fun h => (Or.inr (Or.inr (Or.inr (Or.inr (Or.inr (Or.inr (Or.inr (Or.inr (Or.inr (Or.inr (Or.inr (Or.inr (Or.inr (Or.inr (Or.inr (Or.inr (Or.inr (Or.inr (Or.inr (Or.inr (Or.inr (Or.inr (Or.inr (Or.inr (Or.inr (Or.inl h))))))))))))))))))))))))))) (fun h => h.elim (fun h => (Or.inr (Or.inr (Or.inr (Or.inr (Or.inr (Or.inr (Or.inr (Or.inr (Or.inr (Or.inr (Or.inr (Or.inr (Or.inr (Or.inr (Or.inr (Or.inr (Or.inr (Or.inr (Or.inr (Or.inr (Or.inr (Or.inr (Or.inr (Or.inr (Or.inr (Or.inr (Or.inl h)))))))))))))))))))))))))))) (fun h => h.elim (fun h => (Or.inr (Or.inr (Or.inr (Or.inr (Or.inr (Or.inr (Or.inr (Or.inr (Or.inr (Or.inr (Or.inr (Or.inr (Or.inr (Or.inr (Or.inr (Or.inr (Or.inr (Or.inr (Or.inr (Or.inr (Or.inr (Or.inr (Or.inr (Or.inr (Or.inr (Or.inr (Or.inr (Or.inl h))))))))))))))))))))))))))))) (fun h => h.elim (fun h => (Or.inr (Or.inr (Or.inr (Or.inr (Or.inr (Or.inr (Or.inr (Or.inr (Or.inr (Or.inr (Or.inr (Or.inr (Or.inr (Or.inr (Or.inr (Or.inr (Or.inr (Or.inr (Or.inr (Or.inr (Or.inr (Or.inr (Or.inr (Or.inr (Or.inr (Or.inr (Or.inr (Or.inr (Or.inl h)))))))))))))))))))))))))))))) (fun h => h.elim (fun h => (Or.inr (Or.inr (Or.inr (Or.inr (Or.inr (Or.inr (Or.inr (Or.inr (Or.inr (Or.inr (Or.inr (Or.inr (Or.inr (Or.inr (Or.inr (Or.inr (Or.inr (Or.inr (Or.inr (Or.inr (Or.inr (Or.inr (Or.inr (Or.inr (Or.inr (Or.inr (Or.inr (Or.inr (Or.inr (Or.inl h))))))))))))))))))))))))))))))) (fun h => h.elim (fun h => (Or.inr (Or.inr (Or.inr (Or.inr (Or.inr (Or.inr (Or.inr (Or.inr (Or.inr (Or.inr (Or.inr (Or.inr (Or.inr (Or.inr (Or.inr (Or.inr (Or.inr (Or.inr (Or.inr (Or.inr (Or.inr (Or.inr (Or.inr (Or.inr (Or.inr (Or.inr (Or.inr (Or.inr (Or.inr (Or.inr (Or.inl h)))))))))))))))))))))))))))))))) (fun h => h.elim (fun h => (Or.inr (Or.inr (Or.inr (Or.inr (Or.inr (Or.inr (Or.inr (Or.inr (Or.inr (Or.inr (Or.inr (Or.inr (Or.inr (Or.inr (Or.inr (Or.inr (Or.inr (Or.inr (Or.inr (Or.inr (Or.inr (Or.inr (Or.inr (Or.inr (Or.inr (Or.inr (Or.inr (Or.inr (Or.inr (Or.inr (Or.inr (Or.inl h))))))))))))))))))))))))))))))))) (fun h => h.elim (fun h => (Or.inr (Or.inr (Or.inr (Or.inr (Or.inr (Or.inr (Or.inr (Or.inr (Or.inr (Or.inr (Or.inr (Or.inr (Or.inr (Or.inr (Or.inr (Or.inr (Or.inr (Or.inr (Or.inr (Or.inr (Or.inr (Or.inr (Or.inr (Or.inr (Or.inr (Or.inr (Or.inr (Or.inr (Or.inr (Or.inr (Or.inr (Or.inr (Or.inl h)))))))))))))))))))))))))))))))))) (fun h => h.elim (fun h => (Or.inr (Or.inr (Or.inr (Or.inr (Or.inr (Or.inr (Or.inr (Or.inr (Or.inr (Or.inr (Or.inr (Or.inr (Or.inr (Or.inr (Or.inr (Or.inr (Or.inr (Or.inr (Or.inr (Or.inr (Or.inr (Or.inr (Or.inr (Or.inr (Or.inr (Or.inr (Or.inr (Or.inr (Or.inr (Or.inr (Or.inr (Or.inr (Or.inr (Or.inl h))))))))))))))))))))))))))))))))))) (fun h => h.elim (fun h => (Or.inr (Or.inr (Or.inr (Or.inr (Or.inr (Or.inr (Or.inr (Or.inr (Or.inr (Or.inr (Or.inr (Or.inr (Or.inr (Or.inr (Or.inr (Or.inr (Or.inr (Or.inr (Or.inr (Or.inr (Or.inr (Or.inr (Or.inr (Or.inr (Or.inr (Or.inr (Or.inr (Or.inr (Or.inr (Or.inr (Or.inr (Or.inr (Or.inr (Or.inr (Or.inl h)))))))))))))))))))))))))))))))))))) (fun h => h.elim (fun h => (Or.inr (Or.inr (Or.inr (Or.inr (Or.inr (Or.inr (Or.inr (Or.inr (Or.inr (Or.inr (Or.inr (Or.inr (Or.inr (Or.inr (Or.inr (Or.inr (Or.inr (Or.inr (Or.inr (Or.inr (Or.inr (Or.inr (Or.inr (Or.inr (Or.inr (Or.inr (Or.inr (Or.inr (Or.inr (Or.inr (Or.inr (Or.inr (Or.inr (Or.inr (Or.inr (Or.inl h))))))))))))))))))))))))))))))))))))) (fun h => h.elim (fun h => (Or.inr (Or.inr (Or.inr (Or.inr (Or.inr (Or.inr (Or.inr (Or.inr (Or.inr (Or.inr (Or.inr (Or.inr (Or.inr (Or.inr (Or.inr (Or.inr (Or.inr (Or.inr (Or.inr (Or.inr (Or.inr (Or.inr (Or.inr (Or.inr (Or.inr (Or.inr (Or.inr (Or.inr (Or.inr (Or.inr (Or.inr (Or.inr (Or.inr (Or.inr (Or.inr (Or.inr (Or.inl h)))))))))))))))))))))))))))))))))))))) (fun h => (Or.inr (Or.inr (Or.inr (Or.inr (Or.inr (Or.inr (Or.inr (Or.inr (Or.inr (Or.inr (Or.inr (Or.inr (Or.inr (Or.inr (Or.inr (Or.inr (Or.inr (Or.inr (Or.inr (Or.inr (Or.inr (Or.inr (Or.inr (Or.inr (Or.inr (Or.inr (Or.inr (Or.inr (Or.inr (Or.inr (Or.inr (Or.inr (Or.inr (Or.inr (Or.inr (Or.inr (Or.inr (Or.inl h))))))))))))))))))))))))))))))))))))))))))))))))))))))))) h))
  obtain ⟨r_2, s_2, e_2, hf⟩ := mm_bd_ok hf
  have F := F.trans ((fr_X8_setKind 1 x1 x2 s_1 r_2 s_2 e_2).mono (fun q t i h => (fun h => (Or.inr (Or.inr (Or.inr (Or.inr (Or.inr (Or.inr (Or.inr (Or.inr (Or.inr (Or.inr (Or.inr (Or.inr (Or.inr (Or.inr (Or.inr (Or.inr (Or.inr (Or.inr (Or.inr (Or.inr (Or.inr (Or.inr (Or.inr (Or.inr (Or.inr (Or.inr (Or.inl h)))))))))))))))))))))))))))) h))
  obtain ⟨r_3, s_3, e_3, hf⟩ := mm_bd_ok hf
  have F := F.trans ((fr_X10_keep r_2 s_2 r_3 s_3 e_3).mono (fun q t i h => (fun h => h.elim (fun h => (Or.inl h)) (fun h => h.elim (fun h => (Or.inr (Or.inl h))) (fun h => h.elim (fun h => (Or.inr (Or.inr (Or.inl h)))) (fun h => h.elim (fun h => (Or.inr (Or.inr (Or.inr (Or.inl h))))) (fun h => h.elim (fun h => (Or.inr (Or.inr (Or.inr (Or.inr (Or.inl h)))))) (fun h => h.elim (fun h => (Or.inr (Or.inr (Or.inr (Or.inr (Or.inr (Or.inl h))))))) (fun h => h.elim (fun h => (Or.inr (Or.inr (Or.inr (Or.inr (Or.inr (Or.inr (Or.inl h)))))))) (fun h => h.elim (fun h => (Or.inr (Or.inr (Or.inr (Or.inr (Or.inr (Or.inr (Or.inr (Or.inl h))))))))) (fun h => h.elim (fun h => (Or.inr (Or.inr (Or.inr (Or.inr (Or.inr (Or.inr (Or.inr (Or.inr (Or.inl h)))))))))) (fun h => h.elim (fun h => (Or.inr (Or.inr (Or.inr (Or.inr (Or.inr (Or.inr (Or.inr (Or.inr (Or.inr (Or.inl h))))))))))) (fun h => h.elim (fun h => (Or.inr (Or.inr (Or.inr (Or.inr (Or.inr (Or.inr (Or.inr (Or.inr (Or.inr (Or.inr (Or.inl h)))))))))))) (fun h => h.elim (fun h => (Or.inr (Or.inr (Or.inr (Or.inr (Or.inr (Or.inr (Or.inr (Or.inr (Or.inr (Or.inr (Or.inr (Or.inl h))))))))))))) (fun h => h.elim (fun h => (Or.inr (Or.inr (Or.inr (Or.inr (Or.inr (Or.inr (Or.inr (Or.inr (Or.inr (Or.inr (Or.inr (Or.inr (Or.inl h)))))))))))))) (fun h => h.elim (fun h => (Or.inr (Or.inr (Or.inr (Or.inr (Or.inr (Or.inr (Or.inr (Or.inr (Or.inr (Or.inr (Or.inr (Or.inr (Or.inr (Or.inl h))))))))))))))) (fun h => h.elim (fun h => (Or.inr (Or.inr (Or.inr (Or.inr (Or.inr (Or.inr (Or.inr (Or.inr (Or.inr (Or.inr (Or.inr (Or.inr (Or.inr (Or.inr (Or.inl h)))))))))))))))) (fun h => h.elim (fun h => (Or.inr (Or.inr (Or.inr (Or.inr (Or.inr (Or.inr (Or.inr (Or.inr (Or.inr (Or.inr (Or.inr (Or.inr (Or.inr (Or.inr (Or.inr (Or.inl h))))))))))))))))) (fun h => h.elim (fun h => (Or.inr (Or.inr (Or.inr (Or.inr (Or.inr (Or.inr (Or.inr (Or.inr (Or.inr (Or.inr (Or.inr (Or.inr (Or.inr (Or.inr (Or.inr (Or.inr (Or.inl h)))))))))))))))))) (fun h => h.elim (fun h => (Or.inr (Or.inr (Or.inr (Or.inr (Or.inr (Or.inr (Or.inr (Or.inr (Or.inr (Or.inr (Or.inr (Or.inr (Or.inr (Or.inr (Or.inr (Or.inr (Or.inr (Or.inl h))))))))))))))))))) (fun h => h.elim (fun h => (Or.inr (Or.inr (Or.inr (Or.inr (Or.inr (Or.inr (Or.inr (Or.inr (Or.inr (Or.inr (Or.inr (Or.inr (Or.inr (Or.inr (Or.inr (Or.inr (Or.inr (Or.inr (Or.inl h)))))))))))))))))))) (fun h => h.elim (fun h => (Or.inr (Or.inr (Or.inr (Or.inr (Or.inr (Or.inr (Or.inr (Or.inr (Or.inr (Or.inr (Or.inr (Or.inr (Or.inr (Or.inr (Or.inr (Or.inr (Or.inr (Or.inr (Or.inr (Or.inr (Or.inr (Or.inr (Or.inr (Or.inr (Or.inr (Or.inr (Or.inr (Or.inr (Or.inr (Or.inr (Or.inr (Or.inr (Or.inr (Or.inr (Or.inr (Or.inr (Or.inr (Or.inr (Or.inl h)))))))))))))))))))))))))))))))))))))))) (fun h => h.elim (fun h => (Or.inr (Or.inr (Or.inr (Or.inr (Or.inr (Or.inr (Or.inr (Or.inr (Or.inr (Or.inr (Or.inr (Or.inr (Or.inr (Or.inr (Or.inr (Or.inr (Or.inr (Or.inr (Or.inr (Or.inr (Or.inr (Or.inr (Or.inr (Or.inr (Or.inr (Or.inr (Or.inr (Or.inr (Or.inr (Or.inr (Or.inr (Or.inr (Or.inr (Or.inr (Or.inr (Or.inr (Or.inr (Or.inr (Or.inr (Or.inl h))))))))))))))))))))))))))))))))))))))))) (fun h => h.elim (fun h => (Or.inr (Or.inr (Or.inr (Or.inr (Or.inr (Or.inr (Or.inr (Or.inr (Or.inr (Or.inr (Or.inr (Or.inr (Or.inr (Or.inr (Or.inr (Or.inr (Or.inr (Or.inr (Or.inr (Or.inr (Or.inr (Or.inr (Or.inr (Or.inr (Or.inr (Or.inr (Or.inr (Or.inr (Or.inr (Or.inr (Or.inr (Or.inr (Or.inr (Or.inr (Or.inr (Or.inr (Or.inr (Or.inr (Or.inr (Or.inr (Or.inl h)))))))))))))))))))))))))))))))))))))))))) (fun h => h.elim (fun h => (Or.inr (Or.inr (Or.inr (Or.inr (Or.inr (Or.inr (Or.inr (Or.inr (Or.inr (Or.inr (Or.inr (Or.inr (Or.inr (Or.inr (Or.inr (Or.inr (Or.inr (Or.inr (Or.inr (Or.inr (Or.inr (Or.inr (Or.inr (Or.inr (Or.inr (Or.inr (Or.inr (Or.inr (Or.inr (Or.inr (Or.inr (Or.inr (Or.inr (Or.inr (Or.inr (Or.inr (Or.inr (Or.inr (Or.inr (Or.inr (Or.inr (Or.inl h))))))))))))))))))))))))))))))))))))))))))) (fun h => h.elim (fun h => (Or.inr (Or.inr (Or.inr (Or.inr (Or.inr (Or.inr (Or.inr (Or.inr (Or.inr (Or.inr (Or.inr (Or.inr (Or.inr (Or.inr (Or.inr (Or.inr (Or.inr (Or.inr (Or.inr (Or.inr (Or.inr (Or.inr (Or.inr (Or.inr (Or.inr (Or.inr (Or.inr (Or.inr (Or.inr (Or.inr (Or.inr (Or.inr (Or.inr (Or.inr (Or.inr (Or.inr (Or.inr (Or.inr (Or.inr (Or.inr (Or.inr (Or.inr (Or.inl h)))))))))))))))))))))))))))))))))))))))))))) (fun h => h.elim (fun h => (Or.inr (Or.inr (Or.inr (Or.inr (Or.inr (Or.inr (Or.inr (Or.inr (Or.inr (Or.inr (Or.inr (Or.inr (Or.inr (Or.inr (Or.inr (Or.inr (Or.inr (Or.inr (Or.inr (Or.inr (Or.inr (Or.inr (Or.inr (Or.inr (Or.inr (Or.inr (Or.inr (Or.inr (Or.inr (Or.inr (Or.inr (Or.inr (Or.inr (Or.inr (Or.inr (Or.inr (Or.inr (Or.inr (Or.inr (Or.inr (Or.inr (Or.inr (Or.inr (Or.inl h))))))))))))))))))))))))))))))))))))))))))))) (fun h => h.elim (fun h => (Or.inr (Or.inr (Or.inr (Or.inr (Or.inr (Or.inr (Or.inr (Or.inr (Or.inr (Or.inr (Or.inr (Or.inr (Or.inr (Or.inr (Or.inr (Or.inr (Or.inr (Or.inr (Or.inr (Or.inr (Or.inr (Or.inr (Or.inr (Or.inr (Or.inr (Or.inr (Or.inr (Or.inr (Or.inr (Or.inr (Or.inr (Or.inr (Or.inr (Or.inr (Or.inr (Or.inr (Or.inr (Or.inr (Or.inr (Or.inr (Or.inr (Or.inr (Or.inr (Or.inr (Or.inl h)))))))))))))))))))))))))))))))))))))))))))))) (fun h => h.elim (fun h => (Or.inr (Or.inr (Or.inr (Or.inr (Or.inr (Or.inr (Or.inr (Or.inr (Or.inr (Or.inr (Or.inr (Or.inr (Or.inr (Or.inr (Or.inr (Or.inr (Or.inr (Or.inr (Or.inr (Or.inr (Or.inr (Or.inr (Or.inr (Or.inr (Or.inr (Or.inr (Or.inr (Or.inr (Or.inr (Or.inr (Or.inr (Or.inr (Or.inr (Or.inr (Or.inr (Or.inr (Or.inr (Or.inr (Or.inr (Or.inr (Or.inr (Or.inr (Or.inr (Or.inr (Or.inr (Or.inl h))))))))))))))))))))))))))))))))))))))))))))))) (fun h => h.elim (fun h => (Or.inr (Or.inr (Or.inr (Or.inr (Or.inr (Or.inr (Or.inr (Or.inr (Or.inr (Or.inr (Or.inr (Or.inr (Or.inr (Or.inr (Or.inr (Or.inr (Or.inr (Or.inr (Or.inr (Or.inr (Or.inr (Or.inr (Or.inr (Or.inr (Or.inr (Or.inr (Or.inr (Or.inr (Or.inr (Or.inr (Or.inr (Or.inr (Or.inr (Or.inr (Or.inr (Or.inr (Or.inr (Or.inr (Or.inr (Or.inr (Or.inr (Or.inr (Or.inr (Or.inr (Or.inr (Or.inr (Or.inl h)))))))))))))))))))))))))))))))))))))))))))))))) (fun h => h.elim (fun h => (Or.inr (Or.inr (Or.inr (Or.inr (Or.inr (Or.inr (Or.inr (Or.inr (Or.inr (Or.inr (Or.inr (Or.inr (Or.inr (Or.inr (Or.inr (Or.inr (Or.inr (Or.inr (Or.inr (Or.inr (Or.inr (Or.inr (Or.inr (Or.inr (Or.inr (Or.inr (Or.inr (Or.inr (Or.inr (Or.inr (Or.inr (Or.inr (Or.inr (Or.inr (Or.inr (Or.inr (Or.inr (Or.inr (Or.inr (Or.inr (Or.inr (Or.inr (Or.inr (Or.inr (Or.inr (Or.inr (Or.inr (Or.inl h))))))))))))))))))))))))))))))))))))))))))))))))) (fun h => h.elim (fun h => (Or.inr (Or.inr (Or.inr (Or.inr (Or.inr (Or.inr (Or.inr (Or.inr (Or.inr (Or.inr (Or.inr (Or.inr (Or.inr (Or.inr (Or.inr (Or.inr (Or.inr (Or.inr (Or.inr (Or.inr (Or.inr (Or.inr (Or.inr (Or.inr (Or.inr (Or.inr (Or.inr (Or.inr (Or.inr (Or.inr (Or.inr (Or.inr (Or.inr (Or.inr (Or.inr (Or.inr (Or.inr (Or.inr (Or.inr (Or.inr (Or.inr (Or.inr (Or.inr (Or.inr (Or.inr (Or.inr (Or.inr (Or.inr (Or.inl h)))))))))))))))))))))))))))))))))))))))))))))))))) (fun h => h.elim (fun h => (Or.inr (Or.inr (Or.inr (Or.inr (Or.inr (Or.inr (Or.inr (Or.inr (Or.inr (Or.inr (Or.inr (Or.inr (Or.inr (Or.inr (Or.inr (Or.inr (Or.inr (Or.inr (Or.inr (Or.inr (Or.inr (Or.inr (Or.inr (Or.inr (Or.inr (Or.inr (Or.inr (Or.inr (Or.inr (Or.inr (Or.inr (Or.inr (Or.inr (Or.inr (Or.inr (Or.inr (Or.inr (Or.inr (Or.inr (Or.inr (Or.inr (Or.inr (Or.inr (Or.inr (Or.inr (Or.inr (Or.inr (Or.inr (Or.inr (Or.inl h))))))))))))))))))))))))))))))))))))))))))))))))))) (fun h => h.elim (fun h => (Or.inr (Or.inr (Or.inr (Or.inr (Or.inr (Or.inr (Or.inr (Or.inr (Or.inr (Or.inr (Or.inr (Or.inr (Or.inr (Or.inr (Or.inr (Or.inr (Or.inr (Or.inr (Or.inr (Or.inr (Or.inr (Or.inr (Or.inr (Or.inr (Or.inr (Or.inr (Or.inr (Or.inr (Or.inr (Or.inr (Or.inr (Or.inr (Or.inr (Or.inr (Or.inr (Or.inr (Or.inr (Or.inr (Or.inr (Or.inr (Or.inr (Or.inr (Or.inr (Or.inr (Or.inr (Or.inr (Or.inr (Or.inr (Or.inr (Or.inr (Or.inl h)))))))))))))))))))))))))))))))))))))))))))))))))))) (fun h => h.elim (fun h => (Or.inr (Or.inr (Or.inr (Or.inr (Or.inr (Or.inr (Or.inr (Or.inr (Or.inr (Or.inr (Or.inr (Or.inr (Or.inr (Or.inr (Or.inr (Or.inr (Or.inr (Or.inr (Or.inr (Or.inr (Or.inr (Or.inr (Or.inr (Or.inr (Or.inr (Or.inr (Or.inr (Or.inr (Or.inr (Or.inr (Or.inr (Or.inr (Or.inr (Or.inr (Or.inr (Or.inr (Or.inr (Or.inr (Or.inr (Or.inr (Or.inr (Or.inr (Or.inr (Or.inr (Or.inr (Or.inr (Or.inr (Or.inr (Or.inr (Or.inr (Or.inr (Or.inl h))))))))))))))))))))))))))))))))))))))))))))))))))))) (fun h => h.elim (fun h => (Or.inr (Or.inr (Or.inr (Or.inr (Or.inr (Or.inr (Or.inr (Or.inr (Or.inr (Or.inr (Or.inr (Or.inr (Or.inr (Or.inr (Or.inr (Or.inr (Or.inr (Or.inr (Or.inr (Or.inr (Or.inr (Or.inr (Or.inr (Or.inr (Or.inr (Or.inr (Or.inr (Or.inr (Or.inr (Or.inr (Or.inr (Or.inr (Or.inr (Or.inr (Or.inr (Or.inr (Or.inr (Or.inr (Or.inr (Or.inr (Or.inr (Or.inr (Or.inr (Or.inr (Or.inr (Or.inr (Or.inr (Or.inr (Or.inr (Or.inr (Or.inr (Or.inr (Or.inl h)))))))))))))))))))))))))))))))))))))))))))))))))))))) (fun h => h.elim (fun h => (Or.inr (Or.inr (Or.inr (Or.inr (Or.inr (Or.inr (Or.inr (Or.inr (Or.inr (Or.inr (Or.inr (Or.inr (Or.inr (Or.inr (Or.inr (Or.inr (Or.inr (Or.inr (Or.inr (Or.inr (Or.inr (Or.inr (Or.inr (Or.inr (Or.inr (Or.inr (Or.inr (Or.inr (Or.inr (Or.inr (Or.inr (Or.inr (Or.inr (Or.inr (Or.inr (Or.inr (Or.inr (Or.inr (Or.inr (Or.inr (Or.inr (Or.inr (Or.inr (Or.inr (Or.inr (Or.inr (Or.inr (Or.inr (Or.inr (Or.inr (Or.inr (Or.inr (Or.inr (Or.inl h))))))))))))))))))))))))))))))))))))))))))))))))))))))) (fun h => h.elim (fun h => (Or.inr (Or.inr (Or.inr (Or.inr (Or.inr (Or.inr (Or.inr (Or.inr (Or.inr (Or.inr (Or.inr (Or.inr (Or.inr (Or.inr (Or.inr (Or.inr (Or.inr (Or.inr (Or.inr (Or.inr (Or.inr (Or.inr (Or.inr (Or.inr (Or.inr (Or.inr (Or.inr (Or.inr (Or.inr (Or.inr (Or.inr (Or.inr (Or.inr (Or.inr (Or.inr (Or.inr (Or.inr (Or.inr (Or.inr (Or.inr (Or.inr (Or.inr (Or.inr (Or.inr (Or.inr (Or.inr (Or.inr (Or.inr (Or.inr (Or.inr (Or.inr (Or.inr (Or.inr (Or.inr (Or.inl h)))))))))))))))))))))))))))))))))))))))))))))))))))))))) (fun h => h.elim (fun h => (Or.inr (Or.inr (Or.inr (Or.inr (Or.inr (Or.inr (Or.inr (Or.inr (Or.inr (Or.inr (Or.inr (Or.inr (Or.inr (Or.inr (Or.inr (Or.inr (Or.inr (Or.inr (Or.inr (Or.inr (Or.inr (Or.inr (Or.inr (Or.inr (Or.inr (Or.inr (Or.inr (Or.inr (Or.inr (Or.inr (Or.inr (Or.inr (Or.inr (Or.inr (Or.inr (Or.inr (Or.inr (Or.inr (Or.inr (Or.inr (Or.inr (Or.inr (Or.inr (Or.inr (Or.inr (Or.inr (Or.inr (Or.inr (Or.inr (Or.inr (Or.inr (Or.inr (Or.inr (Or.inr (Or.inr (Or.inl h))))))))))))))))))))))))))))))))))))))))))))))))))))))))) (fun h => h.elim (fun h => (Or.inr (Or.inr (Or.inr (Or.inr (Or.inr (Or.inr (Or.inr (Or.inr (Or.inr (Or.inr (Or.inr (Or.inr (Or.inr (Or.inr (Or.inr (Or.inr (Or.inr (Or.inr (Or.inr (Or.inr (Or.inr (Or.inr (Or.inr (Or.inr (Or.inr (Or.inr (Or.inr (Or.inr (Or.inr (Or.inr (Or.inr (Or.inr (Or.inr (Or.inr (Or.inr (Or.inr (Or.inr (Or.inr (Or.inr (Or.inr (Or.inr (Or.inr (Or.inr (Or.inr (Or.inr (Or.inr (Or.inr (Or.inr (Or.inr (Or.inr (Or.inr (Or.inr (Or.inr (Or.inr (Or.inr (Or.inr (Or.inl h)))))))))))))))))))))))))))))))))))))))))))))))))))))))))) (fun h => h.elim (fun h => (Or.inr (Or.inr (Or.inr (Or.inr (Or.inr (Or.inr (Or.inr (Or.inr (Or.inr (Or.inr (Or.inr (Or.inr (Or.inr (Or.inr (Or.inr (Or.inr (Or.inr (Or.inr (Or.inr (Or.inr (Or.inr (Or.inr (Or.inr (Or.inr (Or.inr (Or.inr (Or.inr (Or.inr (Or.inr (Or.inr (Or.inr (Or.inr (Or.inr (Or.inr (Or.inr (Or.inr (Or.inr (Or.inr (Or.inr (Or.inr (Or.inr (Or.inr (Or.inr (Or.inr (Or.inr (Or.inr (Or.inr (Or.inr (Or.inr (Or.inr (Or.inr (Or.inr (Or.inr (Or.inr (Or.inr (Or.inr (Or.inr (Or.inl h))))))))))))))))))))))))))))))))))))))))))))))))))))))))))) (fun h => (Or.inr (Or.inr (Or.inr (Or.inr (Or.inr (Or.inr (Or.inr (Or.inr (Or.inr (Or.inr (Or.inr (Or.inr (Or.inr (Or.inr (Or.inr (Or.inr (Or.inr (Or.inr (Or.inr (Or.inr (Or.inr (Or.inr (Or.inr (Or.inr (Or.inr (Or.inr (Or.inr (Or.inr (Or.inr (Or.inr (Or.inr (Or.inr (Or.inr (Or.inr (Or.inr (Or.inr (Or.inr (Or.inr (Or.inr (Or.inr (Or.inr (Or.inr (Or.inr (Or.inr (Or.inr (Or.inr (Or.inr (Or.inr (Or.inr (Or.inr (Or.inr (Or.inr (Or.inr (Or.inr (Or.inr (Or.inr (Or.inr (Or.inr h)))))))))))))))))))))))))))))))))))))))))))))))))))))))))))))))))))))))))))))))))))))))))))))))))) h))
  exact mm_fr.ret hf F
def fw_X10_isDirection (x0 : Int32) (q t i : Nat) : Prop := False
theorem fr_X10_isDirection (x0 : Int32) (σ : mm_M) (rv : Int32) (σ1 : mm_M) (hf : fx_X10_isDirection x0 σ = some (rv, σ1)) : σ1 = σ := by
  refine mm_fr.none (W := (fw_X10_isDirection x0)) (fun _ _ _ h => h) ?_
  rw [fx_X10_isDirection] at hf
  have F : mm_fr (fw_X10_isDirection x0) σ σ := mm_fr.rf
  by_cases c_1 : x0 < (0 : Int32)
  · replace hf := mm_it c_1 hf
    exact mm_fr.ret hf F
  · replace hf := mm_if c_1 hf
    by_cases c_2 : (4 : Int32) ≤ x0
    · replace hf := mm_it c_2 hf
      exact mm_fr.ret hf F
    · replace hf := mm_if c_2 hf
      exact mm_fr.ret hf F
def fw_X1_flipSide (r0 : Nat) (x1 : Int32) (x2 : Int32) (q t i : Nat) : Prop := (q = r0 ∧ t = 3)
theorem fr_X1_flipSide (r0 : Nat) (x1 : Int32) (x2 : Int32) (σ : mm_M) (rv : Int32) (σ1 : mm_M) (hf : fx_X1_flipSide r0 x1 x2 σ = some (rv, σ1)) : mm_fr (fw_X1_flipSide r0 x1 x2) σ σ1 := by
  rw [fx_X1_flipSide] at hf
  have F : mm_fr (fw_X1_flipSide r0 x1 x2) σ σ := mm_fr.rf
  by_cases c_1 : x1 < (0 : Int32)
  · replace hf := mm_it c_1 hf
    exact mm_fr.ret hf F
  · replace hf := mm_if c_1 hf
    by_cases c_2 : (64 : Int32) ≤ x1
    · replace hf := mm_it c_2 hf
      exact mm_fr.ret hf F
    · replace hf := mm_if c_2 hf
      obtain ⟨h_3, hf⟩ := mm_gd_ok hf
      obtain ⟨h_4, hf⟩ := mm_gd_ok hf
      obtain ⟨s_5, e_5, hf⟩ := mm_lt_ok hf
      have F := F.trans (mm_fr.a e_5 (fun _ => ⟨rfl, rfl⟩))
      exact mm_fr.ret hf F
def fw_X1_neighbour (x0 : Int32) (x1 : Int32) (q t i : Nat) : Prop := False
theorem fr_X1_neighbour (x0 : Int32) (x1 : Int32) (σ : mm_M) (rv : Int32) (σ1 : mm_M) (hf : fx_X1_neighbour x0 x1 σ = some (rv, σ1)) : σ1 = σ := by
  refine mm_fr.none (W := (fw_X1_neighbour x0 x1)) (fun _ _ _ h => h) ?_
  rw [fx_X1_neighbour] at hf
  have F : mm_fr (fw_X1_neighbour x0 x1) σ σ := mm_fr.rf
  by_cases c_1 : x0 < (0 : Int32)
  · replace hf := mm_it c_1 hf
    exact mm_fr.ret hf F
  · replace hf := mm_if c_1 hf
    by_cases c_2 : x0 < (64 : Int32)
    · replace hf := mm_it c_2 hf
      obtain ⟨y_3, e_3, hf⟩ := mm_li_ok hf
      by_cases c_4 : x1 = (0 : Int32)
      · replace hf := mm_it c_4 hf
        by_cases c_5 : x0 < (8 : Int32)
        · replace hf := mm_it c_5 hf
          exact mm_fr.ret hf F
        · replace hf := mm_if c_5 hf
          exact mm_fr.ret hf F
      replace hf := mm_if c_4 hf
      by_cases c_6 : x1 = (1 : Int32)
      · replace hf := mm_it c_6 hf
        by_cases c_7 : (7 : Int32) ≤ y_3
        · replace hf := mm_it c_7 hf
          exact mm_fr.ret hf F
        · replace hf := mm_if c_7 hf
          exact mm_fr.ret hf F
      replace hf := mm_if c_6 hf
      by_cases c_8 : x1 = (2 : Int32)
      · replace hf := mm_it c_8 hf
        by_cases c_9 : (56 : Int32) ≤ x0
        · replace hf := mm_it c_9 hf
          exact mm_fr.ret hf F
        · replace hf := mm_if c_9 hf
          exact mm_fr.ret hf F
      replace hf := mm_if c_8 hf
      by_cases c_10 : x1 = (3 : Int32)
      · replace hf := mm_it c_10 hf
        by_cases c_11 : y_3 ≤ (0 : Int32)
        · replace hf := mm_it c_11 hf
          exact mm_fr.ret hf F
        · replace hf := mm_if c_11 hf
          exact mm_fr.ret hf F
      replace hf := mm_if c_10 hf
      exact mm_fr.ret hf F
    · replace hf := mm_if c_2 hf
      exact mm_fr.ret hf F
def fw_X10_turned (x0 : Int32) (x1 : Int32) (q t i : Nat) : Prop := False
theorem fr_X10_turned (x0 : Int32) (x1 : Int32) (σ : mm_M) (rv : Int32) (σ1 : mm_M) (hf : fx_X10_turned x0 x1 σ = some (rv, σ1)) : σ1 = σ := by
  refine mm_fr.none (W := (fw_X10_turned x0 x1)) (fun _ _ _ h => h) ?_
  rw [fx_X10_turned] at hf
  have F : mm_fr (fw_X10_turned x0 x1) σ σ := mm_fr.rf
  exact mm_fr.ret hf F
def fw_X1_flipWall (r0 : Nat) (x1 : Int32) (x2 : Int32) (q t i : Nat) : Prop := (q = r0 ∧ t = 3)
theorem fr_X1_flipWall (r0 : Nat) (x1 : Int32) (x2 : Int32) (σ : mm_M) (rv : Int32) (σ1 : mm_M) (hf : fx_X1_flipWall r0 x1 x2 σ = some (rv, σ1)) : mm_fr (fw_X1_flipWall r0 x1 x2) σ σ1 := by
  rw [fx_X1_flipWall] at hf
  have F : mm_fr (fw_X1_flipWall r0 x1 x2) σ σ := mm_fr.rf
  obtain ⟨r_1, s_1, e_1, hf⟩ := mm_bd_ok hf
  have F := F.trans ((fr_X1_flipSide r0 x1 x2 σ r_1 s_1 e_1).mono (fun q t i h => (fun h => h) h))
  obtain ⟨r_2, s_2, e_2, hf⟩ := mm_bd_ok hf
  have F := F.trans (mm_fr.eq (fr_X1_neighbour x1 x2 s_1 r_2 s_2 e_2))
  obtain ⟨r_3, s_3, e_3, hf⟩ := mm_bd_ok hf
  have F := F.trans (mm_fr.eq (fr_X10_turned x2 (2 : Int32) s_2 r_3 s_3 e_3))
  obtain ⟨r_4, s_4, e_4, hf⟩ := mm_bd_ok hf
  have F := F.trans ((fr_X1_flipSide r0 r_2 r_3 s_3 r_4 s_4 e_4).mono (fun q t i h => (fun h => h) h))
  exact mm_fr.ret hf F
def fw_X1_hasWall (r0 : Nat) (x1 : Int32) (x2 : Int32) (q t i : Nat) : Prop := False
theorem fr_X1_hasWall (r0 : Nat) (x1 : Int32) (x2 : Int32) (σ : mm_M) (rv : Int32) (σ1 : mm_M) (hf : fx_X1_hasWall r0 x1 x2 σ = some (rv, σ1)) : σ1 = σ := by
  refine mm_fr.none (W := (fw_X1_hasWall r0 x1 x2)) (fun _ _ _ h => h) ?_
  rw [fx_X1_hasWall] at hf
  have F : mm_fr (fw_X1_hasWall r0 x1 x2) σ σ := mm_fr.rf
  by_cases c_1 : x1 < (0 : Int32)
  · replace hf := mm_it c_1 hf
    exact mm_fr.ret hf F
  · replace hf := mm_if c_1 hf
    by_cases c_2 : (64 : Int32) ≤ x1
    · replace hf := mm_it c_2 hf
      exact mm_fr.ret hf F
    · replace hf := mm_if c_2 hf
      obtain ⟨h_3, hf⟩ := mm_gd_ok hf
      by_cases c_4 : (((σ r0 3 0 x1.toNatClampNeg) >>> (x2 &&& 31)) &&& (1 : Int32)) = (0 : Int32)
      · replace hf := mm_it c_4 hf
        exact mm_fr.ret hf F
      · replace hf := mm_if c_4 hf
        exact mm_fr.ret hf F
def fw_X8_flipWall (r0 : Nat) (x1 : Int32) (x2 : Int32) (q t i : Nat) : Prop := (q = r0 ∧ t = 3)
theorem fr_X8_flipWall (r0 : Nat) (x1 : Int32) (x2 : Int32) (σ : mm_M) (rv : Int32) (σ1 : mm_M) (hf : fx_X8_flipWall r0 x1 x2 σ = some (rv, σ1)) : mm_fr (fw_X8_flipWall r0 x1 x2) σ σ1 := by
  rw [fx_X8_flipWall] at hf
  have F : mm_fr (fw_X8_flipWall r0 x1 x2) σ σ := mm_fr.rf
  obtain ⟨r_1, s_1, e_1, hf⟩ := mm_bd_ok hf
  have F := F.trans (mm_fr.eq (fr_X10_isCell x1 σ r_1 s_1 e_1))
  by_cases c_2 : r_1 = (0 : Int32)
  · replace hf := mm_it c_2 hf
    exact mm_fr.ret hf F
  · replace hf := mm_if c_2 hf
    obtain ⟨r_3, s_3, e_3, hf⟩ := mm_bd_ok hf
    have F := F.trans (mm_fr.eq (fr_X10_isDirection x2 s_1 r_3 s_3 e_3))
    by_cases c_4 : r_3 = (0 : Int32)
    · replace hf := mm_it c_4 hf
      exact mm_fr.ret hf F
    · replace hf := mm_if c_4 hf
      obtain ⟨r_5, s_5, e_5, hf⟩ := mm_bd_ok hf
      have F := F.trans ((fr_X1_flipWall r0 x1 x2 s_3 r_5 s_5 e_5).mono (fun q t i h => (fun h => h) h))
      obtain ⟨r_6, s_6, e_6, hf⟩ := mm_bd_ok hf
      have F := F.trans (mm_fr.eq (fr_X1_hasWall r0 x1 x2 s_5 r_6 s_6 e_6))
      by_cases c_7 : r_6 = (0 : Int32)
      · replace hf := mm_it c_7 hf
        exact mm_fr.ret hf F
      · replace hf := mm_if c_7 hf
        exact mm_fr.ret hf F
def fw_X10_wall (x1 : Int32) (x2 : Int32) (q t i : Nat) : Prop := (q = 0 ∧ t = 0 ∧ i = 2) ∨ (q = 0 ∧ t = 0 ∧ i = 3) ∨ (q = 0 ∧ t = 0 ∧ i = 4) ∨ (q = 0 ∧ t = 0 ∧ i = 5) ∨ (q = 0 ∧ t = 0 ∧ i = 6) ∨ (q = 0 ∧ t = 0 ∧ i = 7) ∨ (q = 0 ∧ t = 1 ∧ i = 3) ∨ (q = 0 ∧ t = 2) ∨ (q = 0 ∧ t = 3) ∨ (q = 0 ∧ t = 4) ∨ (q = 0 ∧ t = 6 ∧ i = 2) ∨ (q = 0 ∧ t = 6 ∧ i = 3) ∨ (q = 0 ∧ t = 6 ∧ i = 4) ∨ (q = 0 ∧ t = 6 ∧ i = 5) ∨ (q = 0 ∧ t = 6 ∧ i = 6) ∨ (q = 0 ∧ t = 6 ∧ i = 7) ∨ (q = 0 ∧ t = 6 ∧ i = 8) ∨ (q = 0 ∧ t = 7) ∨ (q = 0 ∧ t = 8) ∨ (q = 1 ∧ t = 0 ∧ i = 2) ∨ (q = 1 ∧ t = 0 ∧ i = 3) ∨ (q = 1 ∧ t = 0 ∧ i = 4) ∨ (q = 1 ∧ t = 0 ∧ i = 5) ∨ (q = 1 ∧ t = 0 ∧ i = 6) ∨ (q = 1 ∧ t = 0 ∧ i = 7) ∨ (q = 1 ∧ t = 1 ∧ i = 3) ∨ (q = 1 ∧ t = 2) ∨ (q = 1 ∧ t = 3) ∨ (q = 1 ∧ t = 4) ∨ (q = 1 ∧ t = 6 ∧ i = 2) ∨ (q = 1 ∧ t = 6 ∧ i = 3) ∨ (q = 1 ∧ t = 6 ∧ i = 4) ∨ (q = 1 ∧ t = 6 ∧ i = 5) ∨ (q = 1 ∧ t = 6 ∧ i = 6) ∨ (q = 1 ∧ t = 6 ∧ i = 7) ∨ (q = 1 ∧ t = 6 ∧ i = 8) ∨ (q = 1 ∧ t = 7) ∨ (q = 1 ∧ t = 8) ∨ (q = 6 ∧ t = 10 ∧ i = 1) ∨ (q = 6 ∧ t = 11) ∨ (q < 6 ∧ t = 0 ∧ i = 2) ∨ (q < 6 ∧ t = 0 ∧ i = 3) ∨ (q < 6 ∧ t = 0 ∧ i = 4) ∨ (q < 6 ∧ t = 0 ∧ i = 5) ∨ (q < 6 ∧ t = 0 ∧ i = 6) ∨ (q < 6 ∧ t = 0 ∧ i = 7) ∨ (q < 6 ∧ t = 1 ∧ i = 3) ∨ (q < 6 ∧ t = 2) ∨ (q < 6 ∧ t = 3) ∨ (q < 6 ∧ t = 4) ∨ (q < 6 ∧ t = 6 ∧ i = 2) ∨ (q < 6 ∧ t = 6 ∧ i = 3) ∨ (q < 6 ∧ t = 6 ∧ i = 4) ∨ (q < 6 ∧ t = 6 ∧ i = 5) ∨ (q < 6 ∧ t = 6 ∧ i = 6) ∨ (q < 6 ∧ t = 6 ∧ i = 7) ∨ (q < 6 ∧ t = 6 ∧ i = 8) ∨ (q < 6 ∧ t = 7) ∨ (q < 6 ∧ t = 8)
theorem fr_X10_wall (x1 : Int32) (x2 : Int32) (σ : mm_M) (rv : Int32) (σ1 : mm_M) (hf : fx_X10_wall x1 x2 σ = some (rv, σ1)) : mm_fr (fw_X10_wall x1 x2) σ σ1 := by
  rw [fx_X10_wall] at hf
  have F : mm_fr (fw_X10_wall x1 x2) σ σ := mm_fr.rf
  obtain ⟨r_1, s_1, e_1, hf⟩ := mm_bd_ok hf
  have F := F.trans ((fr_X10_freshTrial  σ r_1 s_1 e_1).mono (fun q t i h => (fun h => h.elim (fun h => (Or.inr (Or.inr (Or.inr (Or.inr (Or.inr (Or.inr (Or.inr (Or.inr (Or.inr (Or.inr (Or.inr (Or.inr (Or.inr (Or.inr (Or.inr (Or.inr (Or.inr (Or.inr (Or.inr (Or.inl h))))))))))))))))))))) (fun h => h.elim (fun h => (Or.inr (Or.inr (Or.inr (Or.inr (Or.inr (Or.inr (Or.inr (Or.inr (Or.inr (Or.inr (Or.inr (Or.inr (Or.inr (Or.inr (Or.inr (Or.inr (Or.inr (Or.inr (Or.inr (Or.inr (Or.inl h)))))))))))))))))))))) (fun h => h.elim (fun h => (Or.inr (Or.inr (Or.inr (Or.inr (Or.inr (Or.inr (Or.inr (Or.inr (Or.inr (Or.inr (Or.inr (Or.inr (Or.inr (Or.inr (Or.inr (Or.inr (Or.inr (Or.inr (Or.inr (Or.inr (Or.inr (Or.inl h))))))))))))))))))))))) (fun h => h.elim (fun h => (Or.inr (Or.inr (Or.inr (Or.inr (Or.inr (Or.inr (Or.inr (Or.inr (Or.inr (Or.inr (Or.inr (Or.inr (Or.inr (Or.inr (Or.inr (Or.inr (Or.inr (Or.inr (Or.inr (Or.inr (Or.inr (Or.inr (Or.inl h)))))))))))))))))))))))) (fun h => h.elim (fun h => (Or.inr (Or.inr (Or.inr (Or.inr (Or.inr (Or.inr (Or.inr (Or.inr (Or.inr (Or.inr (Or.inr (Or.inr (Or.inr (Or.inr (Or.inr (Or.inr (Or.inr (Or.inr (Or.inr (Or.inr (Or.inr (Or.inr (Or.inr (Or.inl h))))))))))))))))))))))))) (fun h => h.elim (fun h => (Or.inr (Or.inr (Or.inr (Or.inr (Or.inr (Or.inr (Or.inr (Or.inr (Or.inr (Or.inr (Or.inr (Or.inr (Or.inr (Or.inr (Or.inr (Or.inr (Or.inr (Or.inr (Or.inr (Or.inr (Or.inr (Or.inr (Or.inr (Or.inr (Or.inl h)))))))))))))))))))))))))) (fun h => h.elim (fun h => (Or.inr (Or.inr (Or.inr (Or.inr (Or.inr (Or.inr (Or.inr (Or.inr (Or.inr (Or.inr (Or.inr (Or.inr (Or.inr (Or.inr (Or.inr (Or.inr (Or.inr (Or.inr (Or.inr (Or.inr (Or.inr (Or.inr (Or.inr (Or.inr (Or.inr (Or.inl h))))))))))))))))))))))))))) (fun h => h.elim (fun h => (Or.inr (Or.inr (Or.inr (Or.inr (Or.inr (Or.inr (Or.inr (Or.inr (Or.inr (Or.inr (Or.inr (Or.inr (Or.inr (Or.inr (Or.inr (Or.inr (Or.inr (Or.inr (Or.inr (Or.inr (Or.inr (Or.inr (Or.inr (Or.inr (Or.inr (Or.inr (Or.inl h)))))))))))))))))))))))))))) (fun h => h.elim (fun h => (Or.inr (Or.inr (Or.inr (Or.inr (Or.inr (Or.inr (Or.inr (Or.inr (Or.inr (Or.inr (Or.inr (Or.inr (Or.inr (Or.inr (Or.inr (Or.inr (Or.inr (Or.inr (Or.inr (Or.inr (Or.inr (Or.inr (Or.inr (Or.inr (Or.inr (Or.inr (Or.inr (Or.inl h))))))))))))))))))))))))))))) (fun h => h.elim (fun h => (Or.inr (Or.inr (Or.inr (Or.inr (Or.inr (Or.inr (Or.inr (Or.inr (Or.inr (Or.inr (Or.inr (Or.inr (Or.inr (Or.inr (Or.inr (Or.inr (Or.inr (Or.inr (Or.inr (Or.inr (Or.inr (Or.inr (Or.inr (Or.inr (Or.inr (Or.inr (Or.inr (Or.inr (Or.inl h)))))))))))))))))))))))))))))) (fun h => h.elim (fun h => (Or.inr (Or.inr (Or.inr (Or.inr (Or.inr (Or.inr (Or.inr (Or.inr (Or.inr (Or.inr (Or.inr (Or.inr (Or.inr (Or.inr (Or.inr (Or.inr (Or.inr (Or.inr (Or.inr (Or.inr (Or.inr (Or.inr (Or.inr (Or.inr (Or.inr (Or.inr (Or.inr (Or.inr (Or.inr (Or.inl h))))))))))))))))))))))))))))))) (fun h => h.elim (fun h => (Or.inr (Or.inr (Or.inr (Or.inr (Or.inr (Or.inr (Or.inr (Or.inr (Or.inr (Or.inr (Or.inr (Or.inr (Or.inr (Or.inr (Or.inr (Or.inr (Or.inr (Or.inr (Or.inr (Or.inr (Or.inr (Or.inr (Or.inr (Or.inr (Or.inr (Or.inr (Or.inr (Or.inr (Or.inr (Or.inr (Or.inl h)))))))))))))))))))))))))))))))) (fun h => h.elim (fun h => (Or.inr (Or.inr (Or.inr (Or.inr (Or.inr (Or.inr (Or.inr (Or.inr (Or.inr (Or.inr (Or.inr (Or.inr (Or.inr (Or.inr (Or.inr (Or.inr (Or.inr (Or.inr (Or.inr (Or.inr (Or.inr (Or.inr (Or.inr (Or.inr (Or.inr (Or.inr (Or.inr (Or.inr (Or.inr (Or.inr (Or.inr (Or.inl h))))))))))))))))))))))))))))))))) (fun h => h.elim (fun h => (Or.inr (Or.inr (Or.inr (Or.inr (Or.inr (Or.inr (Or.inr (Or.inr (Or.inr (Or.inr (Or.inr (Or.inr (Or.inr (Or.inr (Or.inr (Or.inr (Or.inr (Or.inr (Or.inr (Or.inr (Or.inr (Or.inr (Or.inr (Or.inr (Or.inr (Or.inr (Or.inr (Or.inr (Or.inr (Or.inr (Or.inr (Or.inr (Or.inl h)))))))))))))))))))))))))))))))))) (fun h => h.elim (fun h => (Or.inr (Or.inr (Or.inr (Or.inr (Or.inr (Or.inr (Or.inr (Or.inr (Or.inr (Or.inr (Or.inr (Or.inr (Or.inr (Or.inr (Or.inr (Or.inr (Or.inr (Or.inr (Or.inr (Or.inr (Or.inr (Or.inr (Or.inr (Or.inr (Or.inr (Or.inr (Or.inr (Or.inr (Or.inr (Or.inr (Or.inr (Or.inr (Or.inr (Or.inl h))))))))))))))))))))))))))))))))))) (fun h => h.elim (fun h => (Or.inr (Or.inr (Or.inr (Or.inr (Or.inr (Or.inr (Or.inr (Or.inr (Or.inr (Or.inr (Or.inr (Or.inr (Or.inr (Or.inr (Or.inr (Or.inr (Or.inr (Or.inr (Or.inr (Or.inr (Or.inr (Or.inr (Or.inr (Or.inr (Or.inr (Or.inr (Or.inr (Or.inr (Or.inr (Or.inr (Or.inr (Or.inr (Or.inr (Or.inr (Or.inl h)))))))))))))))))))))))))))))))))))) (fun h => h.elim (fun h => (Or.inr (Or.inr (Or.inr (Or.inr (Or.inr (Or.inr (Or.inr (Or.inr (Or.inr (Or.inr (Or.inr (Or.inr (Or.inr (Or.inr (Or.inr (Or.inr (Or.inr (Or.inr (Or.inr (Or.inr (Or.inr (Or.inr (Or.inr (Or.inr (Or.inr (Or.inr (Or.inr (Or.inr (Or.inr (Or.inr (Or.inr (Or.inr (Or.inr (Or.inr (Or.inr (Or.inl h))))))))))))))))))))))))))))))))))))) (fun h => h.elim (fun h => (Or.inr (Or.inr (Or.inr (Or.inr (Or.inr (Or.inr (Or.inr (Or.inr (Or.inr (Or.inr (Or.inr (Or.inr (Or.inr (Or.inr (Or.inr (Or.inr (Or.inr (Or.inr (Or.inr (Or.inr (Or.inr (Or.inr (Or.inr (Or.inr (Or.inr (Or.inr (Or.inr (Or.inr (Or.inr (Or.inr (Or.inr (Or.inr (Or.inr (Or.inr (Or.inr (Or.inr (Or.inl h)))))))))))))))))))))))))))))))))))))) (fun h => (Or.inr (Or.inr (Or.inr (Or.inr (Or.inr (Or.inr (Or.inr (Or.inr (Or.inr (Or.inr (Or.inr (Or.inr (Or.inr (Or.inr (Or.inr (Or.inr (Or.inr (Or.inr (Or.inr (Or.inr (Or.inr (Or.inr (Or.inr (Or.inr (Or.inr (Or.inr (Or.inr (Or.inr (Or.inr (Or.inr (Or.inr (Or.inr (Or.inr (Or.inr (Or.inr (Or.inr (Or.inr (Or.inl h))))))))))))))))))))))))))))))))))))))))))))))))))))))))) h))
  obtain ⟨r_2, s_2, e_2, hf⟩ := mm_bd_ok hf
  have F := F.trans ((fr_X8_flipWall 1 x1 x2 s_1 r_2 s_2 e_2).mono (fun q t i h => (fun h => (Or.inr (Or.inr (Or.inr (Or.inr (Or.inr (Or.inr (Or.inr (Or.inr (Or.inr (Or.inr (Or.inr (Or.inr (Or.inr (Or.inr (Or.inr (Or.inr (Or.inr (Or.inr (Or.inr (Or.inr (Or.inr (Or.inr (Or.inr (Or.inr (Or.inr (Or.inr (Or.inr (Or.inl h))))))))))))))))))))))))))))) h))
  obtain ⟨r_3, s_3, e_3, hf⟩ := mm_bd_ok hf
  have F := F.trans ((fr_X10_keep r_2 s_2 r_3 s_3 e_3).mono (fun q t i h => (fun h => h.elim (fun h => (Or.inl h)) (fun h => h.elim (fun h => (Or.inr (Or.inl h))) (fun h => h.elim (fun h => (Or.inr (Or.inr (Or.inl h)))) (fun h => h.elim (fun h => (Or.inr (Or.inr (Or.inr (Or.inl h))))) (fun h => h.elim (fun h => (Or.inr (Or.inr (Or.inr (Or.inr (Or.inl h)))))) (fun h => h.elim (fun h => (Or.inr (Or.inr (Or.inr (Or.inr (Or.inr (Or.inl h))))))) (fun h => h.elim (fun h => (Or.inr (Or.inr (Or.inr (Or.inr (Or.inr (Or.inr (Or.inl h)))))))) (fun h => h.elim (fun h => (Or.inr (Or.inr (Or.inr (Or.inr (Or.inr (Or.inr (Or.inr (Or.inl h))))))))) (fun h => h.elim (fun h => (Or.inr (Or.inr (Or.inr (Or.inr (Or.inr (Or.inr (Or.inr (Or.inr (Or.inl h)))))))))) (fun h => h.elim (fun h => (Or.inr (Or.inr (Or.inr (Or.inr (Or.inr (Or.inr (Or.inr (Or.inr (Or.inr (Or.inl h))))))))))) (fun h => h.elim (fun h => (Or.inr (Or.inr (Or.inr (Or.inr (Or.inr (Or.inr (Or.inr (Or.inr (Or.inr (Or.inr (Or.inl h)))))))))))) (fun h => h.elim (fun h => (Or.inr (Or.inr (Or.inr (Or.inr (Or.inr (Or.inr (Or.inr (Or.inr (Or.inr (Or.inr (Or.inr (Or.inl h))))))))))))) (fun h => h.elim (fun h => (Or.inr (Or.inr (Or.inr (Or.inr (Or.inr (Or.inr (Or.inr (Or.inr (Or.inr (Or.inr (Or.inr (Or.inr (Or.inl h)))))))))))))) (fun h => h.elim (fun h => (Or.inr (Or.inr (Or.inr (Or.inr (Or.inr (Or.inr (Or.inr (Or.inr (Or.inr (Or.inr (Or.inr (Or.inr (Or.inr (Or.inl h))))))))))))))) (fun h => h.elim (fun h => (Or.inr (Or.inr (Or.inr (Or.inr (Or.inr (Or.inr (Or.inr (Or.inr (Or.inr (Or.inr (Or.inr (Or.inr (Or.inr (Or.inr (Or.inl h)))))))))))))))) (fun h => h.elim (fun h => (Or.inr (Or.inr (Or.inr (Or.inr (Or.inr (Or.inr (Or.inr (Or.inr (Or.inr (Or.inr (Or.inr (Or.inr (Or.inr (Or.inr (Or.inr (Or.inl h))))))))))))))))) (fun h => h.elim (fun h => (Or.inr (Or.inr (Or.inr (Or.inr (Or.inr (Or.inr (Or.inr (Or.inr (Or.inr (Or.inr (Or.inr (Or.inr (Or.inr (Or.inr (Or.inr (Or.inr (Or.inl h)))))))))))))))))) (fun h => h.elim (fun h => (Or.inr (Or.inr (Or.inr (Or.inr (Or.inr (Or.inr (Or.inr (Or.inr (Or.inr (Or.inr (Or.inr (Or.inr (Or.inr (Or.inr (Or.inr (Or.inr (Or.inr (Or.inl h))))))))))))))))))) (fun h => h.elim (fun h => (Or.inr (Or.inr (Or.inr (Or.inr (Or.inr (Or.inr (Or.inr (Or.inr (Or.inr (Or.inr (Or.inr (Or.inr (Or.inr (Or.inr (Or.inr (Or.inr (Or.inr (Or.inr (Or.inl h)))))))))))))))))))) (fun h => h.elim (fun h => (Or.inr (Or.inr (Or.inr (Or.inr (Or.inr (Or.inr (Or.inr (Or.inr (Or.inr (Or.inr (Or.inr (Or.inr (Or.inr (Or.inr (Or.inr (Or.inr (Or.inr (Or.inr (Or.inr (Or.inr (Or.inr (Or.inr (Or.inr (Or.inr (Or.inr (Or.inr (Or.inr (Or.inr (Or.inr (Or.inr (Or.inr (Or.inr (Or.inr (Or.inr (Or.inr (Or.inr (Or.inr (Or.inr (Or.inl h)))))))))))))))))))))))))))))))))))))))) (fun h => h.elim (fun h => (Or.inr (Or.inr (Or.inr (Or.inr (Or.inr (Or.inr (Or.inr (Or.inr (Or.inr (Or.inr (Or.inr (Or.inr (Or.inr (Or.inr (Or.inr (Or.inr (Or.inr (Or.inr (Or.inr (Or.inr (Or.inr (Or.inr (Or.inr (Or.inr (Or.inr (Or.inr (Or.inr (Or.inr (Or.inr (Or.inr (Or.inr (Or.inr (Or.inr (Or.inr (Or.inr (Or.inr (Or.inr (Or.inr (Or.inr (Or.inl h))))))))))))))))))))))))))))))))))))))))) (fun h => h.elim (fun h => (Or.inr (Or.inr (Or.inr (Or.inr (Or.inr (Or.inr (Or.inr (Or.inr (Or.inr (Or.inr (Or.inr (Or.inr (Or.inr (Or.inr (Or.inr (Or.inr (Or.inr (Or.inr (Or.inr (Or.inr (Or.inr (Or.inr (Or.inr (Or.inr (Or.inr (Or.inr (Or.inr (Or.inr (Or.inr (Or.inr (Or.inr (Or.inr (Or.inr (Or.inr (Or.inr (Or.inr (Or.inr (Or.inr (Or.inr (Or.inr (Or.inl h)))))))))))))))))))))))))))))))))))))))))) (fun h => h.elim (fun h => (Or.inr (Or.inr (Or.inr (Or.inr (Or.inr (Or.inr (Or.inr (Or.inr (Or.inr (Or.inr (Or.inr (Or.inr (Or.inr (Or.inr (Or.inr (Or.inr (Or.inr (Or.inr (Or.inr (Or.inr (Or.inr (Or.inr (Or.inr (Or.inr (Or.inr (Or.inr (Or.inr (Or.inr (Or.inr (Or.inr (Or.inr (Or.inr (Or.inr (Or.inr (Or.inr (Or.inr (Or.inr (Or.inr (Or.inr (Or.inr (Or.inr (Or.inl h))))))))))))))))))))))))))))))))))))))))))) (fun h => h.elim (fun h => (Or.inr (Or.inr (Or.inr (Or.inr (Or.inr (Or.inr (Or.inr (Or.inr (Or.inr (Or.inr (Or.inr (Or.inr (Or.inr (Or.inr (Or.inr (Or.inr (Or.inr (Or.inr (Or.inr (Or.inr (Or.inr (Or.inr (Or.inr (Or.inr (Or.inr (Or.inr (Or.inr (Or.inr (Or.inr (Or.inr (Or.inr (Or.inr (Or.inr (Or.inr (Or.inr (Or.inr (Or.inr (Or.inr (Or.inr (Or.inr (Or.inr (Or.inr (Or.inl h)))))))))))))))))))))))))))))))))))))))))))) (fun h => h.elim (fun h => (Or.inr (Or.inr (Or.inr (Or.inr (Or.inr (Or.inr (Or.inr (Or.inr (Or.inr (Or.inr (Or.inr (Or.inr (Or.inr (Or.inr (Or.inr (Or.inr (Or.inr (Or.inr (Or.inr (Or.inr (Or.inr (Or.inr (Or.inr (Or.inr (Or.inr (Or.inr (Or.inr (Or.inr (Or.inr (Or.inr (Or.inr (Or.inr (Or.inr (Or.inr (Or.inr (Or.inr (Or.inr (Or.inr (Or.inr (Or.inr (Or.inr (Or.inr (Or.inr (Or.inl h))))))))))))))))))))))))))))))))))))))))))))) (fun h => h.elim (fun h => (Or.inr (Or.inr (Or.inr (Or.inr (Or.inr (Or.inr (Or.inr (Or.inr (Or.inr (Or.inr (Or.inr (Or.inr (Or.inr (Or.inr (Or.inr (Or.inr (Or.inr (Or.inr (Or.inr (Or.inr (Or.inr (Or.inr (Or.inr (Or.inr (Or.inr (Or.inr (Or.inr (Or.inr (Or.inr (Or.inr (Or.inr (Or.inr (Or.inr (Or.inr (Or.inr (Or.inr (Or.inr (Or.inr (Or.inr (Or.inr (Or.inr (Or.inr (Or.inr (Or.inr (Or.inl h)))))))))))))))))))))))))))))))))))))))))))))) (fun h => h.elim (fun h => (Or.inr (Or.inr (Or.inr (Or.inr (Or.inr (Or.inr (Or.inr (Or.inr (Or.inr (Or.inr (Or.inr (Or.inr (Or.inr (Or.inr (Or.inr (Or.inr (Or.inr (Or.inr (Or.inr (Or.inr (Or.inr (Or.inr (Or.inr (Or.inr (Or.inr (Or.inr (Or.inr (Or.inr (Or.inr (Or.inr (Or.inr (Or.inr (Or.inr (Or.inr (Or.inr (Or.inr (Or.inr (Or.inr (Or.inr (Or.inr (Or.inr (Or.inr (Or.inr (Or.inr (Or.inr (Or.inl h))))))))))))))))))))))))))))))))))))))))))))))) (fun h => h.elim (fun h => (Or.inr (Or.inr (Or.inr (Or.inr (Or.inr (Or.inr (Or.inr (Or.inr (Or.inr (Or.inr (Or.inr (Or.inr (Or.inr (Or.inr (Or.inr (Or.inr (Or.inr (Or.inr (Or.inr (Or.inr (Or.inr (Or.inr (Or.inr (Or.inr (Or.inr (Or.inr (Or.inr (Or.inr (Or.inr (Or.inr (Or.inr (Or.inr (Or.inr (Or.inr (Or.inr (Or.inr (Or.inr (Or.inr (Or.inr (Or.inr (Or.inr (Or.inr (Or.inr (Or.inr (Or.inr (Or.inr (Or.inl h)))))))))))))))))))))))))))))))))))))))))))))))) (fun h => h.elim (fun h => (Or.inr (Or.inr (Or.inr (Or.inr (Or.inr (Or.inr (Or.inr (Or.inr (Or.inr (Or.inr (Or.inr (Or.inr (Or.inr (Or.inr (Or.inr (Or.inr (Or.inr (Or.inr (Or.inr (Or.inr (Or.inr (Or.inr (Or.inr (Or.inr (Or.inr (Or.inr (Or.inr (Or.inr (Or.inr (Or.inr (Or.inr (Or.inr (Or.inr (Or.inr (Or.inr (Or.inr (Or.inr (Or.inr (Or.inr (Or.inr (Or.inr (Or.inr (Or.inr (Or.inr (Or.inr (Or.inr (Or.inr (Or.inl h))))))))))))))))))))))))))))))))))))))))))))))))) (fun h => h.elim (fun h => (Or.inr (Or.inr (Or.inr (Or.inr (Or.inr (Or.inr (Or.inr (Or.inr (Or.inr (Or.inr (Or.inr (Or.inr (Or.inr (Or.inr (Or.inr (Or.inr (Or.inr (Or.inr (Or.inr (Or.inr (Or.inr (Or.inr (Or.inr (Or.inr (Or.inr (Or.inr (Or.inr (Or.inr (Or.inr (Or.inr (Or.inr (Or.inr (Or.inr (Or.inr (Or.inr (Or.inr (Or.inr (Or.inr (Or.inr (Or.inr (Or.inr (Or.inr (Or.inr (Or.inr (Or.inr (Or.inr (Or.inr (Or.inr (Or.inl h)))))))))))))))))))))))))))))))))))))))))))))))))) (fun h => h.elim (fun h => (Or.inr (Or.inr (Or.inr (Or.inr (Or.inr (Or.inr (Or.inr (Or.inr (Or.inr (Or.inr (Or.inr (Or.inr (Or.inr (Or.inr (Or.inr (Or.inr (Or.inr (Or.inr (Or.inr (Or.inr (Or.inr (Or.inr (Or.inr (Or.inr (Or.inr (Or.inr (Or.inr (Or.inr (Or.inr (Or.inr (Or.inr (Or.inr (Or.inr (Or.inr (Or.inr (Or.inr (Or.inr (Or.inr (Or.inr (Or.inr (Or.inr (Or.inr (Or.inr (Or.inr (Or.inr (Or.inr (Or.inr (Or.inr (Or.inr (Or.inl h))))))))))))))))))))))))))))))))))))))))))))))))))) (fun h => h.elim (fun h => (Or.inr (Or.inr (Or.inr (Or.inr (Or.inr (Or.inr (Or.inr (Or.inr (Or.inr (Or.inr (Or.inr (Or.inr (Or.inr (Or.inr (Or.inr (Or.inr (Or.inr (Or.inr (Or.inr (Or.inr (Or.inr (Or.inr (Or.inr (Or.inr (Or.inr (Or.inr (Or.inr (Or.inr (Or.inr (Or.inr (Or.inr (Or.inr (Or.inr (Or.inr (Or.inr (Or.inr (Or.inr (Or.inr (Or.inr (Or.inr (Or.inr (Or.inr (Or.inr (Or.inr (Or.inr (Or.inr (Or.inr (Or.inr (Or.inr (Or.inr (Or.inl h)))))))))))))))))))))))))))))))))))))))))))))))))))) (fun h => h.elim (fun h => (Or.inr (Or.inr (Or.inr (Or.inr (Or.inr (Or.inr (Or.inr (Or.inr (Or.inr (Or.inr (Or.inr (Or.inr (Or.inr (Or.inr (Or.inr (Or.inr (Or.inr (Or.inr (Or.inr (Or.inr (Or.inr (Or.inr (Or.inr (Or.inr (Or.inr (Or.inr (Or.inr (Or.inr (Or.inr (Or.inr (Or.inr (Or.inr (Or.inr (Or.inr (Or.inr (Or.inr (Or.inr (Or.inr (Or.inr (Or.inr (Or.inr (Or.inr (Or.inr (Or.inr (Or.inr (Or.inr (Or.inr (Or.inr (Or.inr (Or.inr (Or.inr (Or.inl h))))))))))))))))))))))))))))))))))))))))))))))))))))) (fun h => h.elim (fun h => (Or.inr (Or.inr (Or.inr (Or.inr (Or.inr (Or.inr (Or.inr (Or.inr (Or.inr (Or.inr (Or.inr (Or.inr (Or.inr (Or.inr (Or.inr (Or.inr (Or.inr (Or.inr (Or.inr (Or.inr (Or.inr (Or.inr (Or.inr (Or.inr (Or.inr (Or.inr (Or.inr (Or.inr (Or.inr (Or.inr (Or.inr (Or.inr (Or.inr (Or.inr (Or.inr (Or.inr (Or.inr (Or.inr (Or.inr (Or.inr (Or.inr (Or.inr (Or.inr (Or.inr (Or.inr (Or.inr (Or.inr (Or.inr (Or.inr (Or.inr (Or.inr (Or.inr (Or.inl h)))))))))))))))))))))))))))))))))))))))))))))))))))))) (fun h => h.elim (fun h => (Or.inr (Or.inr (Or.inr (Or.inr (Or.inr (Or.inr (Or.inr (Or.inr (Or.inr (Or.inr (Or.inr (Or.inr (Or.inr (Or.inr (Or.inr (Or.inr (Or.inr (Or.inr (Or.inr (Or.inr (Or.inr (Or.inr (Or.inr (Or.inr (Or.inr (Or.inr (Or.inr (Or.inr (Or.inr (Or.inr (Or.inr (Or.inr (Or.inr (Or.inr (Or.inr (Or.inr (Or.inr (Or.inr (Or.inr (Or.inr (Or.inr (Or.inr (Or.inr (Or.inr (Or.inr (Or.inr (Or.inr (Or.inr (Or.inr (Or.inr (Or.inr (Or.inr (Or.inr (Or.inl h))))))))))))))))))))))))))))))))))))))))))))))))))))))) (fun h => h.elim (fun h => (Or.inr (Or.inr (Or.inr (Or.inr (Or.inr (Or.inr (Or.inr (Or.inr (Or.inr (Or.inr (Or.inr (Or.inr (Or.inr (Or.inr (Or.inr (Or.inr (Or.inr (Or.inr (Or.inr (Or.inr (Or.inr (Or.inr (Or.inr (Or.inr (Or.inr (Or.inr (Or.inr (Or.inr (Or.inr (Or.inr (Or.inr (Or.inr (Or.inr (Or.inr (Or.inr (Or.inr (Or.inr (Or.inr (Or.inr (Or.inr (Or.inr (Or.inr (Or.inr (Or.inr (Or.inr (Or.inr (Or.inr (Or.inr (Or.inr (Or.inr (Or.inr (Or.inr (Or.inr (Or.inr (Or.inl h)))))))))))))))))))))))))))))))))))))))))))))))))))))))) (fun h => h.elim (fun h => (Or.inr (Or.inr (Or.inr (Or.inr (Or.inr (Or.inr (Or.inr (Or.inr (Or.inr (Or.inr (Or.inr (Or.inr (Or.inr (Or.inr (Or.inr (Or.inr (Or.inr (Or.inr (Or.inr (Or.inr (Or.inr (Or.inr (Or.inr (Or.inr (Or.inr (Or.inr (Or.inr (Or.inr (Or.inr (Or.inr (Or.inr (Or.inr (Or.inr (Or.inr (Or.inr (Or.inr (Or.inr (Or.inr (Or.inr (Or.inr (Or.inr (Or.inr (Or.inr (Or.inr (Or.inr (Or.inr (Or.inr (Or.inr (Or.inr (Or.inr (Or.inr (Or.inr (Or.inr (Or.inr (Or.inr (Or.inl h))))))))))))))))))))))))))))))))))))))))))))))))))))))))) (fun h => h.elim (fun h => (Or.inr (Or.inr (Or.inr (Or.inr (Or.inr (Or.inr (Or.inr (Or.inr (Or.inr (Or.inr (Or.inr (Or.inr (Or.inr (Or.inr (Or.inr (Or.inr (Or.inr (Or.inr (Or.inr (Or.inr (Or.inr (Or.inr (Or.inr (Or.inr (Or.inr (Or.inr (Or.inr (Or.inr (Or.inr (Or.inr (Or.inr (Or.inr (Or.inr (Or.inr (Or.inr (Or.inr (Or.inr (Or.inr (Or.inr (Or.inr (Or.inr (Or.inr (Or.inr (Or.inr (Or.inr (Or.inr (Or.inr (Or.inr (Or.inr (Or.inr (Or.inr (Or.inr (Or.inr (Or.inr (Or.inr (Or.inr (Or.inl h)))))))))))))))))))))))))))))))))))))))))))))))))))))))))) (fun h => h.elim (fun h => (Or.inr (Or.inr (Or.inr (Or.inr (Or.inr (Or.inr (Or.inr (Or.inr (Or.inr (Or.inr (Or.inr (Or.inr (Or.inr (Or.inr (Or.inr (Or.inr (Or.inr (Or.inr (Or.inr (Or.inr (Or.inr (Or.inr (Or.inr (Or.inr (Or.inr (Or.inr (Or.inr (Or.inr (Or.inr (Or.inr (Or.inr (Or.inr (Or.inr (Or.inr (Or.inr (Or.inr (Or.inr (Or.inr (Or.inr (Or.inr (Or.inr (Or.inr (Or.inr (Or.inr (Or.inr (Or.inr (Or.inr (Or.inr (Or.inr (Or.inr (Or.inr (Or.inr (Or.inr (Or.inr (Or.inr (Or.inr (Or.inr (Or.inl h))))))))))))))))))))))))))))))))))))))))))))))))))))))))))) (fun h => (Or.inr (Or.inr (Or.inr (Or.inr (Or.inr (Or.inr (Or.inr (Or.inr (Or.inr (Or.inr (Or.inr (Or.inr (Or.inr (Or.inr (Or.inr (Or.inr (Or.inr (Or.inr (Or.inr (Or.inr (Or.inr (Or.inr (Or.inr (Or.inr (Or.inr (Or.inr (Or.inr (Or.inr (Or.inr (Or.inr (Or.inr (Or.inr (Or.inr (Or.inr (Or.inr (Or.inr (Or.inr (Or.inr (Or.inr (Or.inr (Or.inr (Or.inr (Or.inr (Or.inr (Or.inr (Or.inr (Or.inr (Or.inr (Or.inr (Or.inr (Or.inr (Or.inr (Or.inr (Or.inr (Or.inr (Or.inr (Or.inr (Or.inr h)))))))))))))))))))))))))))))))))))))))))))))))))))))))))))))))))))))))))))))))))))))))))))))))))) h))
  exact mm_fr.ret hf F
def fw_J9_max_7cf53 (x0 : Int32) (x1 : Int32) (q t i : Nat) : Prop := False
theorem fr_J9_max_7cf53 (x0 : Int32) (x1 : Int32) (σ : mm_M) (rv : Int32) (σ1 : mm_M) (hf : fx_J9_max_7cf53 x0 x1 σ = some (rv, σ1)) : σ1 = σ := by
  refine mm_fr.none (W := (fw_J9_max_7cf53 x0 x1)) (fun _ _ _ h => h) ?_
  rw [fx_J9_max_7cf53] at hf
  have F : mm_fr (fw_J9_max_7cf53 x0 x1) σ σ := mm_fr.rf
  by_cases c_1 : x0 < x1
  · replace hf := mm_it c_1 hf
    exact mm_fr.ret hf F
  · replace hf := mm_if c_1 hf
    exact mm_fr.ret hf F
def fw_X8_layFlag (r0 : Nat) (x1 : Int32) (x2 : Int32) (q t i : Nat) : Prop := (q = r0 ∧ t = 1 ∧ i = 3) ∨ (q = r0 ∧ t = 4)
theorem fr_X8_layFlag (r0 : Nat) (x1 : Int32) (x2 : Int32) (σ : mm_M) (rv : Int32) (σ1 : mm_M) (hf : fx_X8_layFlag r0 x1 x2 σ = some (rv, σ1)) : mm_fr (fw_X8_layFlag r0 x1 x2) σ σ1 := by
  rw [fx_X8_layFlag] at hf
  have F : mm_fr (fw_X8_layFlag r0 x1 x2) σ σ := mm_fr.rf
  obtain ⟨r_1, s_1, e_1, hf⟩ := mm_bd_ok hf
  have F := F.trans (mm_fr.eq (fr_X10_isWithin x1 (0 : Int32) (3 : Int32) σ r_1 s_1 e_1))
  by_cases c_2 : r_1 = (0 : Int32)
  · replace hf := mm_it c_2 hf
    exact mm_fr.ret hf F
  · replace hf := mm_if c_2 hf
    obtain ⟨r_3, s_3, e_3, hf⟩ := mm_bd_ok hf
    have F := F.trans (mm_fr.eq (fr_X10_isCell x2 s_1 r_3 s_3 e_3))
    by_cases c_4 : r_3 = (0 : Int32)
    · replace hf := mm_it c_4 hf
      exact mm_fr.ret hf F
    · replace hf := mm_if c_4 hf
      by_cases c_5 : x1 ≤ (s_3 r0 1 0 3)
      · replace hf := mm_it c_5 hf
        obtain ⟨h_6, hf⟩ := mm_gd_ok hf
        obtain ⟨s_7, e_7, hf⟩ := mm_lt_ok hf
        have F := F.trans (mm_fr.a e_7 (fun _ => (Or.inr ⟨rfl, rfl⟩)))
        obtain ⟨r_8, s_8, e_8, hf⟩ := mm_bd_ok hf
        have F := F.trans (mm_fr.eq (fr_J9_max_7cf53 (s_7 r0 1 0 3) (x1 + (1 : Int32)) s_7 r_8 s_8 e_8))
        obtain ⟨s_9, e_9, hf⟩ := mm_lt_ok hf
        have F := F.trans (mm_fr.u e_9 ((Or.inl ⟨rfl, rfl, rfl⟩)))
        exact mm_fr.ret hf F
      · replace hf := mm_if c_5 hf
        exact mm_fr.ret hf F
def fw_X10_flag (x1 : Int32) (x2 : Int32) (q t i : Nat) : Prop := (q = 0 ∧ t = 0 ∧ i = 2) ∨ (q = 0 ∧ t = 0 ∧ i = 3) ∨ (q = 0 ∧ t = 0 ∧ i = 4) ∨ (q = 0 ∧ t = 0 ∧ i = 5) ∨ (q = 0 ∧ t = 0 ∧ i = 6) ∨ (q = 0 ∧ t = 0 ∧ i = 7) ∨ (q = 0 ∧ t = 1 ∧ i = 3) ∨ (q = 0 ∧ t = 2) ∨ (q = 0 ∧ t = 3) ∨ (q = 0 ∧ t = 4) ∨ (q = 0 ∧ t = 6 ∧ i = 2) ∨ (q = 0 ∧ t = 6 ∧ i = 3) ∨ (q = 0 ∧ t = 6 ∧ i = 4) ∨ (q = 0 ∧ t = 6 ∧ i = 5) ∨ (q = 0 ∧ t = 6 ∧ i = 6) ∨ (q = 0 ∧ t = 6 ∧ i = 7) ∨ (q = 0 ∧ t = 6 ∧ i = 8) ∨ (q = 0 ∧ t = 7) ∨ (q = 0 ∧ t = 8) ∨ (q = 1 ∧ t = 0 ∧ i = 2) ∨ (q = 1 ∧ t = 0 ∧ i = 3) ∨ (q = 1 ∧ t = 0 ∧ i = 4) ∨ (q = 1 ∧ t = 0 ∧ i = 5) ∨ (q = 1 ∧ t = 0 ∧ i = 6) ∨ (q = 1 ∧ t = 0 ∧ i = 7) ∨ (q = 1 ∧ t = 1 ∧ i = 3) ∨ (q = 1 ∧ t = 2) ∨ (q = 1 ∧ t = 3) ∨ (q = 1 ∧ t = 4) ∨ (q = 1 ∧ t = 6 ∧ i = 2) ∨ (q = 1 ∧ t = 6 ∧ i = 3) ∨ (q = 1 ∧ t = 6 ∧ i = 4) ∨ (q = 1 ∧ t = 6 ∧ i = 5) ∨ (q = 1 ∧ t = 6 ∧ i = 6) ∨ (q = 1 ∧ t = 6 ∧ i = 7) ∨ (q = 1 ∧ t = 6 ∧ i = 8) ∨ (q = 1 ∧ t = 7) ∨ (q = 1 ∧ t = 8) ∨ (q = 6 ∧ t = 10 ∧ i = 1) ∨ (q = 6 ∧ t = 11) ∨ (q < 6 ∧ t = 0 ∧ i = 2) ∨ (q < 6 ∧ t = 0 ∧ i = 3) ∨ (q < 6 ∧ t = 0 ∧ i = 4) ∨ (q < 6 ∧ t = 0 ∧ i = 5) ∨ (q < 6 ∧ t = 0 ∧ i = 6) ∨ (q < 6 ∧ t = 0 ∧ i = 7) ∨ (q < 6 ∧ t = 1 ∧ i = 3) ∨ (q < 6 ∧ t = 2) ∨ (q < 6 ∧ t = 3) ∨ (q < 6 ∧ t = 4) ∨ (q < 6 ∧ t = 6 ∧ i = 2) ∨ (q < 6 ∧ t = 6 ∧ i = 3) ∨ (q < 6 ∧ t = 6 ∧ i = 4) ∨ (q < 6 ∧ t = 6 ∧ i = 5) ∨ (q < 6 ∧ t = 6 ∧ i = 6) ∨ (q < 6 ∧ t = 6 ∧ i = 7) ∨ (q < 6 ∧ t = 6 ∧ i = 8) ∨ (q < 6 ∧ t = 7) ∨ (q < 6 ∧ t = 8)
theorem fr_X10_flag (x1 : Int32) (x2 : Int32) (σ : mm_M) (rv : Int32) (σ1 : mm_M) (hf : fx_X10_flag x1 x2 σ = some (rv, σ1)) : mm_fr (fw_X10_flag x1 x2) σ σ1 := by
  rw [fx_X10_flag] at hf
  have F : mm_fr (fw_X10_flag x1 x2) σ σ := mm_fr.rf
  obtain ⟨r_1, s_1, e_1, hf⟩ := mm_bd_ok hf
  have F := F.trans ((fr_X10_freshTrial  σ r_1 s_1 e_1).mono (fun q t i h => (fun h => h.elim (fun h => (Or.inr (Or.inr (Or.inr (Or.inr (Or.inr (Or.inr (Or.inr (Or.inr (Or.inr (Or.inr (Or.inr (Or.inr (Or.inr (Or.inr (Or.inr (Or.inr (Or.inr (Or.inr (Or.inr (Or.inl h))))))))))))))))))))) (fun h => h.elim (fun h => (Or.inr (Or.inr (Or.inr (Or.inr (Or.inr (Or.inr (Or.inr (Or.inr (Or.inr (Or.inr (Or.inr (Or.inr (Or.inr (Or.inr (Or.inr (Or.inr (Or.inr (Or.inr (Or.inr (Or.inr (Or.inl h)))))))))))))))))))))) (fun h => h.elim (fun h => (Or.inr (Or.inr (Or.inr (Or.inr (Or.inr (Or.inr (Or.inr (Or.inr (Or.inr (Or.inr (Or.inr (Or.inr (Or.inr (Or.inr (Or.inr (Or.inr (Or.inr (Or.inr (Or.inr (Or.inr (Or.inr (Or.inl h))))))))))))))))))))))) (fun h => h.elim (fun h => (Or.inr (Or.inr (Or.inr (Or.inr (Or.inr (Or.inr (Or.inr (Or.inr (Or.inr (Or.inr (Or.inr (Or.inr (Or.inr (Or.inr (Or.inr (Or.inr (Or.inr (Or.inr (Or.inr (Or.inr (Or.inr (Or.inr (Or.inl h)))))))))))))))))))))))) (fun h => h.elim (fun h => (Or.inr (Or.inr (Or.inr (Or.inr (Or.inr (Or.inr (Or.inr (Or.inr (Or.inr (Or.inr (Or.inr (Or.inr (Or.inr (Or.inr (Or.inr (Or.inr (Or.inr (Or.inr (Or.inr (Or.inr (Or.inr (Or.inr (Or.inr (Or.inl h))))))))))))))))))))))))) (fun h => h.elim (fun h => (Or.inr (Or.inr (Or.inr (Or.inr (Or.inr (Or.inr (Or.inr (Or.inr (Or.inr (Or.inr (Or.inr (Or.inr (Or.inr (Or.inr (Or.inr (Or.inr (Or.inr (Or.inr (Or.inr (Or.inr (Or.inr (Or.inr (Or.inr (Or.inr (Or.inl h)))))))))))))))))))))))))) (fun h => h.elim (fun h => (Or.inr (Or.inr (Or.inr (Or.inr (Or.inr (Or.inr (Or.inr (Or.inr (Or.inr (Or.inr (Or.inr (Or.inr (Or.inr (Or.inr (Or.inr (Or.inr (Or.inr (Or.inr (Or.inr (Or.inr (Or.inr (Or.inr (Or.inr (Or.inr (Or.inr (Or.inl h))))))))))))))))))))))))))) (fun h => h.elim (fun h => (Or.inr (Or.inr (Or.inr (Or.inr (Or.inr (Or.inr (Or.inr (Or.inr (Or.inr (Or.inr (Or.inr (Or.inr (Or.inr (Or.inr (Or.inr (Or.inr (Or.inr (Or.inr (Or.inr (Or.inr (Or.inr (Or.inr (Or.inr (Or.inr (Or.inr (Or.inr (Or.inl h)))))))))))))))))))))))))))) (fun h => h.elim (fun h => (Or.inr (Or.inr (Or.inr (Or.inr (Or.inr (Or.inr (Or.inr (Or.inr (Or.inr (Or.inr (Or.inr (Or.inr (Or.inr (Or.inr (Or.inr (Or.inr (Or.inr (Or.inr (Or.inr (Or.inr (Or.inr (Or.inr (Or.inr (Or.inr (Or.inr (Or.inr (Or.inr (Or.inl h))))))))))))))))))))))))))))) (fun h => h.elim (fun h => (Or.inr (Or.inr (Or.inr (Or.inr (Or.inr (Or.inr (Or.inr (Or.inr (Or.inr (Or.inr (Or.inr (Or.inr (Or.inr (Or.inr (Or.inr (Or.inr (Or.inr (Or.inr (Or.inr (Or.inr (Or.inr (Or.inr (Or.inr (Or.inr (Or.inr (Or.inr (Or.inr (Or.inr (Or.inl h)))))))))))))))))))))))))))))) (fun h => h.elim (fun h => (Or.inr (Or.inr (Or.inr (Or.inr (Or.inr (Or.inr (Or.inr (Or.inr (Or.inr (Or.inr (Or.inr (Or.inr (Or.inr (Or.inr (Or.inr (Or.inr (Or.inr (Or.inr (Or.inr (Or.inr (Or.inr (Or.inr (Or.inr (Or.inr (Or.inr (Or.inr (Or.inr (Or.inr (Or.inr (Or.inl h))))))))))))))))))))))))))))))) (fun h => h.elim (fun h => (Or.inr (Or.inr (Or.inr (Or.inr (Or.inr (Or.inr (Or.inr (Or.inr (Or.inr (Or.inr (Or.inr (Or.inr (Or.inr (Or.inr (Or.inr (Or.inr (Or.inr (Or.inr (Or.inr (Or.inr (Or.inr (Or.inr (Or.inr (Or.inr (Or.inr (Or.inr (Or.inr (Or.inr (Or.inr (Or.inr (Or.inl h)))))))))))))))))))))))))))))))) (fun h => h.elim (fun h => (Or.inr (Or.inr (Or.inr (Or.inr (Or.inr (Or.inr (Or.inr (Or.inr (Or.inr (Or.inr (Or.inr (Or.inr (Or.inr (Or.inr (Or.inr (Or.inr (Or.inr (Or.inr (Or.inr (Or.inr (Or.inr (Or.inr (Or.inr (Or.inr (Or.inr (Or.inr (Or.inr (Or.inr (Or.inr (Or.inr (Or.inr (Or.inl h))))))))))))))))))))))))))))))))) (fun h => h.elim (fun h => (Or.inr (Or.inr (Or.inr (Or.inr (Or.inr (Or.inr (Or.inr (Or.inr (Or.inr (Or.inr (Or.inr (Or.inr (Or.inr (Or.inr (Or.inr (Or.inr (Or.inr (Or.inr (Or.inr (Or.inr (Or.inr (Or.inr (Or.inr (Or.inr (Or.inr (Or.inr (Or.inr (Or.inr (Or.inr (Or.inr (Or.inr (Or.inr (Or.inl h)))))))))))))))))))))))))))))))))) (fun h => h.elim (fun h => (Or.inr (Or.inr (Or.inr (Or.inr (Or.inr (Or.inr (Or.inr (Or.inr (Or.inr (Or.inr (Or.inr (Or.inr (Or.inr (Or.inr (Or.inr (Or.inr (Or.inr (Or.inr (Or.inr (Or.inr (Or.inr (Or.inr (Or.inr (Or.inr (Or.inr (Or.inr (Or.inr (Or.inr (Or.inr (Or.inr (Or.inr (Or.inr (Or.inr (Or.inl h))))))))))))))))))))))))))))))))))) (fun h => h.elim (fun h => (Or.inr (Or.inr (Or.inr (Or.inr (Or.inr (Or.inr (Or.inr (Or.inr (Or.inr (Or.inr (Or.inr (Or.inr (Or.inr (Or.inr (Or.inr (Or.inr (Or.inr (Or.inr (Or.inr (Or.inr (Or.inr (Or.inr (Or.inr (Or.inr (Or.inr (Or.inr (Or.inr (Or.inr (Or.inr (Or.inr (Or.inr (Or.inr (Or.inr (Or.inr (Or.inl h)))))))))))))))))))))))))))))))))))) (fun h => h.elim (fun h => (Or.inr (Or.inr (Or.inr (Or.inr (Or.inr (Or.inr (Or.inr (Or.inr (Or.inr (Or.inr (Or.inr (Or.inr (Or.inr (Or.inr (Or.inr (Or.inr (Or.inr (Or.inr (Or.inr (Or.inr (Or.inr (Or.inr (Or.inr (Or.inr (Or.inr (Or.inr (Or.inr (Or.inr (Or.inr (Or.inr (Or.inr (Or.inr (Or.inr (Or.inr (Or.inr (Or.inl h))))))))))))))))))))))))))))))))))))) (fun h => h.elim (fun h => (Or.inr (Or.inr (Or.inr (Or.inr (Or.inr (Or.inr (Or.inr (Or.inr (Or.inr (Or.inr (Or.inr (Or.inr (Or.inr (Or.inr (Or.inr (Or.inr (Or.inr (Or.inr (Or.inr (Or.inr (Or.inr (Or.inr (Or.inr (Or.inr (Or.inr (Or.inr (Or.inr (Or.inr (Or.inr (Or.inr (Or.inr (Or.inr (Or.inr (Or.inr (Or.inr (Or.inr (Or.inl h)))))))))))))))))))))))))))))))))))))) (fun h => (Or.inr (Or.inr (Or.inr (Or.inr (Or.inr (Or.inr (Or.inr (Or.inr (Or.inr (Or.inr (Or.inr (Or.inr (Or.inr (Or.inr (Or.inr (Or.inr (Or.inr (Or.inr (Or.inr (Or.inr (Or.inr (Or.inr (Or.inr (Or.inr (Or.inr (Or.inr (Or.inr (Or.inr (Or.inr (Or.inr (Or.inr (Or.inr (Or.inr (Or.inr (Or.inr (Or.inr (Or.inr (Or.inl h))))))))))))))))))))))))))))))))))))))))))))))))))))))))) h))
  obtain ⟨r_2, s_2, e_2, hf⟩ := mm_bd_ok hf
  have F := F.trans ((fr_X8_layFlag 1 x1 x2 s_1 r_2 s_2 e_2).mono (fun q t i h => (fun h => h.elim (fun h => (Or.inr (Or.inr (Or.inr (Or.inr (Or.inr (Or.inr (Or.inr (Or.inr (Or.inr (Or.inr (Or.inr (Or.inr (Or.inr (Or.inr (Or.inr (Or.inr (Or.inr (Or.inr (Or.inr (Or.inr (Or.inr (Or.inr (Or.inr (Or.inr (Or.inr (Or.inl h))))))))))))))))))))))))))) (fun h => (Or.inr (Or.inr (Or.inr (Or.inr (Or.inr (Or.inr (Or.inr (Or.inr (Or.inr (Or.inr (Or.inr (Or.inr (Or.inr (Or.inr (Or.inr (Or.inr (Or.inr (Or.inr (Or.inr (Or.inr (Or.inr (Or.inr (Or.inr (Or.inr (Or.inr (Or.inr (Or.inr (Or.inr (Or.inl h))))))))))))))))))))))))))))))) h))
  obtain ⟨r_3, s_3, e_3, hf⟩ := mm_bd_ok hf
  have F := F.trans ((fr_X10_keep r_2 s_2 r_3 s_3 e_3).mono (fun q t i h => (fun h => h.elim (fun h => (Or.inl h)) (fun h => h.elim (fun h => (Or.inr (Or.inl h))) (fun h => h.elim (fun h => (Or.inr (Or.inr (Or.inl h)))) (fun h => h.elim (fun h => (Or.inr (Or.inr (Or.inr (Or.inl h))))) (fun h => h.elim (fun h => (Or.inr (Or.inr (Or.inr (Or.inr (Or.inl h)))))) (fun h => h.elim (fun h => (Or.inr (Or.inr (Or.inr (Or.inr (Or.inr (Or.inl h))))))) (fun h => h.elim (fun h => (Or.inr (Or.inr (Or.inr (Or.inr (Or.inr (Or.inr (Or.inl h)))))))) (fun h => h.elim (fun h => (Or.inr (Or.inr (Or.inr (Or.inr (Or.inr (Or.inr (Or.inr (Or.inl h))))))))) (fun h => h.elim (fun h => (Or.inr (Or.inr (Or.inr (Or.inr (Or.inr (Or.inr (Or.inr (Or.inr (Or.inl h)))))))))) (fun h => h.elim (fun h => (Or.inr (Or.inr (Or.inr (Or.inr (Or.inr (Or.inr (Or.inr (Or.inr (Or.inr (Or.inl h))))))))))) (fun h => h.elim (fun h => (Or.inr (Or.inr (Or.inr (Or.inr (Or.inr (Or.inr (Or.inr (Or.inr (Or.inr (Or.inr (Or.inl h)))))))))))) (fun h => h.elim (fun h => (Or.inr (Or.inr (Or.inr (Or.inr (Or.inr (Or.inr (Or.inr (Or.inr (Or.inr (Or.inr (Or.inr (Or.inl h))))))))))))) (fun h => h.elim (fun h => (Or.inr (Or.inr (Or.inr (Or.inr (Or.inr (Or.inr (Or.inr (Or.inr (Or.inr (Or.inr (Or.inr (Or.inr (Or.inl h)))))))))))))) (fun h => h.elim (fun h => (Or.inr (Or.inr (Or.inr (Or.inr (Or.inr (Or.inr (Or.inr (Or.inr (Or.inr (Or.inr (Or.inr (Or.inr (Or.inr (Or.inl h))))))))))))))) (fun h => h.elim (fun h => (Or.inr (Or.inr (Or.inr (Or.inr (Or.inr (Or.inr (Or.inr (Or.inr (Or.inr (Or.inr (Or.inr (Or.inr (Or.inr (Or.inr (Or.inl h)))))))))))))))) (fun h => h.elim (fun h => (Or.inr (Or.inr (Or.inr (Or.inr (Or.inr (Or.inr (Or.inr (Or.inr (Or.inr (Or.inr (Or.inr (Or.inr (Or.inr (Or.inr (Or.inr (Or.inl h))))))))))))))))) (fun h => h.elim (fun h => (Or.inr (Or.inr (Or.inr (Or.inr (Or.inr (Or.inr (Or.inr (Or.inr (Or.inr (Or.inr (Or.inr (Or.inr (Or.inr (Or.inr (Or.inr (Or.inr (Or.inl h)))))))))))))))))) (fun h => h.elim (fun h => (Or.inr (Or.inr (Or.inr (Or.inr (Or.inr (Or.inr (Or.inr (Or.inr (Or.inr (Or.inr (Or.inr (Or.inr (Or.inr (Or.inr (Or.inr (Or.inr (Or.inr (Or.inl h))))))))))))))))))) (fun h => h.elim (fun h => (Or.inr (Or.inr (Or.inr (Or.inr (Or.inr (Or.inr (Or.inr (Or.inr (Or.inr (Or.inr (Or.inr (Or.inr (Or.inr (Or.inr (Or.inr (Or.inr (Or.inr (Or.inr (Or.inl h)))))))))))))))))))) (fun h => h.elim (fun h => (Or.inr (Or.inr (Or.inr (Or.inr (Or.inr (Or.inr (Or.inr (Or.inr (Or.inr (Or.inr (Or.inr (Or.inr (Or.inr (Or.inr (Or.inr (Or.inr (Or.inr (Or.inr (Or.inr (Or.inr (Or.inr (Or.inr (Or.inr (Or.inr (Or.inr (Or.inr (Or.inr (Or.inr (Or.inr (Or.inr (Or.inr (Or.inr (Or.inr (Or.inr (Or.inr (Or.inr (Or.inr (Or.inr (Or.inl h)))))))))))))))))))))))))))))))))))))))) (fun h => h.elim (fun h => (Or.inr (Or.inr (Or.inr (Or.inr (Or.inr (Or.inr (Or.inr (Or.inr (Or.inr (Or.inr (Or.inr (Or.inr (Or.inr (Or.inr (Or.inr (Or.inr (Or.inr (Or.inr (Or.inr (Or.inr (Or.inr (Or.inr (Or.inr (Or.inr (Or.inr (Or.inr (Or.inr (Or.inr (Or.inr (Or.inr (Or.inr (Or.inr (Or.inr (Or.inr (Or.inr (Or.inr (Or.inr (Or.inr (Or.inr (Or.inl h))))))))))))))))))))))))))))))))))))))))) (fun h => h.elim (fun h => (Or.inr (Or.inr (Or.inr (Or.inr (Or.inr (Or.inr (Or.inr (Or.inr (Or.inr (Or.inr (Or.inr (Or.inr (Or.inr (Or.inr (Or.inr (Or.inr (Or.inr (Or.inr (Or.inr (Or.inr (Or.inr (Or.inr (Or.inr (Or.inr (Or.inr (Or.inr (Or.inr (Or.inr (Or.inr (Or.inr (Or.inr (Or.inr (Or.inr (Or.inr (Or.inr (Or.inr (Or.inr (Or.inr (Or.inr (Or.inr (Or.inl h)))))))))))))))))))))))))))))))))))))))))) (fun h => h.elim (fun h => (Or.inr (Or.inr (Or.inr (Or.inr (Or.inr (Or.inr (Or.inr (Or.inr (Or.inr (Or.inr (Or.inr (Or.inr (Or.inr (Or.inr (Or.inr (Or.inr (Or.inr (Or.inr (Or.inr (Or.inr (Or.inr (Or.inr (Or.inr (Or.inr (Or.inr (Or.inr (Or.inr (Or.inr (Or.inr (Or.inr (Or.inr (Or.inr (Or.inr (Or.inr (Or.inr (Or.inr (Or.inr (Or.inr (Or.inr (Or.inr (Or.inr (Or.inl h))))))))))))))))))))))))))))))))))))))))))) (fun h => h.elim (fun h => (Or.inr (Or.inr (Or.inr (Or.inr (Or.inr (Or.inr (Or.inr (Or.inr (Or.inr (Or.inr (Or.inr (Or.inr (Or.inr (Or.inr (Or.inr (Or.inr (Or.inr (Or.inr (Or.inr (Or.inr (Or.inr (Or.inr (Or.inr (Or.inr (Or.inr (Or.inr (Or.inr (Or.inr (Or.inr (Or.inr (Or.inr (Or.inr (Or.inr (Or.inr (Or.inr (Or.inr (Or.inr (Or.inr (Or.inr (Or.inr (Or.inr (Or.inr (Or.inl h)))))))))))))))))))))))))))))))))))))))))))) (fun h => h.elim (fun h => (Or.inr (Or.inr (Or.inr (Or.inr (Or.inr (Or.inr (Or.inr (Or.inr (Or.inr (Or.inr (Or.inr (Or.inr (Or.inr (Or.inr (Or.inr (Or.inr (Or.inr (Or.inr (Or.inr (Or.inr (Or.inr (Or.inr (Or.inr (Or.inr (Or.inr (Or.inr (Or.inr (Or.inr (Or.inr (Or.inr (Or.inr (Or.inr (Or.inr (Or.inr (Or.inr (Or.inr (Or.inr (Or.inr (Or.inr (Or.inr (Or.inr (Or.inr (Or.inr (Or.inl h))))))))))))))))))))))))))))))))))))))))))))) (fun h => h.elim (fun h => (Or.inr (Or.inr (Or.inr (Or.inr (Or.inr (Or.inr (Or.inr (Or.inr (Or.inr (Or.inr (Or.inr (Or.inr (Or.inr (Or.inr (Or.inr (Or.inr (Or.inr (Or.inr (Or.inr (Or.inr (Or.inr (Or.inr (Or.inr (Or.inr (Or.inr (Or.inr (Or.inr (Or.inr (Or.inr (Or.inr (Or.inr (Or.inr (Or.inr (Or.inr (Or.inr (Or.inr (Or.inr (Or.inr (Or.inr (Or.inr (Or.inr (Or.inr (Or.inr (Or.inr (Or.inl h)))))))))))))))))))))))))))))))))))))))))))))) (fun h => h.elim (fun h => (Or.inr (Or.inr (Or.inr (Or.inr (Or.inr (Or.inr (Or.inr (Or.inr (Or.inr (Or.inr (Or.inr (Or.inr (Or.inr (Or.inr (Or.inr (Or.inr (Or.inr (Or.inr (Or.inr (Or.inr (Or.inr (Or.inr (Or.inr (Or.inr (Or.inr (Or.inr (Or.inr (Or.inr (Or.inr (Or.inr (Or.inr (Or.inr (Or.inr (Or.inr (Or.inr (Or.inr (Or.inr (Or.inr (Or.inr (Or.inr (Or.inr (Or.inr (Or.inr (Or.inr (Or.inr (Or.inl h))))))))))))))))))))))))))))))))))))))))))))))) (fun h => h.elim (fun h => (Or.inr (Or.inr (Or.inr (Or.inr (Or.inr (Or.inr (Or.inr (Or.inr (Or.inr (Or.inr (Or.inr (Or.inr (Or.inr (Or.inr (Or.inr (Or.inr (Or.inr (Or.inr (Or.inr (Or.inr (Or.inr (Or.inr (Or.inr (Or.inr (Or.inr (Or.inr (Or.inr (Or.inr (Or.inr (Or.inr (Or.inr (Or.inr (Or.inr (Or.inr (Or.inr (Or.inr (Or.inr (Or.inr (Or.inr (Or.inr (Or.inr (Or.inr (Or.inr (Or.inr (Or.inr (Or.inr (Or.inl h)))))))))))))))))))))))))))))))))))))))))))))))) (fun h => h.elim (fun h => (Or.inr (Or.inr (Or.inr (Or.inr (Or.inr (Or.inr (Or.inr (Or.inr (Or.inr (Or.inr (Or.inr (Or.inr (Or.inr (Or.inr (Or.inr (Or.inr (Or.inr (Or.inr (Or.inr (Or.inr (Or.inr (Or.inr (Or.inr (Or.inr (Or.inr (Or.inr (Or.inr (Or.inr (Or.inr (Or.inr (Or.inr (Or.inr (Or.inr (Or.inr (Or.inr (Or.inr (Or.inr (Or.inr (Or.inr (Or.inr (Or.inr (Or.inr (Or.inr (Or.inr (Or.inr (Or.inr (Or.inr (Or.inl h))))))))))))))))))))))))))))))))))))))))))))))))) (fun h => h.elim (fun h => (Or.inr (Or.inr (Or.inr (Or.inr (Or.inr (Or.inr (Or.inr (Or.inr (Or.inr (Or.inr (Or.inr (Or.inr (Or.inr (Or.inr (Or.inr (Or.inr (Or.inr (Or.inr (Or.inr (Or.inr (Or.inr (Or.inr (Or.inr (Or.inr (Or.inr (Or.inr (Or.inr (Or.inr (Or.inr (Or.inr (Or.inr (Or.inr (Or.inr (Or.inr (Or.inr (Or.inr (Or.inr (Or.inr (Or.inr (Or.inr (Or.inr (Or.inr (Or.inr (Or.inr (Or.inr (Or.inr (Or.inr (Or.inr (Or.inl h)))))))))))))))))))))))))))))))))))))))))))))))))) (fun h => h.elim (fun h => (Or.inr (Or.inr (Or.inr (Or.inr (Or.inr (Or.inr (Or.inr (Or.inr (Or.inr (Or.inr (Or.inr (Or.inr (Or.inr (Or.inr (Or.inr (Or.inr (Or.inr (Or.inr (Or.inr (Or.inr (Or.inr (Or.inr (Or.inr (Or.inr (Or.inr (Or.inr (Or.inr (Or.inr (Or.inr (Or.inr (Or.inr (Or.inr (Or.inr (Or.inr (Or.inr (Or.inr (Or.inr (Or.inr (Or.inr (Or.inr (Or.inr (Or.inr (Or.inr (Or.inr (Or.inr (Or.inr (Or.inr (Or.inr (Or.inr (Or.inl h))))))))))))))))))))))))))))))))))))))))))))))))))) (fun h => h.elim (fun h => (Or.inr (Or.inr (Or.inr (Or.inr (Or.inr (Or.inr (Or.inr (Or.inr (Or.inr (Or.inr (Or.inr (Or.inr (Or.inr (Or.inr (Or.inr (Or.inr (Or.inr (Or.inr (Or.inr (Or.inr (Or.inr (Or.inr (Or.inr (Or.inr (Or.inr (Or.inr (Or.inr (Or.inr (Or.inr (Or.inr (Or.inr (Or.inr (Or.inr (Or.inr (Or.inr (Or.inr (Or.inr (Or.inr (Or.inr (Or.inr (Or.inr (Or.inr (Or.inr (Or.inr (Or.inr (Or.inr (Or.inr (Or.inr (Or.inr (Or.inr (Or.inl h)))))))))))))))))))))))))))))))))))))))))))))))))))) (fun h => h.elim (fun h => (Or.inr (Or.inr (Or.inr (Or.inr (Or.inr (Or.inr (Or.inr (Or.inr (Or.inr (Or.inr (Or.inr (Or.inr (Or.inr (Or.inr (Or.inr (Or.inr (Or.inr (Or.inr (Or.inr (Or.inr (Or.inr (Or.inr (Or.inr (Or.inr (Or.inr (Or.inr (Or.inr (Or.inr (Or.inr (Or.inr (Or.inr (Or.inr (Or.inr (Or.inr (Or.inr (Or.inr (Or.inr (Or.inr (Or.inr (Or.inr (Or.inr (Or.inr (Or.inr (Or.inr (Or.inr (Or.inr (Or.inr (Or.inr (Or.inr (Or.inr (Or.inr (Or.inl h))))))))))))))))))))))))))))))))))))))))))))))))))))) (fun h => h.elim (fun h => (Or.inr (Or.inr (Or.inr (Or.inr (Or.inr (Or.inr (Or.inr (Or.inr (Or.inr (Or.inr (Or.inr (Or.inr (Or.inr (Or.inr (Or.inr (Or.inr (Or.inr (Or.inr (Or.inr (Or.inr (Or.inr (Or.inr (Or.inr (Or.inr (Or.inr (Or.inr (Or.inr (Or.inr (Or.inr (Or.inr (Or.inr (Or.inr (Or.inr (Or.inr (Or.inr (Or.inr (Or.inr (Or.inr (Or.inr (Or.inr (Or.inr (Or.inr (Or.inr (Or.inr (Or.inr (Or.inr (Or.inr (Or.inr (Or.inr (Or.inr (Or.inr (Or.inr (Or.inl h)))))))))))))))))))))))))))))))))))))))))))))))))))))) (fun h => h.elim (fun h => (Or.inr (Or.inr (Or.inr (Or.inr (Or.inr (Or.inr (Or.inr (Or.inr (Or.inr (Or.inr (Or.inr (Or.inr (Or.inr (Or.inr (Or.inr (Or.inr (Or.inr (Or.inr (Or.inr (Or.inr (Or.inr (Or.inr (Or.inr (Or.inr (Or.inr (Or.inr (Or.inr (Or.inr (Or.inr (Or.inr (Or.inr (Or.inr (Or.inr (Or.inr (Or.inr (Or.inr (Or.inr (Or.inr (Or.inr (Or.inr (Or.inr (Or.inr (Or.inr (Or.inr (Or.inr (Or.inr (Or.inr (Or.inr (Or.inr (Or.inr (Or.inr (Or.inr (Or.inr (Or.inl h))))))))))))))))))))))))))))))))))))))))))))))))))))))) (fun h => h.elim (fun h => (Or.inr (Or.inr (Or.inr (Or.inr (Or.inr (Or.inr (Or.inr (Or.inr (Or.inr (Or.inr (Or.inr (Or.inr (Or.inr (Or.inr (Or.inr (Or.inr (Or.inr (Or.inr (Or.inr (Or.inr (Or.inr (Or.inr (Or.inr (Or.inr (Or.inr (Or.inr (Or.inr (Or.inr (Or.inr (Or.inr (Or.inr (Or.inr (Or.inr (Or.inr (Or.inr (Or.inr (Or.inr (Or.inr (Or.inr (Or.inr (Or.inr (Or.inr (Or.inr (Or.inr (Or.inr (Or.inr (Or.inr (Or.inr (Or.inr (Or.inr (Or.inr (Or.inr (Or.inr (Or.inr (Or.inl h)))))))))))))))))))))))))))))))))))))))))))))))))))))))) (fun h => h.elim (fun h => (Or.inr (Or.inr (Or.inr (Or.inr (Or.inr (Or.inr (Or.inr (Or.inr (Or.inr (Or.inr (Or.inr (Or.inr (Or.inr (Or.inr (Or.inr (Or.inr (Or.inr (Or.inr (Or.inr (Or.inr (Or.inr (Or.inr (Or.inr (Or.inr (Or.inr (Or.inr (Or.inr (Or.inr (Or.inr (Or.inr (Or.inr (Or.inr (Or.inr (Or.inr (Or.inr (Or.inr (Or.inr (Or.inr (Or.inr (Or.inr (Or.inr (Or.inr (Or.inr (Or.inr (Or.inr (Or.inr (Or.inr (Or.inr (Or.inr (Or.inr (Or.inr (Or.inr (Or.inr (Or.inr (Or.inr (Or.inl h))))))))))))))))))))))))))))))))))))))))))))))))))))))))) (fun h => h.elim (fun h => (Or.inr (Or.inr (Or.inr (Or.inr (Or.inr (Or.inr (Or.inr (Or.inr (Or.inr (Or.inr (Or.inr (Or.inr (Or.inr (Or.inr (Or.inr (Or.inr (Or.inr (Or.inr (Or.inr (Or.inr (Or.inr (Or.inr (Or.inr (Or.inr (Or.inr (Or.inr (Or.inr (Or.inr (Or.inr (Or.inr (Or.inr (Or.inr (Or.inr (Or.inr (Or.inr (Or.inr (Or.inr (Or.inr (Or.inr (Or.inr (Or.inr (Or.inr (Or.inr (Or.inr (Or.inr (Or.inr (Or.inr (Or.inr (Or.inr (Or.inr (Or.inr (Or.inr (Or.inr (Or.inr (Or.inr (Or.inr (Or.inl h)))))))))))))))))))))))))))))))))))))))))))))))))))))))))) (fun h => h.elim (fun h => (Or.inr (Or.inr (Or.inr (Or.inr (Or.inr (Or.inr (Or.inr (Or.inr (Or.inr (Or.inr (Or.inr (Or.inr (Or.inr (Or.inr (Or.inr (Or.inr (Or.inr (Or.inr (Or.inr (Or.inr (Or.inr (Or.inr (Or.inr (Or.inr (Or.inr (Or.inr (Or.inr (Or.inr (Or.inr (Or.inr (Or.inr (Or.inr (Or.inr (Or.inr (Or.inr (Or.inr (Or.inr (Or.inr (Or.inr (Or.inr (Or.inr (Or.inr (Or.inr (Or.inr (Or.inr (Or.inr (Or.inr (Or.inr (Or.inr (Or.inr (Or.inr (Or.inr (Or.inr (Or.inr (Or.inr (Or.inr (Or.inr (Or.inl h))))))))))))))))))))))))))))))))))))))))))))))))))))))))))) (fun h => (Or.inr (Or.inr (Or.inr (Or.inr (Or.inr (Or.inr (Or.inr (Or.inr (Or.inr (Or.inr (Or.inr (Or.inr (Or.inr (Or.inr (Or.inr (Or.inr (Or.inr (Or.inr (Or.inr (Or.inr (Or.inr (Or.inr (Or.inr (Or.inr (Or.inr (Or.inr (Or.inr (Or.inr (Or.inr (Or.inr (Or.inr (Or.inr (Or.inr (Or.inr (Or.inr (Or.inr (Or.inr (Or.inr (Or.inr (Or.inr (Or.inr (Or.inr (Or.inr (Or.inr (Or.inr (Or.inr (Or.inr (Or.inr (Or.inr (Or.inr (Or.inr (Or.inr (Or.inr (Or.inr (Or.inr (Or.inr (Or.inr (Or.inr h)))))))))))))))))))))))))))))))))))))))))))))))))))))))))))))))))))))))))))))))))))))))))))))))))) h))
  exact mm_fr.ret hf F
def fw_X1_isPit (r0 : Nat) (x1 : Int32) (q t i : Nat) : Prop := False
theorem fr_X1_isPit (r0 : Nat) (x1 : Int32) (σ : mm_M) (rv : Int32) (σ1 : mm_M) (hf : fx_X1_isPit r0 x1 σ = some (rv, σ1)) : σ1 = σ := by
  refine mm_fr.none (W := (fw_X1_isPit r0 x1)) (fun _ _ _ h => h) ?_
  rw [fx_X1_isPit] at hf
  have F : mm_fr (fw_X1_isPit r0 x1) σ σ := mm_fr.rf
  by_cases c_1 : x1 < (0 : Int32)
  · replace hf := mm_it c_1 hf
    exact mm_fr.ret hf F
  · replace hf := mm_if c_1 hf
    by_cases c_2 : (64 : Int32) ≤ x1
    · replace hf := mm_it c_2 hf
      exact mm_fr.ret hf F
    · replace hf := mm_if c_2 hf
      obtain ⟨h_3, hf⟩ := mm_gd_ok hf
      by_cases c_4 : (σ r0 2 0 x1.toNatClampNeg) = (7 : Int32)
      · replace hf := mm_it c_4 hf
        exact mm_fr.ret hf F
      · replace hf := mm_if c_4 hf
        exact mm_fr.ret hf F
def fw_X3_begin (r0 : Nat) (n0 : Nat) (x1 : Int32) (x2 : Int32) (q t i : Nat) : Prop := (q = r0 ∧ t = 6 ∧ i = 2) ∨ (q = r0 ∧ t = 6 ∧ i = 3) ∨ (q = r0 ∧ t = 6 ∧ i = 4)
theorem fr_X3_begin (r0 : Nat) (n0 : Nat) (x1 : Int32) (x2 : Int32) (σ : mm_M) (rv : Int32) (σ1 : mm_M) (hf : fx_X3_begin r0 n0 x1 x2 σ = some (rv, σ1)) : mm_fr (fw_X3_begin r0 n0 x1 x2) σ σ1 := by
  rw [fx_X3_begin] at hf
  have F : mm_fr (fw_X3_begin r0 n0 x1 x2) σ σ := mm_fr.rf
  obtain ⟨s_1, e_1, hf⟩ := mm_lt_ok hf
  have F := F.trans (mm_fr.u e_1 ((Or.inl ⟨rfl, rfl, rfl⟩)))
  obtain ⟨s_2, e_2, hf⟩ := mm_lt_ok hf
  have F := F.trans (mm_fr.u e_2 ((Or.inr (Or.inl ⟨rfl, rfl, rfl⟩))))
  obtain ⟨s_3, e_3, hf⟩ := mm_lt_ok hf
  have F := F.trans (mm_fr.u e_3 ((Or.inr (Or.inr ⟨rfl, rfl, rfl⟩))))
  exact mm_fr.ret hf F
def fw_X8_addCart (r0 : Nat) (x1 : Int32) (x2 : Int32) (q t i : Nat) : Prop := (q = r0 ∧ t = 0 ∧ i = 2) ∨ (q = r0 ∧ t = 6 ∧ i = 2) ∨ (q = r0 ∧ t = 6 ∧ i = 3) ∨ (q = r0 ∧ t = 6 ∧ i = 4)
theorem fr_X8_addCart (r0 : Nat) (x1 : Int32) (x2 : Int32) (σ : mm_M) (rv : Int32) (σ1 : mm_M) (hf : fx_X8_addCart r0 x1 x2 σ = some (rv, σ1)) : mm_fr (fw_X8_addCart r0 x1 x2) σ σ1 := by
  rw [fx_X8_addCart] at hf
  have F : mm_fr (fw_X8_addCart r0 x1 x2) σ σ := mm_fr.rf
  obtain ⟨r_1, s_1, e_1, hf⟩ := mm_bd_ok hf
  have F := F.trans (mm_fr.eq (fr_X10_isCell x1 σ r_1 s_1 e_1))
  by_cases c_2 : r_1 = (0 : Int32)
  · replace hf := mm_it c_2 hf
    exact mm_fr.ret hf F
  · replace hf := mm_if c_2 hf
    obtain ⟨r_3, s_3, e_3, hf⟩ := mm_bd_ok hf
    have F := F.trans (mm_fr.eq (fr_X10_isDirection x2 s_1 r_3 s_3 e_3))
    by_cases c_4 : r_3 = (0 : Int32)
    · replace hf := mm_it c_4 hf
      exact mm_fr.ret hf F
    · replace hf := mm_if c_4 hf
      obtain ⟨r_5, s_5, e_5, hf⟩ := mm_bd_ok hf
      have F := F.trans (mm_fr.eq (fr_X8_cartOn r0 x1 s_3 r_5 s_5 e_5))
      by_cases c_6 : r_5 = (-1 : Int32)
      · replace hf := mm_it c_6 hf
        obtain ⟨r_7, s_7, e_7, hf⟩ := mm_bd_ok hf
        have F := F.trans (mm_fr.eq (fr_X1_isPit r0 x1 s_5 r_7 s_7 e_7))
        by_cases c_8 : r_7 = (0 : Int32)
        · replace hf := mm_it c_8 hf
          by_cases c_9 : (s_7 r0 0 0 2) < (4 : Int32)
          · replace hf := mm_it c_9 hf
            obtain ⟨h_10, hf⟩ := mm_gd_ok hf
            obtain ⟨r_11, s_11, e_11, hf⟩ := mm_bd_ok hf
            have F := F.trans ((fr_X3_begin r0 ((s_7 r0 0 0 2).toNatClampNeg) x1 x2 s_7 r_11 s_11 e_11).mono (fun q t i h => (fun h => h.elim (fun h => (Or.inr (Or.inl h))) (fun h => h.elim (fun h => (Or.inr (Or.inr (Or.inl h)))) (fun h => (Or.inr (Or.inr (Or.inr h)))))) h))
            obtain ⟨s_12, e_12, hf⟩ := mm_lt_ok hf
            have F := F.trans (mm_fr.u e_12 ((Or.inl ⟨rfl, rfl, rfl⟩)))
            exact mm_fr.ret hf F
          · replace hf := mm_if c_9 hf
            exact mm_fr.ret hf F
        · replace hf := mm_if c_8 hf
          exact mm_fr.ret hf F
      · replace hf := mm_if c_6 hf
        exact mm_fr.ret hf F
def fw_X10_cart (x1 : Int32) (x2 : Int32) (q t i : Nat) : Prop := (q = 0 ∧ t = 0 ∧ i = 2) ∨ (q = 0 ∧ t = 0 ∧ i = 3) ∨ (q = 0 ∧ t = 0 ∧ i = 4) ∨ (q = 0 ∧ t = 0 ∧ i = 5) ∨ (q = 0 ∧ t = 0 ∧ i = 6) ∨ (q = 0 ∧ t = 0 ∧ i = 7) ∨ (q = 0 ∧ t = 1 ∧ i = 3) ∨ (q = 0 ∧ t = 2) ∨ (q = 0 ∧ t = 3) ∨ (q = 0 ∧ t = 4) ∨ (q = 0 ∧ t = 6 ∧ i = 2) ∨ (q = 0 ∧ t = 6 ∧ i = 3) ∨ (q = 0 ∧ t = 6 ∧ i = 4) ∨ (q = 0 ∧ t = 6 ∧ i = 5) ∨ (q = 0 ∧ t = 6 ∧ i = 6) ∨ (q = 0 ∧ t = 6 ∧ i = 7) ∨ (q = 0 ∧ t = 6 ∧ i = 8) ∨ (q = 0 ∧ t = 7) ∨ (q = 0 ∧ t = 8) ∨ (q = 1 ∧ t = 0 ∧ i = 2) ∨ (q = 1 ∧ t = 0 ∧ i = 3) ∨ (q = 1 ∧ t = 0 ∧ i = 4) ∨ (q = 1 ∧ t = 0 ∧ i = 5) ∨ (q = 1 ∧ t = 0 ∧ i = 6) ∨ (q = 1 ∧ t = 0 ∧ i = 7) ∨ (q = 1 ∧ t = 1 ∧ i = 3) ∨ (q = 1 ∧ t = 2) ∨ (q = 1 ∧ t = 3) ∨ (q = 1 ∧ t = 4) ∨ (q = 1 ∧ t = 6 ∧ i = 2) ∨ (q = 1 ∧ t = 6 ∧ i = 3) ∨ (q = 1 ∧ t = 6 ∧ i = 4) ∨ (q = 1 ∧ t = 6 ∧ i = 5) ∨ (q = 1 ∧ t = 6 ∧ i = 6) ∨ (q = 1 ∧ t = 6 ∧ i = 7) ∨ (q = 1 ∧ t = 6 ∧ i = 8) ∨ (q = 1 ∧ t = 7) ∨ (q = 1 ∧ t = 8) ∨ (q = 6 ∧ t = 10 ∧ i = 1) ∨ (q = 6 ∧ t = 11) ∨ (q < 6 ∧ t = 0 ∧ i = 2) ∨ (q < 6 ∧ t = 0 ∧ i = 3) ∨ (q < 6 ∧ t = 0 ∧ i = 4) ∨ (q < 6 ∧ t = 0 ∧ i = 5) ∨ (q < 6 ∧ t = 0 ∧ i = 6) ∨ (q < 6 ∧ t = 0 ∧ i = 7) ∨ (q < 6 ∧ t = 1 ∧ i = 3) ∨ (q < 6 ∧ t = 2) ∨ (q < 6 ∧ t = 3) ∨ (q < 6 ∧ t = 4) ∨ (q < 6 ∧ t = 6 ∧ i = 2) ∨ (q < 6 ∧ t = 6 ∧ i = 3) ∨ (q < 6 ∧ t = 6 ∧ i = 4) ∨ (q < 6 ∧ t = 6 ∧ i = 5) ∨ (q < 6 ∧ t = 6 ∧ i = 6) ∨ (q < 6 ∧ t = 6 ∧ i = 7) ∨ (q < 6 ∧ t = 6 ∧ i = 8) ∨ (q < 6 ∧ t = 7) ∨ (q < 6 ∧ t = 8)
theorem fr_X10_cart (x1 : Int32) (x2 : Int32) (σ : mm_M) (rv : Int32) (σ1 : mm_M) (hf : fx_X10_cart x1 x2 σ = some (rv, σ1)) : mm_fr (fw_X10_cart x1 x2) σ σ1 := by
  rw [fx_X10_cart] at hf
  have F : mm_fr (fw_X10_cart x1 x2) σ σ := mm_fr.rf
  obtain ⟨r_1, s_1, e_1, hf⟩ := mm_bd_ok hf
  have F := F.trans ((fr_X10_freshTrial  σ r_1 s_1 e_1).mono (fun q t i h => (fun h => h.elim (fun h => (Or.inr (Or.inr (Or.inr (Or.inr (Or.inr (Or.inr (Or.inr (Or.inr (Or.inr (Or.inr (Or.inr (Or.inr (Or.inr (Or.inr (Or.inr (Or.inr (Or.inr (Or.inr (Or.inr (Or.inl h))))))))))))))))))))) (fun h => h.elim (fun h => (Or.inr (Or.inr (Or.inr (Or.inr (Or.inr (Or.inr (Or.inr (Or.inr (Or.inr (Or.inr (Or.inr (Or.inr (Or.inr (Or.inr (Or.inr (Or.inr (Or.inr (Or.inr (Or.inr (Or.inr (Or.inl h)))))))))))))))))))))) (fun h => h.elim (fun h => (Or.inr (Or.inr (Or.inr (Or.inr (Or.inr (Or.inr (Or.inr (Or.inr (Or.inr (Or.inr (Or.inr (Or.inr (Or.inr (Or.inr (Or.inr (Or.inr (Or.inr (Or.inr (Or.inr (Or.inr (Or.inr (Or.inl h))))))))))))))))))))))) (fun h => h.elim (fun h => (Or.inr (Or.inr (Or.inr (Or.inr (Or.inr (Or.inr (Or.inr (Or.inr (Or.inr (Or.inr (Or.inr (Or.inr (Or.inr (Or.inr (Or.inr (Or.inr (Or.inr (Or.inr (Or.inr (Or.inr (Or.inr (Or.inr (Or.inl h)))))))))))))))))))))))) (fun h => h.elim (fun h => (Or.inr (Or.inr (Or.inr (Or.inr (Or.inr (Or.inr (Or.inr (Or.inr (Or.inr (Or.inr (Or.inr (Or.inr (Or.inr (Or.inr (Or.inr (Or.inr (Or.inr (Or.inr (Or.inr (Or.inr (Or.inr (Or.inr (Or.inr (Or.inl h))))))))))))))))))))))))) (fun h => h.elim (fun h => (Or.inr (Or.inr (Or.inr (Or.inr (Or.inr (Or.inr (Or.inr (Or.inr (Or.inr (Or.inr (Or.inr (Or.inr (Or.inr (Or.inr (Or.inr (Or.inr (Or.inr (Or.inr (Or.inr (Or.inr (Or.inr (Or.inr (Or.inr (Or.inr (Or.inl h)))))))))))))))))))))))))) (fun h => h.elim (fun h => (Or.inr (Or.inr (Or.inr (Or.inr (Or.inr (Or.inr (Or.inr (Or.inr (Or.inr (Or.inr (Or.inr (Or.inr (Or.inr (Or.inr (Or.inr (Or.inr (Or.inr (Or.inr (Or.inr (Or.inr (Or.inr (Or.inr (Or.inr (Or.inr (Or.inr (Or.inl h))))))))))))))))))))))))))) (fun h => h.elim (fun h => (Or.inr (Or.inr (Or.inr (Or.inr (Or.inr (Or.inr (Or.inr (Or.inr (Or.inr (Or.inr (Or.inr (Or.inr (Or.inr (Or.inr (Or.inr (Or.inr (Or.inr (Or.inr (Or.inr (Or.inr (Or.inr (Or.inr (Or.inr (Or.inr (Or.inr (Or.inr (Or.inl h)))))))))))))))))))))))))))) (fun h => h.elim (fun h => (Or.inr (Or.inr (Or.inr (Or.inr (Or.inr (Or.inr (Or.inr (Or.inr (Or.inr (Or.inr (Or.inr (Or.inr (Or.inr (Or.inr (Or.inr (Or.inr (Or.inr (Or.inr (Or.inr (Or.inr (Or.inr (Or.inr (Or.inr (Or.inr (Or.inr (Or.inr (Or.inr (Or.inl h))))))))))))))))))))))))))))) (fun h => h.elim (fun h => (Or.inr (Or.inr (Or.inr (Or.inr (Or.inr (Or.inr (Or.inr (Or.inr (Or.inr (Or.inr (Or.inr (Or.inr (Or.inr (Or.inr (Or.inr (Or.inr (Or.inr (Or.inr (Or.inr (Or.inr (Or.inr (Or.inr (Or.inr (Or.inr (Or.inr (Or.inr (Or.inr (Or.inr (Or.inl h)))))))))))))))))))))))))))))) (fun h => h.elim (fun h => (Or.inr (Or.inr (Or.inr (Or.inr (Or.inr (Or.inr (Or.inr (Or.inr (Or.inr (Or.inr (Or.inr (Or.inr (Or.inr (Or.inr (Or.inr (Or.inr (Or.inr (Or.inr (Or.inr (Or.inr (Or.inr (Or.inr (Or.inr (Or.inr (Or.inr (Or.inr (Or.inr (Or.inr (Or.inr (Or.inl h))))))))))))))))))))))))))))))) (fun h => h.elim (fun h => (Or.inr (Or.inr (Or.inr (Or.inr (Or.inr (Or.inr (Or.inr (Or.inr (Or.inr (Or.inr (Or.inr (Or.inr (Or.inr (Or.inr (Or.inr (Or.inr (Or.inr (Or.inr (Or.inr (Or.inr (Or.inr (Or.inr (Or.inr (Or.inr (Or.inr (Or.inr (Or.inr (Or.inr (Or.inr (Or.inr (Or.inl h)))))))))))))))))))))))))))))))) (fun h => h.elim (fun h => (Or.inr (Or.inr (Or.inr (Or.inr (Or.inr (Or.inr (Or.inr (Or.inr (Or.inr (Or.inr (Or.inr (Or.inr (Or.inr (Or.inr (Or.inr (Or.inr (Or.inr (Or.inr (Or.inr (Or.inr (Or.inr (Or.inr (Or.inr (Or.inr (Or.inr (Or.inr (Or.inr (Or.inr (Or.inr (Or.inr (Or.inr (Or.inl h))))))))))))))))))))))))))))))))) (fun h => h.elim (fun h => (Or.inr (Or.inr (Or.inr (Or.inr (Or.inr (Or.inr (Or.inr (Or.inr (Or.inr (Or.inr (Or.inr (Or.inr (Or.inr (Or.inr (Or.inr (Or.inr (Or.inr (Or.inr (Or.inr (Or.inr (Or.inr (Or.inr (Or.inr (Or.inr (Or.inr (Or.inr (Or.inr (Or.inr (Or.inr (Or.inr (Or.inr (Or.inr (Or.inl h)))))))))))))))))))))))))))))))))) (fun h => h.elim (fun h => (Or.inr (Or.inr (Or.inr (Or.inr (Or.inr (Or.inr (Or.inr (Or.inr (Or.inr (Or.inr (Or.inr (Or.inr (Or.inr (Or.inr (Or.inr (Or.inr (Or.inr (Or.inr (Or.inr (Or.inr (Or.inr (Or.inr (Or.inr (Or.inr (Or.inr (Or.inr (Or.inr (Or.inr (Or.inr (Or.inr (Or.inr (Or.inr (Or.inr (Or.inl h))))))))))))))))))))))))))))))))))) (fun h => h.elim (fun h => (Or.inr (Or.inr (Or.inr (Or.inr (Or.inr (Or.inr (Or.inr (Or.inr (Or.inr (Or.inr (Or.inr (Or.inr (Or.inr (Or.inr (Or.inr (Or.inr (Or.inr (Or.inr (Or.inr (Or.inr (Or.inr (Or.inr (Or.inr (Or.inr (Or.inr (Or.inr (Or.inr (Or.inr (Or.inr (Or.inr (Or.inr (Or.inr (Or.inr (Or.inr (Or.inl h)))))))))))))))))))))))))))))))))))) (fun h => h.elim (fun h => (Or.inr (Or.inr (Or.inr (Or.inr (Or.inr (Or.inr (Or.inr (Or.inr (Or.inr (Or.inr (Or.inr (Or.inr (Or.inr (Or.inr (Or.inr (Or.inr (Or.inr (Or.inr (Or.inr (Or.inr (Or.inr (Or.inr (Or.inr (Or.inr (Or.inr (Or.inr (Or.inr (Or.inr (Or.inr (Or.inr (Or.inr (Or.inr (Or.inr (Or.inr (Or.inr (Or.inl h))))))))))))))))))))))))))))))))))))) (fun h => h.elim (fun h => (Or.inr (Or.inr (Or.inr (Or.inr (Or.inr (Or.inr (Or.inr (Or.inr (Or.inr (Or.inr (Or.inr (Or.inr (Or.inr (Or.inr (Or.inr (Or.inr (Or.inr (Or.inr (Or.inr (Or.inr (Or.inr (Or.inr (Or.inr (Or.inr (Or.inr (Or.inr (Or.inr (Or.inr (Or.inr (Or.inr (Or.inr (Or.inr (Or.inr (Or.inr (Or.inr (Or.inr (Or.inl h)))))))))))))))))))))))))))))))))))))) (fun h => (Or.inr (Or.inr (Or.inr (Or.inr (Or.inr (Or.inr (Or.inr (Or.inr (Or.inr (Or.inr (Or.inr (Or.inr (Or.inr (Or.inr (Or.inr (Or.inr (Or.inr (Or.inr (Or.inr (Or.inr (Or.inr (Or.inr (Or.inr (Or.inr (Or.inr (Or.inr (Or.inr (Or.inr (Or.inr (Or.inr (Or.inr (Or.inr (Or.inr (Or.inr (Or.inr (Or.inr (Or.inr (Or.inl h))))))))))))))))))))))))))))))))))))))))))))))))))))))))) h))
  obtain ⟨r_2, s_2, e_2, hf⟩ := mm_bd_ok hf
  have F := F.trans ((fr_X8_addCart 1 x1 x2 s_1 r_2 s_2 e_2).mono (fun q t i h => (fun h => h.elim (fun h => (Or.inr (Or.inr (Or.inr (Or.inr (Or.inr (Or.inr (Or.inr (Or.inr (Or.inr (Or.inr (Or.inr (Or.inr (Or.inr (Or.inr (Or.inr (Or.inr (Or.inr (Or.inr (Or.inr (Or.inl h))))))))))))))))))))) (fun h => h.elim (fun h => (Or.inr (Or.inr (Or.inr (Or.inr (Or.inr (Or.inr (Or.inr (Or.inr (Or.inr (Or.inr (Or.inr (Or.inr (Or.inr (Or.inr (Or.inr (Or.inr (Or.inr (Or.inr (Or.inr (Or.inr (Or.inr (Or.inr (Or.inr (Or.inr (Or.inr (Or.inr (Or.inr (Or.inr (Or.inr (Or.inl h))))))))))))))))))))))))))))))) (fun h => h.elim (fun h => (Or.inr (Or.inr (Or.inr (Or.inr (Or.inr (Or.inr (Or.inr (Or.inr (Or.inr (Or.inr (Or.inr (Or.inr (Or.inr (Or.inr (Or.inr (Or.inr (Or.inr (Or.inr (Or.inr (Or.inr (Or.inr (Or.inr (Or.inr (Or.inr (Or.inr (Or.inr (Or.inr (Or.inr (Or.inr (Or.inr (Or.inl h)))))))))))))))))))))))))))))))) (fun h => (Or.inr (Or.inr (Or.inr (Or.inr (Or.inr (Or.inr (Or.inr (Or.inr (Or.inr (Or.inr (Or.inr (Or.inr (Or.inr (Or.inr (Or.inr (Or.inr (Or.inr (Or.inr (Or.inr (Or.inr (Or.inr (Or.inr (Or.inr (Or.inr (Or.inr (Or.inr (Or.inr (Or.inr (Or.inr (Or.inr (Or.inr (Or.inl h)))))))))))))))))))))))))))))))))))) h))
  obtain ⟨r_3, s_3, e_3, hf⟩ := mm_bd_ok hf
  have F := F.trans ((fr_X10_keep r_2 s_2 r_3 s_3 e_3).mono (fun q t i h => (fun h => h.elim (fun h => (Or.inl h)) (fun h => h.elim (fun h => (Or.inr (Or.inl h))) (fun h => h.elim (fun h => (Or.inr (Or.inr (Or.inl h)))) (fun h => h.elim (fun h => (Or.inr (Or.inr (Or.inr (Or.inl h))))) (fun h => h.elim (fun h => (Or.inr (Or.inr (Or.inr (Or.inr (Or.inl h)))))) (fun h => h.elim (fun h => (Or.inr (Or.inr (Or.inr (Or.inr (Or.inr (Or.inl h))))))) (fun h => h.elim (fun h => (Or.inr (Or.inr (Or.inr (Or.inr (Or.inr (Or.inr (Or.inl h)))))))) (fun h => h.elim (fun h => (Or.inr (Or.inr (Or.inr (Or.inr (Or.inr (Or.inr (Or.inr (Or.inl h))))))))) (fun h => h.elim (fun h => (Or.inr (Or.inr (Or.inr (Or.inr (Or.inr (Or.inr (Or.inr (Or.inr (Or.inl h)))))))))) (fun h => h.elim (fun h => (Or.inr (Or.inr (Or.inr (Or.inr (Or.inr (Or.inr (Or.inr (Or.inr (Or.inr (Or.inl h))))))))))) (fun h => h.elim (fun h => (Or.inr (Or.inr (Or.inr (Or.inr (Or.inr (Or.inr (Or.inr (Or.inr (Or.inr (Or.inr (Or.inl h)))))))))))) (fun h => h.elim (fun h => (Or.inr (Or.inr (Or.inr (Or.inr (Or.inr (Or.inr (Or.inr (Or.inr (Or.inr (Or.inr (Or.inr (Or.inl h))))))))))))) (fun h => h.elim (fun h => (Or.inr (Or.inr (Or.inr (Or.inr (Or.inr (Or.inr (Or.inr (Or.inr (Or.inr (Or.inr (Or.inr (Or.inr (Or.inl h)))))))))))))) (fun h => h.elim (fun h => (Or.inr (Or.inr (Or.inr (Or.inr (Or.inr (Or.inr (Or.inr (Or.inr (Or.inr (Or.inr (Or.inr (Or.inr (Or.inr (Or.inl h))))))))))))))) (fun h => h.elim (fun h => (Or.inr (Or.inr (Or.inr (Or.inr (Or.inr (Or.inr (Or.inr (Or.inr (Or.inr (Or.inr (Or.inr (Or.inr (Or.inr (Or.inr (Or.inl h)))))))))))))))) (fun h => h.elim (fun h => (Or.inr (Or.inr (Or.inr (Or.inr (Or.inr (Or.inr (Or.inr (Or.inr (Or.inr (Or.inr (Or.inr (Or.inr (Or.inr (Or.inr (Or.inr (Or.inl h))))))))))))))))) (fun h => h.elim (fun h => (Or.inr (Or.inr (Or.inr (Or.inr (Or.inr (Or.inr (Or.inr (Or.inr (Or.inr (Or.inr (Or.inr (Or.inr (Or.inr (Or.inr (Or.inr (Or.inr (Or.inl h)))))))))))))))))) (fun h => h.elim (fun h => (Or.inr (Or.inr (Or.inr (Or.inr (Or.inr (Or.inr (Or.inr (Or.inr (Or.inr (Or.inr (Or.inr (Or.inr (Or.inr (Or.inr (Or.inr (Or.inr (Or.inr (Or.inl h))))))))))))))))))) (fun h => h.elim (fun h => (Or.inr (Or.inr (Or.inr (Or.inr (Or.inr (Or.inr (Or.inr (Or.inr (Or.inr (Or.inr (Or.inr (Or.inr (Or.inr (Or.inr (Or.inr (Or.inr (Or.inr (Or.inr (Or.inl h)))))))))))))))))))) (fun h => h.elim (fun h => (Or.inr (Or.inr (Or.inr (Or.inr (Or.inr (Or.inr (Or.inr (Or.inr (Or.inr (Or.inr (Or.inr (Or.inr (Or.inr (Or.inr (Or.inr (Or.inr (Or.inr (Or.inr (Or.inr (Or.inr (Or.inr (Or.inr (Or.inr (Or.inr (Or.inr (Or.inr (Or.inr (Or.inr (Or.inr (Or.inr (Or.inr (Or.inr (Or.inr (Or.inr (Or.inr (Or.inr (Or.inr (Or.inr (Or.inl h)))))))))))))))))))))))))))))))))))))))) (fun h => h.elim (fun h => (Or.inr (Or.inr (Or.inr (Or.inr (Or.inr (Or.inr (Or.inr (Or.inr (Or.inr (Or.inr (Or.inr (Or.inr (Or.inr (Or.inr (Or.inr (Or.inr (Or.inr (Or.inr (Or.inr (Or.inr (Or.inr (Or.inr (Or.inr (Or.inr (Or.inr (Or.inr (Or.inr (Or.inr (Or.inr (Or.inr (Or.inr (Or.inr (Or.inr (Or.inr (Or.inr (Or.inr (Or.inr (Or.inr (Or.inr (Or.inl h))))))))))))))))))))))))))))))))))))))))) (fun h => h.elim (fun h => (Or.inr (Or.inr (Or.inr (Or.inr (Or.inr (Or.inr (Or.inr (Or.inr (Or.inr (Or.inr (Or.inr (Or.inr (Or.inr (Or.inr (Or.inr (Or.inr (Or.inr (Or.inr (Or.inr (Or.inr (Or.inr (Or.inr (Or.inr (Or.inr (Or.inr (Or.inr (Or.inr (Or.inr (Or.inr (Or.inr (Or.inr (Or.inr (Or.inr (Or.inr (Or.inr (Or.inr (Or.inr (Or.inr (Or.inr (Or.inr (Or.inl h)))))))))))))))))))))))))))))))))))))))))) (fun h => h.elim (fun h => (Or.inr (Or.inr (Or.inr (Or.inr (Or.inr (Or.inr (Or.inr (Or.inr (Or.inr (Or.inr (Or.inr (Or.inr (Or.inr (Or.inr (Or.inr (Or.inr (Or.inr (Or.inr (Or.inr (Or.inr (Or.inr (Or.inr (Or.inr (Or.inr (Or.inr (Or.inr (Or.inr (Or.inr (Or.inr (Or.inr (Or.inr (Or.inr (Or.inr (Or.inr (Or.inr (Or.inr (Or.inr (Or.inr (Or.inr (Or.inr (Or.inr (Or.inl h))))))))))))))))))))))))))))))))))))))))))) (fun h => h.elim (fun h => (Or.inr (Or.inr (Or.inr (Or.inr (Or.inr (Or.inr (Or.inr (Or.inr (Or.inr (Or.inr (Or.inr (Or.inr (Or.inr (Or.inr (Or.inr (Or.inr (Or.inr (Or.inr (Or.inr (Or.inr (Or.inr (Or.inr (Or.inr (Or.inr (Or.inr (Or.inr (Or.inr (Or.inr (Or.inr (Or.inr (Or.inr (Or.inr (Or.inr (Or.inr (Or.inr (Or.inr (Or.inr (Or.inr (Or.inr (Or.inr (Or.inr (Or.inr (Or.inl h)))))))))))))))))))))))))))))))))))))))))))) (fun h => h.elim (fun h => (Or.inr (Or.inr (Or.inr (Or.inr (Or.inr (Or.inr (Or.inr (Or.inr (Or.inr (Or.inr (Or.inr (Or.inr (Or.inr (Or.inr (Or.inr (Or.inr (Or.inr (Or.inr (Or.inr (Or.inr (Or.inr (Or.inr (Or.inr (Or.inr (Or.inr (Or.inr (Or.inr (Or.inr (Or.inr (Or.inr (Or.inr (Or.inr (Or.inr (Or.inr (Or.inr (Or.inr (Or.inr (Or.inr (Or.inr (Or.inr (Or.inr (Or.inr (Or.inr (Or.inl h))))))))))))))))))))))))))))))))))))))))))))) (fun h => h.elim (fun h => (Or.inr (Or.inr (Or.inr (Or.inr (Or.inr (Or.inr (Or.inr (Or.inr (Or.inr (Or.inr (Or.inr (Or.inr (Or.inr (Or.inr (Or.inr (Or.inr (Or.inr (Or.inr (Or.inr (Or.inr (Or.inr (Or.inr (Or.inr (Or.inr (Or.inr (Or.inr (Or.inr (Or.inr (Or.inr (Or.inr (Or.inr (Or.inr (Or.inr (Or.inr (Or.inr (Or.inr (Or.inr (Or.inr (Or.inr (Or.inr (Or.inr (Or.inr (Or.inr (Or.inr (Or.inl h)))))))))))))))))))))))))))))))))))))))))))))) (fun h => h.elim (fun h => (Or.inr (Or.inr (Or.inr (Or.inr (Or.inr (Or.inr (Or.inr (Or.inr (Or.inr (Or.inr (Or.inr (Or.inr (Or.inr (Or.inr (Or.inr (Or.inr (Or.inr (Or.inr (Or.inr (Or.inr (Or.inr (Or.inr (Or.inr (Or.inr (Or.inr (Or.inr (Or.inr (Or.inr (Or.inr (Or.inr (Or.inr (Or.inr (Or.inr (Or.inr (Or.inr (Or.inr (Or.inr (Or.inr (Or.inr (Or.inr (Or.inr (Or.inr (Or.inr (Or.inr (Or.inr (Or.inl h))))))))))))))))))))))))))))))))))))))))))))))) (fun h => h.elim (fun h => (Or.inr (Or.inr (Or.inr (Or.inr (Or.inr (Or.inr (Or.inr (Or.inr (Or.inr (Or.inr (Or.inr (Or.inr (Or.inr (Or.inr (Or.inr (Or.inr (Or.inr (Or.inr (Or.inr (Or.inr (Or.inr (Or.inr (Or.inr (Or.inr (Or.inr (Or.inr (Or.inr (Or.inr (Or.inr (Or.inr (Or.inr (Or.inr (Or.inr (Or.inr (Or.inr (Or.inr (Or.inr (Or.inr (Or.inr (Or.inr (Or.inr (Or.inr (Or.inr (Or.inr (Or.inr (Or.inr (Or.inl h)))))))))))))))))))))))))))))))))))))))))))))))) (fun h => h.elim (fun h => (Or.inr (Or.inr (Or.inr (Or.inr (Or.inr (Or.inr (Or.inr (Or.inr (Or.inr (Or.inr (Or.inr (Or.inr (Or.inr (Or.inr (Or.inr (Or.inr (Or.inr (Or.inr (Or.inr (Or.inr (Or.inr (Or.inr (Or.inr (Or.inr (Or.inr (Or.inr (Or.inr (Or.inr (Or.inr (Or.inr (Or.inr (Or.inr (Or.inr (Or.inr (Or.inr (Or.inr (Or.inr (Or.inr (Or.inr (Or.inr (Or.inr (Or.inr (Or.inr (Or.inr (Or.inr (Or.inr (Or.inr (Or.inl h))))))))))))))))))))))))))))))))))))))))))))))))) (fun h => h.elim (fun h => (Or.inr (Or.inr (Or.inr (Or.inr (Or.inr (Or.inr (Or.inr (Or.inr (Or.inr (Or.inr (Or.inr (Or.inr (Or.inr (Or.inr (Or.inr (Or.inr (Or.inr (Or.inr (Or.inr (Or.inr (Or.inr (Or.inr (Or.inr (Or.inr (Or.inr (Or.inr (Or.inr (Or.inr (Or.inr (Or.inr (Or.inr (Or.inr (Or.inr (Or.inr (Or.inr (Or.inr (Or.inr (Or.inr (Or.inr (Or.inr (Or.inr (Or.inr (Or.inr (Or.inr (Or.inr (Or.inr (Or.inr (Or.inr (Or.inl h)))))))))))))))))))))))))))))))))))))))))))))))))) (fun h => h.elim (fun h => (Or.inr (Or.inr (Or.inr (Or.inr (Or.inr (Or.inr (Or.inr (Or.inr (Or.inr (Or.inr (Or.inr (Or.inr (Or.inr (Or.inr (Or.inr (Or.inr (Or.inr (Or.inr (Or.inr (Or.inr (Or.inr (Or.inr (Or.inr (Or.inr (Or.inr (Or.inr (Or.inr (Or.inr (Or.inr (Or.inr (Or.inr (Or.inr (Or.inr (Or.inr (Or.inr (Or.inr (Or.inr (Or.inr (Or.inr (Or.inr (Or.inr (Or.inr (Or.inr (Or.inr (Or.inr (Or.inr (Or.inr (Or.inr (Or.inr (Or.inl h))))))))))))))))))))))))))))))))))))))))))))))))))) (fun h => h.elim (fun h => (Or.inr (Or.inr (Or.inr (Or.inr (Or.inr (Or.inr (Or.inr (Or.inr (Or.inr (Or.inr (Or.inr (Or.inr (Or.inr (Or.inr (Or.inr (Or.inr (Or.inr (Or.inr (Or.inr (Or.inr (Or.inr (Or.inr (Or.inr (Or.inr (Or.inr (Or.inr (Or.inr (Or.inr (Or.inr (Or.inr (Or.inr (Or.inr (Or.inr (Or.inr (Or.inr (Or.inr (Or.inr (Or.inr (Or.inr (Or.inr (Or.inr (Or.inr (Or.inr (Or.inr (Or.inr (Or.inr (Or.inr (Or.inr (Or.inr (Or.inr (Or.inl h)))))))))))))))))))))))))))))))))))))))))))))))))))) (fun h => h.elim (fun h => (Or.inr (Or.inr (Or.inr (Or.inr (Or.inr (Or.inr (Or.inr (Or.inr (Or.inr (Or.inr (Or.inr (Or.inr (Or.inr (Or.inr (Or.inr (Or.inr (Or.inr (Or.inr (Or.inr (Or.inr (Or.inr (Or.inr (Or.inr (Or.inr (Or.inr (Or.inr (Or.inr (Or.inr (Or.inr (Or.inr (Or.inr (Or.inr (Or.inr (Or.inr (Or.inr (Or.inr (Or.inr (Or.inr (Or.inr (Or.inr (Or.inr (Or.inr (Or.inr (Or.inr (Or.inr (Or.inr (Or.inr (Or.inr (Or.inr (Or.inr (Or.inr (Or.inl h))))))))))))))))))))))))))))))))))))))))))))))))))))) (fun h => h.elim (fun h => (Or.inr (Or.inr (Or.inr (Or.inr (Or.inr (Or.inr (Or.inr (Or.inr (Or.inr (Or.inr (Or.inr (Or.inr (Or.inr (Or.inr (Or.inr (Or.inr (Or.inr (Or.inr (Or.inr (Or.inr (Or.inr (Or.inr (Or.inr (Or.inr (Or.inr (Or.inr (Or.inr (Or.inr (Or.inr (Or.inr (Or.inr (Or.inr (Or.inr (Or.inr (Or.inr (Or.inr (Or.inr (Or.inr (Or.inr (Or.inr (Or.inr (Or.inr (Or.inr (Or.inr (Or.inr (Or.inr (Or.inr (Or.inr (Or.inr (Or.inr (Or.inr (Or.inr (Or.inl h)))))))))))))))))))))))))))))))))))))))))))))))))))))) (fun h => h.elim (fun h => (Or.inr (Or.inr (Or.inr (Or.inr (Or.inr (Or.inr (Or.inr (Or.inr (Or.inr (Or.inr (Or.inr (Or.inr (Or.inr (Or.inr (Or.inr (Or.inr (Or.inr (Or.inr (Or.inr (Or.inr (Or.inr (Or.inr (Or.inr (Or.inr (Or.inr (Or.inr (Or.inr (Or.inr (Or.inr (Or.inr (Or.inr (Or.inr (Or.inr (Or.inr (Or.inr (Or.inr (Or.inr (Or.inr (Or.inr (Or.inr (Or.inr (Or.inr (Or.inr (Or.inr (Or.inr (Or.inr (Or.inr (Or.inr (Or.inr (Or.inr (Or.inr (Or.inr (Or.inr (Or.inl h))))))))))))))))))))))))))))))))))))))))))))))))))))))) (fun h => h.elim (fun h => (Or.inr (Or.inr (Or.inr (Or.inr (Or.inr (Or.inr (Or.inr (Or.inr (Or.inr (Or.inr (Or.inr (Or.inr (Or.inr (Or.inr (Or.inr (Or.inr (Or.inr (Or.inr (Or.inr (Or.inr (Or.inr (Or.inr (Or.inr (Or.inr (Or.inr (Or.inr (Or.inr (Or.inr (Or.inr (Or.inr (Or.inr (Or.inr (Or.inr (Or.inr (Or.inr (Or.inr (Or.inr (Or.inr (Or.inr (Or.inr (Or.inr (Or.inr (Or.inr (Or.inr (Or.inr (Or.inr (Or.inr (Or.inr (Or.inr (Or.inr (Or.inr (Or.inr (Or.inr (Or.inr (Or.inl h)))))))))))))))))))))))))))))))))))))))))))))))))))))))) (fun h => h.elim (fun h => (Or.inr (Or.inr (Or.inr (Or.inr (Or.inr (Or.inr (Or.inr (Or.inr (Or.inr (Or.inr (Or.inr (Or.inr (Or.inr (Or.inr (Or.inr (Or.inr (Or.inr (Or.inr (Or.inr (Or.inr (Or.inr (Or.inr (Or.inr (Or.inr (Or.inr (Or.inr (Or.inr (Or.inr (Or.inr (Or.inr (Or.inr (Or.inr (Or.inr (Or.inr (Or.inr (Or.inr (Or.inr (Or.inr (Or.inr (Or.inr (Or.inr (Or.inr (Or.inr (Or.inr (Or.inr (Or.inr (Or.inr (Or.inr (Or.inr (Or.inr (Or.inr (Or.inr (Or.inr (Or.inr (Or.inr (Or.inl h))))))))))))))))))))))))))))))))))))))))))))))))))))))))) (fun h => h.elim (fun h => (Or.inr (Or.inr (Or.inr (Or.inr (Or.inr (Or.inr (Or.inr (Or.inr (Or.inr (Or.inr (Or.inr (Or.inr (Or.inr (Or.inr (Or.inr (Or.inr (Or.inr (Or.inr (Or.inr (Or.inr (Or.inr (Or.inr (Or.inr (Or.inr (Or.inr (Or.inr (Or.inr (Or.inr (Or.inr (Or.inr (Or.inr (Or.inr (Or.inr (Or.inr (Or.inr (Or.inr (Or.inr (Or.inr (Or.inr (Or.inr (Or.inr (Or.inr (Or.inr (Or.inr (Or.inr (Or.inr (Or.inr (Or.inr (Or.inr (Or.inr (Or.inr (Or.inr (Or.inr (Or.inr (Or.inr (Or.inr (Or.inl h)))))))))))))))))))))))))))))))))))))))))))))))))))))))))) (fun h => h.elim (fun h => (Or.inr (Or.inr (Or.inr (Or.inr (Or.inr (Or.inr (Or.inr (Or.inr (Or.inr (Or.inr (Or.inr (Or.inr (Or.inr (Or.inr (Or.inr (Or.inr (Or.inr (Or.inr (Or.inr (Or.inr (Or.inr (Or.inr (Or.inr (Or.inr (Or.inr (Or.inr (Or.inr (Or.inr (Or.inr (Or.inr (Or.inr (Or.inr (Or.inr (Or.inr (Or.inr (Or.inr (Or.inr (Or.inr (Or.inr (Or.inr (Or.inr (Or.inr (Or.inr (Or.inr (Or.inr (Or.inr (Or.inr (Or.inr (Or.inr (Or.inr (Or.inr (Or.inr (Or.inr (Or.inr (Or.inr (Or.inr (Or.inr (Or.inl h))))))))))))))))))))))))))))))))))))))))))))))))))))))))))) (fun h => (Or.inr (Or.inr (Or.inr (Or.inr (Or.inr (Or.inr (Or.inr (Or.inr (Or.inr (Or.inr (Or.inr (Or.inr (Or.inr (Or.inr (Or.inr (Or.inr (Or.inr (Or.inr (Or.inr (Or.inr (Or.inr (Or.inr (Or.inr (Or.inr (Or.inr (Or.inr (Or.inr (Or.inr (Or.inr (Or.inr (Or.inr (Or.inr (Or.inr (Or.inr (Or.inr (Or.inr (Or.inr (Or.inr (Or.inr (Or.inr (Or.inr (Or.inr (Or.inr (Or.inr (Or.inr (Or.inr (Or.inr (Or.inr (Or.inr (Or.inr (Or.inr (Or.inr (Or.inr (Or.inr (Or.inr (Or.inr (Or.inr (Or.inr h)))))))))))))))))))))))))))))))))))))))))))))))))))))))))))))))))))))))))))))))))))))))))))))))))) h))
  exact mm_fr.ret hf F
def fw_X8_hasCart (r0 : Nat) (x1 : Int32) (q t i : Nat) : Prop := False
theorem fr_X8_hasCart (r0 : Nat) (x1 : Int32) (σ : mm_M) (rv : Int32) (σ1 : mm_M) (hf : fx_X8_hasCart r0 x1 σ = some (rv, σ1)) : σ1 = σ := by
  refine mm_fr.none (W := (fw_X8_hasCart r0 x1)) (fun _ _ _ h => h) ?_
  rw [fx_X8_hasCart] at hf
  have F : mm_fr (fw_X8_hasCart r0 x1) σ σ := mm_fr.rf
  by_cases c_1 : x1 < (0 : Int32)
  · replace hf := mm_it c_1 hf
    exact mm_fr.ret hf F
  · replace hf := mm_if c_1 hf
    by_cases c_2 : (σ r0 0 0 2) ≤ x1
    · replace hf := mm_it c_2 hf
      exact mm_fr.ret hf F
    · replace hf := mm_if c_2 hf
      exact mm_fr.ret hf F
def fw_X10_isRegister (x0 : Int32) (q t i : Nat) : Prop := False
theorem fr_X10_isRegister (x0 : Int32) (σ : mm_M) (rv : Int32) (σ1 : mm_M) (hf : fx_X10_isRegister x0 σ = some (rv, σ1)) : σ1 = σ := by
  refine mm_fr.none (W := (fw_X10_isRegister x0)) (fun _ _ _ h => h) ?_
  rw [fx_X10_isRegister] at hf
  have F : mm_fr (fw_X10_isRegister x0) σ σ := mm_fr.rf
  by_cases c_1 : x0 < (0 : Int32)
  · replace hf := mm_it c_1 hf
    exact mm_fr.ret hf F
  · replace hf := mm_if c_1 hf
    by_cases c_2 : (5 : Int32) ≤ x0
    · replace hf := mm_it c_2 hf
      exact mm_fr.ret hf F
    · replace hf := mm_if c_2 hf
      exact mm_fr.ret hf F
def fw_X3_unlockedRegisters (r0 : Nat) (n0 : Nat) (q t i : Nat) : Prop := False
theorem fr_X3_unlockedRegisters (r0 : Nat) (n0 : Nat) (σ : mm_M) (rv : Int32) (σ1 : mm_M) (hf : fx_X3_unlockedRegisters r0 n0 σ = some (rv, σ1)) : σ1 = σ := by
  refine mm_fr.none (W := (fw_X3_unlockedRegisters r0 n0)) (fun _ _ _ h => h) ?_
  rw [fx_X3_unlockedRegisters] at hf
  have F : mm_fr (fw_X3_unlockedRegisters r0 n0) σ σ := mm_fr.rf
  obtain ⟨r_1, s_1, e_1, hf⟩ := mm_bd_ok hf
  have F := F.trans (mm_fr.eq (fr_J9_max_7cf53 (0 : Int32) ((σ r0 6 n0 5) - (4 : Int32)) σ r_1 s_1 e_1))
  exact mm_fr.ret hf F
def fw_X3_isLocked (r0 : Nat) (n0 : Nat) (x1 : Int32) (q t i : Nat) : Prop := False
theorem fr_X3_isLocked (r0 : Nat) (n0 : Nat) (x1 : Int32) (σ : mm_M) (rv : Int32) (σ1 : mm_M) (hf : fx_X3_isLocked r0 n0 x1 σ = some (rv, σ1)) : σ1 = σ := by
  refine mm_fr.none (W := (fw_X3_isLocked r0 n0 x1)) (fun _ _ _ h => h) ?_
  rw [fx_X3_isLocked] at hf
  have F : mm_fr (fw_X3_isLocked r0 n0 x1) σ σ := mm_fr.rf
  obtain ⟨r_1, s_1, e_1, hf⟩ := mm_bd_ok hf
  have F := F.trans (mm_fr.eq (fr_X3_unlockedRegisters r0 n0 σ r_1 s_1 e_1))
  by_cases c_2 : x1 < r_1
  · replace hf := mm_it c_2 hf
    exact mm_fr.ret hf F
  · replace hf := mm_if c_2 hf
    exact mm_fr.ret hf F
def fw_X3_isOut (r0 : Nat) (n0 : Nat) (q t i : Nat) : Prop := False
theorem fr_X3_isOut (r0 : Nat) (n0 : Nat) (σ : mm_M) (rv : Int32) (σ1 : mm_M) (hf : fx_X3_isOut r0 n0 σ = some (rv, σ1)) : σ1 = σ := by
  refine mm_fr.none (W := (fw_X3_isOut r0 n0)) (fun _ _ _ h => h) ?_
  rw [fx_X3_isOut] at hf
  have F : mm_fr (fw_X3_isOut r0 n0) σ σ := mm_fr.rf
  by_cases c_1 : (σ r0 6 n0 3) = (-1 : Int32)
  · replace hf := mm_it c_1 hf
    exact mm_fr.ret hf F
  · replace hf := mm_if c_1 hf
    exact mm_fr.ret hf F
def fw_X3_lay (r0 : Nat) (n0 : Nat) (x1 : Int32) (x2 : Int32) (x3 : Int32) (q t i : Nat) : Prop := (q = r0 ∧ t = 7) ∨ (q = r0 ∧ t = 8)
theorem fr_X3_lay (r0 : Nat) (n0 : Nat) (x1 : Int32) (x2 : Int32) (x3 : Int32) (σ : mm_M) (rv : Int32) (σ1 : mm_M) (hf : fx_X3_lay r0 n0 x1 x2 x3 σ = some (rv, σ1)) : mm_fr (fw_X3_lay r0 n0 x1 x2 x3) σ σ1 := by
  rw [fx_X3_lay] at hf
  have F : mm_fr (fw_X3_lay r0 n0 x1 x2 x3) σ σ := mm_fr.rf
  obtain ⟨h_1, hf⟩ := mm_gd_ok hf
  obtain ⟨s_2, e_2, hf⟩ := mm_lt_ok hf
  have F := F.trans (mm_fr.a e_2 (fun _ => (Or.inl ⟨rfl, rfl⟩)))
  obtain ⟨h_3, hf⟩ := mm_gd_ok hf
  obtain ⟨s_4, e_4, hf⟩ := mm_lt_ok hf
  have F := F.trans (mm_fr.a e_4 (fun _ => (Or.inr ⟨rfl, rfl⟩)))
  exact mm_fr.ret hf F
def fw_X3_cardSet (r0 : Nat) (n0 : Nat) (q t i : Nat) : Prop := False
theorem fr_X3_cardSet_L4 (r0 : Nat) (n0 : Nat) (rv : Int32) (σ1 : mm_M)  : ∀ (fu : Nat) (v1 : Int32) (v2 : Int32) (σ : mm_M), fx_X3_cardSet_L4 r0 n0 fu v1 v2 σ = some (rv, σ1) → mm_fr (fw_X3_cardSet r0 n0) σ σ1 := by
  intro fu
  induction fu with
  | zero =>
    intro v1 v2 σ hf
    exact mm_no hf
  | succ fu ih =>
    intro v1 v2 σ hf
    rw [fx_X3_cardSet_L4] at hf
    have F : mm_fr (fw_X3_cardSet r0 n0) σ σ := mm_fr.rf
    by_cases c_1 : (5 : Int32) ≤ v2
    · replace hf := mm_it c_1 hf
      exact mm_fr.ret hf F
    · replace hf := mm_if c_1 hf
      obtain ⟨h_2, hf⟩ := mm_gd_ok hf
      by_cases c_3 : (σ r0 8 n0 v2.toNatClampNeg) ≤ (0 : Int32)
      · replace hf := mm_it c_3 hf
        obtain ⟨y_4, e_4, hf⟩ := mm_li_ok hf
        exact F.trans (ih v1 y_4 σ hf)
      · replace hf := mm_if c_3 hf
        obtain ⟨y_5, e_5, hf⟩ := mm_li_ok hf
        obtain ⟨y_6, e_6, hf⟩ := mm_li_ok hf
        exact F.trans (ih y_5 y_6 σ hf)
theorem fr_X3_cardSet (r0 : Nat) (n0 : Nat) (σ : mm_M) (rv : Int32) (σ1 : mm_M) (hf : fx_X3_cardSet r0 n0 σ = some (rv, σ1)) : σ1 = σ := by
  refine mm_fr.none (W := (fw_X3_cardSet r0 n0)) (fun _ _ _ h => h) ?_
  rw [fx_X3_cardSet] at hf
  have F : mm_fr (fw_X3_cardSet r0 n0) σ σ := mm_fr.rf
  exact F.trans (fr_X3_cardSet_L4 r0 n0 rv σ1 mm_FU (0 : Int32) (0 : Int32) σ hf)
def fw_J6_bitCount_0f7a4 (x0 : Int32) (q t i : Nat) : Prop := False
theorem fr_J6_bitCount_0f7a4 (x0 : Int32) (σ : mm_M) (rv : Int32) (σ1 : mm_M) (hf : fx_J6_bitCount_0f7a4 x0 σ = some (rv, σ1)) : σ1 = σ := by
  refine mm_fr.none (W := (fw_J6_bitCount_0f7a4 x0)) (fun _ _ _ h => h) ?_
  rw [fx_J6_bitCount_0f7a4] at hf
  have F : mm_fr (fw_J6_bitCount_0f7a4 x0) σ σ := mm_fr.rf
  obtain ⟨y_1, e_1, hf⟩ := mm_li_ok hf
  obtain ⟨y_2, e_2, hf⟩ := mm_li_ok hf
  obtain ⟨y_3, e_3, hf⟩ := mm_li_ok hf
  obtain ⟨y_4, e_4, hf⟩ := mm_li_ok hf
  obtain ⟨y_5, e_5, hf⟩ := mm_li_ok hf
  exact mm_fr.ret hf F
def fw_X8_layCard (r0 : Nat) (x1 : Int32) (x2 : Int32) (x3 : Int32) (x4 : Int32) (q t i : Nat) : Prop := (q = r0 ∧ t = 7) ∨ (q = r0 ∧ t = 8)
theorem fr_X8_layCard (r0 : Nat) (x1 : Int32) (x2 : Int32) (x3 : Int32) (x4 : Int32) (σ : mm_M) (rv : Int32) (σ1 : mm_M) (hf : fx_X8_layCard r0 x1 x2 x3 x4 σ = some (rv, σ1)) : mm_fr (fw_X8_layCard r0 x1 x2 x3 x4) σ σ1 := by
  rw [fx_X8_layCard] at hf
  have F : mm_fr (fw_X8_layCard r0 x1 x2 x3 x4) σ σ := mm_fr.rf
  obtain ⟨r_1, s_1, e_1, hf⟩ := mm_bd_ok hf
  have F := F.trans (mm_fr.eq (fr_X8_hasCart r0 x1 σ r_1 s_1 e_1))
  by_cases c_2 : r_1 = (0 : Int32)
  · replace hf := mm_it c_2 hf
    exact mm_fr.ret hf F
  · replace hf := mm_if c_2 hf
    obtain ⟨r_3, s_3, e_3, hf⟩ := mm_bd_ok hf
    have F := F.trans (mm_fr.eq (fr_X10_isRegister x2 s_1 r_3 s_3 e_3))
    by_cases c_4 : r_3 = (0 : Int32)
    · replace hf := mm_it c_4 hf
      exact mm_fr.ret hf F
    · replace hf := mm_if c_4 hf
      obtain ⟨r_5, s_5, e_5, hf⟩ := mm_bd_ok hf
      have F := F.trans (mm_fr.eq (fr_X10_isWithin x3 (0 : Int32) (6 : Int32) s_3 r_5 s_5 e_5))
      by_cases c_6 : r_5 = (0 : Int32)
      · replace hf := mm_it c_6 hf
        exact mm_fr.ret hf F
      · replace hf := mm_if c_6 hf
        obtain ⟨r_7, s_7, e_7, hf⟩ := mm_bd_ok hf
        have F := F.trans (mm_fr.eq (fr_X10_isWithin x4 (1 : Int32) (999 : Int32) s_5 r_7 s_7 e_7))
        by_cases c_8 : r_7 = (0 : Int32)
        · replace hf := mm_it c_8 hf
          exact mm_fr.ret hf F
        · replace hf := mm_if c_8 hf
          obtain ⟨h_9, hf⟩ := mm_gd_ok hf
          obtain ⟨r_10, s_10, e_10, hf⟩ := mm_bd_ok hf
          have F := F.trans (mm_fr.eq (fr_X3_isLocked r0 x1.toNatClampNeg x2 s_7 r_10 s_10 e_10))
          by_cases c_11 : r_10 = (0 : Int32)
          · replace hf := mm_it c_11 hf
            obtain ⟨r_12, s_12, e_12, hf⟩ := mm_bd_ok hf
            have F := F.trans (mm_fr.eq (fr_X3_isOut r0 x1.toNatClampNeg s_10 r_12 s_12 e_12))
            by_cases c_13 : r_12 = (0 : Int32)
            · replace hf := mm_it c_13 hf
              by_cases c_14 : (s_12 r0 0 0 3) ≤ x2
              · replace hf := mm_it c_14 hf
                obtain ⟨r_15, s_15, e_15, hf⟩ := mm_bd_ok hf
                have F := F.trans ((fr_X3_lay r0 x1.toNatClampNeg x2 x3 x4 s_12 r_15 s_15 e_15).mono (fun q t i h => (fun h => h.elim (fun h => (Or.inl h)) (fun h => (Or.inr h))) h))
                obtain ⟨r_16, s_16, e_16, hf⟩ := mm_bd_ok hf
                have F := F.trans (mm_fr.eq (fr_X3_cardSet r0 x1.toNatClampNeg s_15 r_16 s_16 e_16))
                obtain ⟨r_17, s_17, e_17, hf⟩ := mm_bd_ok hf
                have F := F.trans (mm_fr.eq (fr_J6_bitCount_0f7a4 r_16 s_16 r_17 s_17 e_17))
                exact mm_fr.ret hf F
              · replace hf := mm_if c_14 hf
                exact mm_fr.ret hf F
            · replace hf := mm_if c_13 hf
              exact mm_fr.ret hf F
          · replace hf := mm_if c_11 hf
            exact mm_fr.ret hf F
def fw_X10_card (x1 : Int32) (x2 : Int32) (x3 : Int32) (x4 : Int32) (q t i : Nat) : Prop := (q = 0 ∧ t = 0 ∧ i = 2) ∨ (q = 0 ∧ t = 0 ∧ i = 3) ∨ (q = 0 ∧ t = 0 ∧ i = 4) ∨ (q = 0 ∧ t = 0 ∧ i = 5) ∨ (q = 0 ∧ t = 0 ∧ i = 6) ∨ (q = 0 ∧ t = 0 ∧ i = 7) ∨ (q = 0 ∧ t = 1 ∧ i = 3) ∨ (q = 0 ∧ t = 2) ∨ (q = 0 ∧ t = 3) ∨ (q = 0 ∧ t = 4) ∨ (q = 0 ∧ t = 6 ∧ i = 2) ∨ (q = 0 ∧ t = 6 ∧ i = 3) ∨ (q = 0 ∧ t = 6 ∧ i = 4) ∨ (q = 0 ∧ t = 6 ∧ i = 5) ∨ (q = 0 ∧ t = 6 ∧ i = 6) ∨ (q = 0 ∧ t = 6 ∧ i = 7) ∨ (q = 0 ∧ t = 6 ∧ i = 8) ∨ (q = 0 ∧ t = 7) ∨ (q = 0 ∧ t = 8) ∨ (q = 1 ∧ t = 0 ∧ i = 2) ∨ (q = 1 ∧ t = 0 ∧ i = 3) ∨ (q = 1 ∧ t = 0 ∧ i = 4) ∨ (q = 1 ∧ t = 0 ∧ i = 5) ∨ (q = 1 ∧ t = 0 ∧ i = 6) ∨ (q = 1 ∧ t = 0 ∧ i = 7) ∨ (q = 1 ∧ t = 1 ∧ i = 3) ∨ (q = 1 ∧ t = 2) ∨ (q = 1 ∧ t = 3) ∨ (q = 1 ∧ t = 4) ∨ (q = 1 ∧ t = 6 ∧ i = 2) ∨ (q = 1 ∧ t = 6 ∧ i = 3) ∨ (q = 1 ∧ t = 6 ∧ i = 4) ∨ (q = 1 ∧ t = 6 ∧ i = 5) ∨ (q = 1 ∧ t = 6 ∧ i = 6) ∨ (q = 1 ∧ t = 6 ∧ i = 7) ∨ (q = 1 ∧ t = 6 ∧ i = 8) ∨ (q = 1 ∧ t = 7) ∨ (q = 1 ∧ t = 8) ∨ (q = 6 ∧ t = 10 ∧ i = 1) ∨ (q = 6 ∧ t = 11) ∨ (q < 6 ∧ t = 0 ∧ i = 2) ∨ (q < 6 ∧ t = 0 ∧ i = 3) ∨ (q < 6 ∧ t = 0 ∧ i = 4) ∨ (q < 6 ∧ t = 0 ∧ i = 5) ∨ (q < 6 ∧ t = 0 ∧ i = 6) ∨ (q < 6 ∧ t = 0 ∧ i = 7) ∨ (q < 6 ∧ t = 1 ∧ i = 3) ∨ (q < 6 ∧ t = 2) ∨ (q < 6 ∧ t = 3) ∨ (q < 6 ∧ t = 4) ∨ (q < 6 ∧ t = 6 ∧ i = 2) ∨ (q < 6 ∧ t = 6 ∧ i = 3) ∨ (q < 6 ∧ t = 6 ∧ i = 4) ∨ (q < 6 ∧ t = 6 ∧ i = 5) ∨ (q < 6 ∧ t = 6 ∧ i = 6) ∨ (q < 6 ∧ t = 6 ∧ i = 7) ∨ (q < 6 ∧ t = 6 ∧ i = 8) ∨ (q < 6 ∧ t = 7) ∨ (q < 6 ∧ t = 8)
theorem fr_X10_card (x1 : Int32) (x2 : Int32) (x3 : Int32) (x4 : Int32) (σ : mm_M) (rv : Int32) (σ1 : mm_M) (hf : fx_X10_card x1 x2 x3 x4 σ = some (rv, σ1)) : mm_fr (fw_X10_card x1 x2 x3 x4) σ σ1 := by
  rw [fx_X10_card] at hf
  have F : mm_fr (fw_X10_card x1 x2 x3 x4) σ σ := mm_fr.rf
  obtain ⟨r_1, s_1, e_1, hf⟩ := mm_bd_ok hf
  have F := F.trans ((fr_X10_freshTrial  σ r_1 s_1 e_1).mono (fun q t i h => (fun h => h.elim (fun h => (Or.inr (Or.inr (Or.inr (Or.inr (Or.inr (Or.inr (Or.inr (Or.inr (Or.inr (Or.inr (Or.inr (Or.inr (Or.inr (Or.inr (Or.inr (Or.inr (Or.inr (Or.inr (Or.inr (Or.inl h))))))))))))))))))))) (fun h => h.elim (fun h => (Or.inr (Or.inr (Or.inr (Or.inr (Or.inr (Or.inr (Or.inr (Or.inr (Or.inr (Or.inr (Or.inr (Or.inr (Or.inr (Or.inr (Or.inr (Or.inr (Or.inr (Or.inr (Or.inr (Or.inr (Or.inl h)))))))))))))))))))))) (fun h => h.elim (fun h => (Or.inr (Or.inr (Or.inr (Or.inr (Or.inr (Or.inr (Or.inr (Or.inr (Or.inr (Or.inr (Or.inr (Or.inr (Or.inr (Or.inr (Or.inr (Or.inr (Or.inr (Or.inr (Or.inr (Or.inr (Or.inr (Or.inl h))))))))))))))))))))))) (fun h => h.elim (fun h => (Or.inr (Or.inr (Or.inr (Or.inr (Or.inr (Or.inr (Or.inr (Or.inr (Or.inr (Or.inr (Or.inr (Or.inr (Or.inr (Or.inr (Or.inr (Or.inr (Or.inr (Or.inr (Or.inr (Or.inr (Or.inr (Or.inr (Or.inl h)))))))))))))))))))))))) (fun h => h.elim (fun h => (Or.inr (Or.inr (Or.inr (Or.inr (Or.inr (Or.inr (Or.inr (Or.inr (Or.inr (Or.inr (Or.inr (Or.inr (Or.inr (Or.inr (Or.inr (Or.inr (Or.inr (Or.inr (Or.inr (Or.inr (Or.inr (Or.inr (Or.inr (Or.inl h))))))))))))))))))))))))) (fun h => h.elim (fun h => (Or.inr (Or.inr (Or.inr (Or.inr (Or.inr (Or.inr (Or.inr (Or.inr (Or.inr (Or.inr (Or.inr (Or.inr (Or.inr (Or.inr (Or.inr (Or.inr (Or.inr (Or.inr (Or.inr (Or.inr (Or.inr (Or.inr (Or.inr (Or.inr (Or.inl h)))))))))))))))))))))))))) (fun h => h.elim (fun h => (Or.inr (Or.inr (Or.inr (Or.inr (Or.inr (Or.inr (Or.inr (Or.inr (Or.inr (Or.inr (Or.inr (Or.inr (Or.inr (Or.inr (Or.inr (Or.inr (Or.inr (Or.inr (Or.inr (Or.inr (Or.inr (Or.inr (Or.inr (Or.inr (Or.inr (Or.inl h))))))))))))))))))))))))))) (fun h => h.elim (fun h => (Or.inr (Or.inr (Or.inr (Or.inr (Or.inr (Or.inr (Or.inr (Or.inr (Or.inr (Or.inr (Or.inr (Or.inr (Or.inr (Or.inr (Or.inr (Or.inr (Or.inr (Or.inr (Or.inr (Or.inr (Or.inr (Or.inr (Or.inr (Or.inr (Or.inr (Or.inr (Or.inl h)))))))))))))))))))))))))))) (fun h => h.elim (fun h => (Or.inr (Or.inr (Or.inr (Or.inr (Or.inr (Or.inr (Or.inr (Or.inr (Or.inr (Or.inr (Or.inr (Or.inr (Or.inr (Or.inr (Or.inr (Or.inr (Or.inr (Or.inr (Or.inr (Or.inr (Or.inr (Or.inr (Or.inr (Or.inr (Or.inr (Or.inr (Or.inr (Or.inl h))))))))))))))))))))))))))))) (fun h => h.elim (fun h => (Or.inr (Or.inr (Or.inr (Or.inr (Or.inr (Or.inr (Or.inr (Or.inr (Or.inr (Or.inr (Or.inr (Or.inr (Or.inr (Or.inr (Or.inr (Or.inr (Or.inr (Or.inr (Or.inr (Or.inr (Or.inr (Or.inr (Or.inr (Or.inr (Or.inr (Or.inr (Or.inr (Or.inr (Or.inl h)))))))))))))))))))))))))))))) (fun h => h.elim (fun h => (Or.inr (Or.inr (Or.inr (Or.inr (Or.inr (Or.inr (Or.inr (Or.inr (Or.inr (Or.inr (Or.inr (Or.inr (Or.inr (Or.inr (Or.inr (Or.inr (Or.inr (Or.inr (Or.inr (Or.inr (Or.inr (Or.inr (Or.inr (Or.inr (Or.inr (Or.inr (Or.inr (Or.inr (Or.inr (Or.inl h))))))))))))))))))))))))))))))) (fun h => h.elim (fun h => (Or.inr (Or.inr (Or.inr (Or.inr (Or.inr (Or.inr (Or.inr (Or.inr (Or.inr (Or.inr (Or.inr (Or.inr (Or.inr (Or.inr (Or.inr (Or.inr (Or.inr (Or.inr (Or.inr (Or.inr (Or.inr (Or.inr (Or.inr (Or.inr (Or.inr (Or.inr (Or.inr (Or.inr (Or.inr (Or.inr (Or.inl h)))))))))))))))))))))))))))))))) (fun h => h.elim (fun h => (Or.inr (Or.inr (Or.inr (Or.inr (Or.inr (Or.inr (Or.inr (Or.inr (Or.inr (Or.inr (Or.inr (Or.inr (Or.inr (Or.inr (Or.inr (Or.inr (Or.inr (Or.inr (Or.inr (Or.inr (Or.inr (Or.inr (Or.inr (Or.inr (Or.inr (Or.inr (Or.inr (Or.inr (Or.inr (Or.inr (Or.inr (Or.inl h))))))))))))))))))))))))))))))))) (fun h => h.elim (fun h => (Or.inr (Or.inr (Or.inr (Or.inr (Or.inr (Or.inr (Or.inr (Or.inr (Or.inr (Or.inr (Or.inr (Or.inr (Or.inr (Or.inr (Or.inr (Or.inr (Or.inr (Or.inr (Or.inr (Or.inr (Or.inr (Or.inr (Or.inr (Or.inr (Or.inr (Or.inr (Or.inr (Or.inr (Or.inr (Or.inr (Or.inr (Or.inr (Or.inl h)))))))))))))))))))))))))))))))))) (fun h => h.elim (fun h => (Or.inr (Or.inr (Or.inr (Or.inr (Or.inr (Or.inr (Or.inr (Or.inr (Or.inr (Or.inr (Or.inr (Or.inr (Or.inr (Or.inr (Or.inr (Or.inr (Or.inr (Or.inr (Or.inr (Or.inr (Or.inr (Or.inr (Or.inr (Or.inr (Or.inr (Or.inr (Or.inr (Or.inr (Or.inr (Or.inr (Or.inr (Or.inr (Or.inr (Or.inl h))))))))))))))))))))))))))))))))))) (fun h => h.elim (fun h => (Or.inr (Or.inr (Or.inr (Or.inr (Or.inr (Or.inr (Or.inr (Or.inr (Or.inr (Or.inr (Or.inr (Or.inr (Or.inr (Or.inr (Or.inr (Or.inr (Or.inr (Or.inr (Or.inr (Or.inr (Or.inr (Or.inr (Or.inr (Or.inr (Or.inr (Or.inr (Or.inr (Or.inr (Or.inr (Or.inr (Or.inr (Or.inr (Or.inr (Or.inr (Or.inl h)))))))))))))))))))))))))))))))))))) (fun h => h.elim (fun h => (Or.inr (Or.inr (Or.inr (Or.inr (Or.inr (Or.inr (Or.inr (Or.inr (Or.inr (Or.inr (Or.inr (Or.inr (Or.inr (Or.inr (Or.inr (Or.inr (Or.inr (Or.inr (Or.inr (Or.inr (Or.inr (Or.inr (Or.inr (Or.inr (Or.inr (Or.inr (Or.inr (Or.inr (Or.inr (Or.inr (Or.inr (Or.inr (Or.inr (Or.inr (Or.inr (Or.inl h))))))))))))))))))))))))))))))))))))) (fun h => h.elim (fun h => (Or.inr (Or.inr (Or.inr (Or.inr (Or.inr (Or.inr (Or.inr (Or.inr (Or.inr (Or.inr (Or.inr (Or.inr (Or.inr (Or.inr (Or.inr (Or.inr (Or.inr (Or.inr (Or.inr (Or.inr (Or.inr (Or.inr (Or.inr (Or.inr (Or.inr (Or.inr (Or.inr (Or.inr (Or.inr (Or.inr (Or.inr (Or.inr (Or.inr (Or.inr (Or.inr (Or.inr (Or.inl h)))))))))))))))))))))))))))))))))))))) (fun h => (Or.inr (Or.inr (Or.inr (Or.inr (Or.inr (Or.inr (Or.inr (Or.inr (Or.inr (Or.inr (Or.inr (Or.inr (Or.inr (Or.inr (Or.inr (Or.inr (Or.inr (Or.inr (Or.inr (Or.inr (Or.inr (Or.inr (Or.inr (Or.inr (Or.inr (Or.inr (Or.inr (Or.inr (Or.inr (Or.inr (Or.inr (Or.inr (Or.inr (Or.inr (Or.inr (Or.inr (Or.inr (Or.inl h))))))))))))))))))))))))))))))))))))))))))))))))))))))))) h))
  obtain ⟨r_2, s_2, e_2, hf⟩ := mm_bd_ok hf
  have F := F.trans ((fr_X8_layCard 1 x1 x2 x3 x4 s_1 r_2 s_2 e_2).mono (fun q t i h => (fun h => h.elim (fun h => (Or.inr (Or.inr (Or.inr (Or.inr (Or.inr (Or.inr (Or.inr (Or.inr (Or.inr (Or.inr (Or.inr (Or.inr (Or.inr (Or.inr (Or.inr (Or.inr (Or.inr (Or.inr (Or.inr (Or.inr (Or.inr (Or.inr (Or.inr (Or.inr (Or.inr (Or.inr (Or.inr (Or.inr (Or.inr (Or.inr (Or.inr (Or.inr (Or.inr (Or.inr (Or.inr (Or.inr (Or.inl h)))))))))))))))))))))))))))))))))))))) (fun h => (Or.inr (Or.inr (Or.inr (Or.inr (Or.inr (Or.inr (Or.inr (Or.inr (Or.inr (Or.inr (Or.inr (Or.inr (Or.inr (Or.inr (Or.inr (Or.inr (Or.inr (Or.inr (Or.inr (Or.inr (Or.inr (Or.inr (Or.inr (Or.inr (Or.inr (Or.inr (Or.inr (Or.inr (Or.inr (Or.inr (Or.inr (Or.inr (Or.inr (Or.inr (Or.inr (Or.inr (Or.inr (Or.inl h)))))))))))))))))))))))))))))))))))))))) h))
  obtain ⟨r_3, s_3, e_3, hf⟩ := mm_bd_ok hf
  have F := F.trans ((fr_X10_keep r_2 s_2 r_3 s_3 e_3).mono (fun q t i h => (fun h => h.elim (fun h => (Or.inl h)) (fun h => h.elim (fun h => (Or.inr (Or.inl h))) (fun h => h.elim (fun h => (Or.inr (Or.inr (Or.inl h)))) (fun h => h.elim (fun h => (Or.inr (Or.inr (Or.inr (Or.inl h))))) (fun h => h.elim (fun h => (Or.inr (Or.inr (Or.inr (Or.inr (Or.inl h)))))) (fun h => h.elim (fun h => (Or.inr (Or.inr (Or.inr (Or.inr (Or.inr (Or.inl h))))))) (fun h => h.elim (fun h => (Or.inr (Or.inr (Or.inr (Or.inr (Or.inr (Or.inr (Or.inl h)))))))) (fun h => h.elim (fun h => (Or.inr (Or.inr (Or.inr (Or.inr (Or.inr (Or.inr (Or.inr (Or.inl h))))))))) (fun h => h.elim (fun h => (Or.inr (Or.inr (Or.inr (Or.inr (Or.inr (Or.inr (Or.inr (Or.inr (Or.inl h)))))))))) (fun h => h.elim (fun h => (Or.inr (Or.inr (Or.inr (Or.inr (Or.inr (Or.inr (Or.inr (Or.inr (Or.inr (Or.inl h))))))))))) (fun h => h.elim (fun h => (Or.inr (Or.inr (Or.inr (Or.inr (Or.inr (Or.inr (Or.inr (Or.inr (Or.inr (Or.inr (Or.inl h)))))))))))) (fun h => h.elim (fun h => (Or.inr (Or.inr (Or.inr (Or.inr (Or.inr (Or.inr (Or.inr (Or.inr (Or.inr (Or.inr (Or.inr (Or.inl h))))))))))))) (fun h => h.elim (fun h => (Or.inr (Or.inr (Or.inr (Or.inr (Or.inr (Or.inr (Or.inr (Or.inr (Or.inr (Or.inr (Or.inr (Or.inr (Or.inl h)))))))))))))) (fun h => h.elim (fun h => (Or.inr (Or.inr (Or.inr (Or.inr (Or.inr (Or.inr (Or.inr (Or.inr (Or.inr (Or.inr (Or.inr (Or.inr (Or.inr (Or.inl h))))))))))))))) (fun h => h.elim (fun h => (Or.inr (Or.inr (Or.inr (Or.inr (Or.inr (Or.inr (Or.inr (Or.inr (Or.inr (Or.inr (Or.inr (Or.inr (Or.inr (Or.inr (Or.inl h)))))))))))))))) (fun h => h.elim (fun h => (Or.inr (Or.inr (Or.inr (Or.inr (Or.inr (Or.inr (Or.inr (Or.inr (Or.inr (Or.inr (Or.inr (Or.inr (Or.inr (Or.inr (Or.inr (Or.inl h))))))))))))))))) (fun h => h.elim (fun h => (Or.inr (Or.inr (Or.inr (Or.inr (Or.inr (Or.inr (Or.inr (Or.inr (Or.inr (Or.inr (Or.inr (Or.inr (Or.inr (Or.inr (Or.inr (Or.inr (Or.inl h)))))))))))))))))) (fun h => h.elim (fun h => (Or.inr (Or.inr (Or.inr (Or.inr (Or.inr (Or.inr (Or.inr (Or.inr (Or.inr (Or.inr (Or.inr (Or.inr (Or.inr (Or.inr (Or.inr (Or.inr (Or.inr (Or.inl h))))))))))))))))))) (fun h => h.elim (fun h => (Or.inr (Or.inr (Or.inr (Or.inr (Or.inr (Or.inr (Or.inr (Or.inr (Or.inr (Or.inr (Or.inr (Or.inr (Or.inr (Or.inr (Or.inr (Or.inr (Or.inr (Or.inr (Or.inl h)))))))))))))))))))) (fun h => h.elim (fun h => (Or.inr (Or.inr (Or.inr (Or.inr (Or.inr (Or.inr (Or.inr (Or.inr (Or.inr (Or.inr (Or.inr (Or.inr (Or.inr (Or.inr (Or.inr (Or.inr (Or.inr (Or.inr (Or.inr (Or.inr (Or.inr (Or.inr (Or.inr (Or.inr (Or.inr (Or.inr (Or.inr (Or.inr (Or.inr (Or.inr (Or.inr (Or.inr (Or.inr (Or.inr (Or.inr (Or.inr (Or.inr (Or.inr (Or.inl h)))))))))))))))))))))))))))))))))))))))) (fun h => h.elim (fun h => (Or.inr (Or.inr (Or.inr (Or.inr (Or.inr (Or.inr (Or.inr (Or.inr (Or.inr (Or.inr (Or.inr (Or.inr (Or.inr (Or.inr (Or.inr (Or.inr (Or.inr (Or.inr (Or.inr (Or.inr (Or.inr (Or.inr (Or.inr (Or.inr (Or.inr (Or.inr (Or.inr (Or.inr (Or.inr (Or.inr (Or.inr (Or.inr (Or.inr (Or.inr (Or.inr (Or.inr (Or.inr (Or.inr (Or.inr (Or.inl h))))))))))))))))))))))))))))))))))))))))) (fun h => h.elim (fun h => (Or.inr (Or.inr (Or.inr (Or.inr (Or.inr (Or.inr (Or.inr (Or.inr (Or.inr (Or.inr (Or.inr (Or.inr (Or.inr (Or.inr (Or.inr (Or.inr (Or.inr (Or.inr (Or.inr (Or.inr (Or.inr (Or.inr (Or.inr (Or.inr (Or.inr (Or.inr (Or.inr (Or.inr (Or.inr (Or.inr (Or.inr (Or.inr (Or.inr (Or.inr (Or.inr (Or.inr (Or.inr (Or.inr (Or.inr (Or.inr (Or.inl h)))))))))))))))))))))))))))))))))))))))))) (fun h => h.elim (fun h => (Or.inr (Or.inr (Or.inr (Or.inr (Or.inr (Or.inr (Or.inr (Or.inr (Or.inr (Or.inr (Or.inr (Or.inr (Or.inr (Or.inr (Or.inr (Or.inr (Or.inr (Or.inr (Or.inr (Or.inr (Or.inr (Or.inr (Or.inr (Or.inr (Or.inr (Or.inr (Or.inr (Or.inr (Or.inr (Or.inr (Or.inr (Or.inr (Or.inr (Or.inr (Or.inr (Or.inr (Or.inr (Or.inr (Or.inr (Or.inr (Or.inr (Or.inl h))))))))))))))))))))))))))))))))))))))))))) (fun h => h.elim (fun h => (Or.inr (Or.inr (Or.inr (Or.inr (Or.inr (Or.inr (Or.inr (Or.inr (Or.inr (Or.inr (Or.inr (Or.inr (Or.inr (Or.inr (Or.inr (Or.inr (Or.inr (Or.inr (Or.inr (Or.inr (Or.inr (Or.inr (Or.inr (Or.inr (Or.inr (Or.inr (Or.inr (Or.inr (Or.inr (Or.inr (Or.inr (Or.inr (Or.inr (Or.inr (Or.inr (Or.inr (Or.inr (Or.inr (Or.inr (Or.inr (Or.inr (Or.inr (Or.inl h)))))))))))))))))))))))))))))))))))))))))))) (fun h => h.elim (fun h => (Or.inr (Or.inr (Or.inr (Or.inr (Or.inr (Or.inr (Or.inr (Or.inr (Or.inr (Or.inr (Or.inr (Or.inr (Or.inr (Or.inr (Or.inr (Or.inr (Or.inr (Or.inr (Or.inr (Or.inr (Or.inr (Or.inr (Or.inr (Or.inr (Or.inr (Or.inr (Or.inr (Or.inr (Or.inr (Or.inr (Or.inr (Or.inr (Or.inr (Or.inr (Or.inr (Or.inr (Or.inr (Or.inr (Or.inr (Or.inr (Or.inr (Or.inr (Or.inr (Or.inl h))))))))))))))))))))))))))))))))))))))))))))) (fun h => h.elim (fun h => (Or.inr (Or.inr (Or.inr (Or.inr (Or.inr (Or.inr (Or.inr (Or.inr (Or.inr (Or.inr (Or.inr (Or.inr (Or.inr (Or.inr (Or.inr (Or.inr (Or.inr (Or.inr (Or.inr (Or.inr (Or.inr (Or.inr (Or.inr (Or.inr (Or.inr (Or.inr (Or.inr (Or.inr (Or.inr (Or.inr (Or.inr (Or.inr (Or.inr (Or.inr (Or.inr (Or.inr (Or.inr (Or.inr (Or.inr (Or.inr (Or.inr (Or.inr (Or.inr (Or.inr (Or.inl h)))))))))))))))))))))))))))))))))))))))))))))) (fun h => h.elim (fun h => (Or.inr (Or.inr (Or.inr (Or.inr (Or.inr (Or.inr (Or.inr (Or.inr (Or.inr (Or.inr (Or.inr (Or.inr (Or.inr (Or.inr (Or.inr (Or.inr (Or.inr (Or.inr (Or.inr (Or.inr (Or.inr (Or.inr (Or.inr (Or.inr (Or.inr (Or.inr (Or.inr (Or.inr (Or.inr (Or.inr (Or.inr (Or.inr (Or.inr (Or.inr (Or.inr (Or.inr (Or.inr (Or.inr (Or.inr (Or.inr (Or.inr (Or.inr (Or.inr (Or.inr (Or.inr (Or.inl h))))))))))))))))))))))))))))))))))))))))))))))) (fun h => h.elim (fun h => (Or.inr (Or.inr (Or.inr (Or.inr (Or.inr (Or.inr (Or.inr (Or.inr (Or.inr (Or.inr (Or.inr (Or.inr (Or.inr (Or.inr (Or.inr (Or.inr (Or.inr (Or.inr (Or.inr (Or.inr (Or.inr (Or.inr (Or.inr (Or.inr (Or.inr (Or.inr (Or.inr (Or.inr (Or.inr (Or.inr (Or.inr (Or.inr (Or.inr (Or.inr (Or.inr (Or.inr (Or.inr (Or.inr (Or.inr (Or.inr (Or.inr (Or.inr (Or.inr (Or.inr (Or.inr (Or.inr (Or.inl h)))))))))))))))))))))))))))))))))))))))))))))))) (fun h => h.elim (fun h => (Or.inr (Or.inr (Or.inr (Or.inr (Or.inr (Or.inr (Or.inr (Or.inr (Or.inr (Or.inr (Or.inr (Or.inr (Or.inr (Or.inr (Or.inr (Or.inr (Or.inr (Or.inr (Or.inr (Or.inr (Or.inr (Or.inr (Or.inr (Or.inr (Or.inr (Or.inr (Or.inr (Or.inr (Or.inr (Or.inr (Or.inr (Or.inr (Or.inr (Or.inr (Or.inr (Or.inr (Or.inr (Or.inr (Or.inr (Or.inr (Or.inr (Or.inr (Or.inr (Or.inr (Or.inr (Or.inr (Or.inr (Or.inl h))))))))))))))))))))))))))))))))))))))))))))))))) (fun h => h.elim (fun h => (Or.inr (Or.inr (Or.inr (Or.inr (Or.inr (Or.inr (Or.inr (Or.inr (Or.inr (Or.inr (Or.inr (Or.inr (Or.inr (Or.inr (Or.inr (Or.inr (Or.inr (Or.inr (Or.inr (Or.inr (Or.inr (Or.inr (Or.inr (Or.inr (Or.inr (Or.inr (Or.inr (Or.inr (Or.inr (Or.inr (Or.inr (Or.inr (Or.inr (Or.inr (Or.inr (Or.inr (Or.inr (Or.inr (Or.inr (Or.inr (Or.inr (Or.inr (Or.inr (Or.inr (Or.inr (Or.inr (Or.inr (Or.inr (Or.inl h)))))))))))))))))))))))))))))))))))))))))))))))))) (fun h => h.elim (fun h => (Or.inr (Or.inr (Or.inr (Or.inr (Or.inr (Or.inr (Or.inr (Or.inr (Or.inr (Or.inr (Or.inr (Or.inr (Or.inr (Or.inr (Or.inr (Or.inr (Or.inr (Or.inr (Or.inr (Or.inr (Or.inr (Or.inr (Or.inr (Or.inr (Or.inr (Or.inr (Or.inr (Or.inr (Or.inr (Or.inr (Or.inr (Or.inr (Or.inr (Or.inr (Or.inr (Or.inr (Or.inr (Or.inr (Or.inr (Or.inr (Or.inr (Or.inr (Or.inr (Or.inr (Or.inr (Or.inr (Or.inr (Or.inr (Or.inr (Or.inl h))))))))))))))))))))))))))))))))))))))))))))))))))) (fun h => h.elim (fun h => (Or.inr (Or.inr (Or.inr (Or.inr (Or.inr (Or.inr (Or.inr (Or.inr (Or.inr (Or.inr (Or.inr (Or.inr (Or.inr (Or.inr (Or.inr (Or.inr (Or.inr (Or.inr (Or.inr (Or.inr (Or.inr (Or.inr (Or.inr (Or.inr (Or.inr (Or.inr (Or.inr (Or.inr (Or.inr (Or.inr (Or.inr (Or.inr (Or.inr (Or.inr (Or.inr (Or.inr (Or.inr (Or.inr (Or.inr (Or.inr (Or.inr (Or.inr (Or.inr (Or.inr (Or.inr (Or.inr (Or.inr (Or.inr (Or.inr (Or.inr (Or.inl h)))))))))))))))))))))))))))))))))))))))))))))))))))) (fun h => h.elim (fun h => (Or.inr (Or.inr (Or.inr (Or.inr (Or.inr (Or.inr (Or.inr (Or.inr (Or.inr (Or.inr (Or.inr (Or.inr (Or.inr (Or.inr (Or.inr (Or.inr (Or.inr (Or.inr (Or.inr (Or.inr (Or.inr (Or.inr (Or.inr (Or.inr (Or.inr (Or.inr (Or.inr (Or.inr (Or.inr (Or.inr (Or.inr (Or.inr (Or.inr (Or.inr (Or.inr (Or.inr (Or.inr (Or.inr (Or.inr (Or.inr (Or.inr (Or.inr (Or.inr (Or.inr (Or.inr (Or.inr (Or.inr (Or.inr (Or.inr (Or.inr (Or.inr (Or.inl h))))))))))))))))))))))))))))))))))))))))))))))))))))) (fun h => h.elim (fun h => (Or.inr (Or.inr (Or.inr (Or.inr (Or.inr (Or.inr (Or.inr (Or.inr (Or.inr (Or.inr (Or.inr (Or.inr (Or.inr (Or.inr (Or.inr (Or.inr (Or.inr (Or.inr (Or.inr (Or.inr (Or.inr (Or.inr (Or.inr (Or.inr (Or.inr (Or.inr (Or.inr (Or.inr (Or.inr (Or.inr (Or.inr (Or.inr (Or.inr (Or.inr (Or.inr (Or.inr (Or.inr (Or.inr (Or.inr (Or.inr (Or.inr (Or.inr (Or.inr (Or.inr (Or.inr (Or.inr (Or.inr (Or.inr (Or.inr (Or.inr (Or.inr (Or.inr (Or.inl h)))))))))))))))))))))))))))))))))))))))))))))))))))))) (fun h => h.elim (fun h => (Or.inr (Or.inr (Or.inr (Or.inr (Or.inr (Or.inr (Or.inr (Or.inr (Or.inr (Or.inr (Or.inr (Or.inr (Or.inr (Or.inr (Or.inr (Or.inr (Or.inr (Or.inr (Or.inr (Or.inr (Or.inr (Or.inr (Or.inr (Or.inr (Or.inr (Or.inr (Or.inr (Or.inr (Or.inr (Or.inr (Or.inr (Or.inr (Or.inr (Or.inr (Or.inr (Or.inr (Or.inr (Or.inr (Or.inr (Or.inr (Or.inr (Or.inr (Or.inr (Or.inr (Or.inr (Or.inr (Or.inr (Or.inr (Or.inr (Or.inr (Or.inr (Or.inr (Or.inr (Or.inl h))))))))))))))))))))))))))))))))))))))))))))))))))))))) (fun h => h.elim (fun h => (Or.inr (Or.inr (Or.inr (Or.inr (Or.inr (Or.inr (Or.inr (Or.inr (Or.inr (Or.inr (Or.inr (Or.inr (Or.inr (Or.inr (Or.inr (Or.inr (Or.inr (Or.inr (Or.inr (Or.inr (Or.inr (Or.inr (Or.inr (Or.inr (Or.inr (Or.inr (Or.inr (Or.inr (Or.inr (Or.inr (Or.inr (Or.inr (Or.inr (Or.inr (Or.inr (Or.inr (Or.inr (Or.inr (Or.inr (Or.inr (Or.inr (Or.inr (Or.inr (Or.inr (Or.inr (Or.inr (Or.inr (Or.inr (Or.inr (Or.inr (Or.inr (Or.inr (Or.inr (Or.inr (Or.inl h)))))))))))))))))))))))))))))))))))))))))))))))))))))))) (fun h => h.elim (fun h => (Or.inr (Or.inr (Or.inr (Or.inr (Or.inr (Or.inr (Or.inr (Or.inr (Or.inr (Or.inr (Or.inr (Or.inr (Or.inr (Or.inr (Or.inr (Or.inr (Or.inr (Or.inr (Or.inr (Or.inr (Or.inr (Or.inr (Or.inr (Or.inr (Or.inr (Or.inr (Or.inr (Or.inr (Or.inr (Or.inr (Or.inr (Or.inr (Or.inr (Or.inr (Or.inr (Or.inr (Or.inr (Or.inr (Or.inr (Or.inr (Or.inr (Or.inr (Or.inr (Or.inr (Or.inr (Or.inr (Or.inr (Or.inr (Or.inr (Or.inr (Or.inr (Or.inr (Or.inr (Or.inr (Or.inr (Or.inl h))))))))))))))))))))))))))))))))))))))))))))))))))))))))) (fun h => h.elim (fun h => (Or.inr (Or.inr (Or.inr (Or.inr (Or.inr (Or.inr (Or.inr (Or.inr (Or.inr (Or.inr (Or.inr (Or.inr (Or.inr (Or.inr (Or.inr (Or.inr (Or.inr (Or.inr (Or.inr (Or.inr (Or.inr (Or.inr (Or.inr (Or.inr (Or.inr (Or.inr (Or.inr (Or.inr (Or.inr (Or.inr (Or.inr (Or.inr (Or.inr (Or.inr (Or.inr (Or.inr (Or.inr (Or.inr (Or.inr (Or.inr (Or.inr (Or.inr (Or.inr (Or.inr (Or.inr (Or.inr (Or.inr (Or.inr (Or.inr (Or.inr (Or.inr (Or.inr (Or.inr (Or.inr (Or.inr (Or.inr (Or.inl h)))))))))))))))))))))))))))))))))))))))))))))))))))))))))) (fun h => h.elim (fun h => (Or.inr (Or.inr (Or.inr (Or.inr (Or.inr (Or.inr (Or.inr (Or.inr (Or.inr (Or.inr (Or.inr (Or.inr (Or.inr (Or.inr (Or.inr (Or.inr (Or.inr (Or.inr (Or.inr (Or.inr (Or.inr (Or.inr (Or.inr (Or.inr (Or.inr (Or.inr (Or.inr (Or.inr (Or.inr (Or.inr (Or.inr (Or.inr (Or.inr (Or.inr (Or.inr (Or.inr (Or.inr (Or.inr (Or.inr (Or.inr (Or.inr (Or.inr (Or.inr (Or.inr (Or.inr (Or.inr (Or.inr (Or.inr (Or.inr (Or.inr (Or.inr (Or.inr (Or.inr (Or.inr (Or.inr (Or.inr (Or.inr (Or.inl h))))))))))))))))))))))))))))))))))))))))))))))))))))))))))) (fun h => (Or.inr (Or.inr (Or.inr (Or.inr (Or.inr (Or.inr (Or.inr (Or.inr (Or.inr (Or.inr (Or.inr (Or.inr (Or.inr (Or.inr (Or.inr (Or.inr (Or.inr (Or.inr (Or.inr (Or.inr (Or.inr (Or.inr (Or.inr (Or.inr (Or.inr (Or.inr (Or.inr (Or.inr (Or.inr (Or.inr (Or.inr (Or.inr (Or.inr (Or.inr (Or.inr (Or.inr (Or.inr (Or.inr (Or.inr (Or.inr (Or.inr (Or.inr (Or.inr (Or.inr (Or.inr (Or.inr (Or.inr (Or.inr (Or.inr (Or.inr (Or.inr (Or.inr (Or.inr (Or.inr (Or.inr (Or.inr (Or.inr (Or.inr h)))))))))))))))))))))))))))))))))))))))))))))))))))))))))))))))))))))))))))))))))))))))))))))))))) h))
  exact mm_fr.ret hf F
def fw_J9_min_7cf53 (x0 : Int32) (x1 : Int32) (q t i : Nat) : Prop := False
theorem fr_J9_min_7cf53 (x0 : Int32) (x1 : Int32) (σ : mm_M) (rv : Int32) (σ1 : mm_M) (hf : fx_J9_min_7cf53 x0 x1 σ = some (rv, σ1)) : σ1 = σ := by
  refine mm_fr.none (W := (fw_J9_min_7cf53 x0 x1)) (fun _ _ _ h => h) ?_
  rw [fx_J9_min_7cf53] at hf
  have F : mm_fr (fw_J9_min_7cf53 x0 x1) σ σ := mm_fr.rf
  by_cases c_1 : x1 < x0
  · replace hf := mm_it c_1 hf
    exact mm_fr.ret hf F
  · replace hf := mm_if c_1 hf
    exact mm_fr.ret hf F
def fw_X3_addDamage (r0 : Nat) (n0 : Nat) (x1 : Int32) (q t i : Nat) : Prop := (q = r0 ∧ t = 6 ∧ i = 5)
theorem fr_X3_addDamage (r0 : Nat) (n0 : Nat) (x1 : Int32) (σ : mm_M) (rv : Int32) (σ1 : mm_M) (hf : fx_X3_addDamage r0 n0 x1 σ = some (rv, σ1)) : mm_fr (fw_X3_addDamage r0 n0 x1) σ σ1 := by
  rw [fx_X3_addDamage] at hf
  have F : mm_fr (fw_X3_addDamage r0 n0 x1) σ σ := mm_fr.rf
  obtain ⟨r_1, s_1, e_1, hf⟩ := mm_bd_ok hf
  have F := F.trans (mm_fr.eq (fr_J9_min_7cf53 (9 : Int32) ((σ r0 6 n0 5) + x1) σ r_1 s_1 e_1))
  obtain ⟨r_2, s_2, e_2, hf⟩ := mm_bd_ok hf
  have F := F.trans (mm_fr.eq (fr_J9_max_7cf53 (0 : Int32) r_1 s_1 r_2 s_2 e_2))
  obtain ⟨s_3, e_3, hf⟩ := mm_lt_ok hf
  have F := F.trans (mm_fr.u e_3 (⟨rfl, rfl, rfl⟩))
  exact mm_fr.ret hf F
def fw_X8_harm (r0 : Nat) (x1 : Int32) (x2 : Int32) (q t i : Nat) : Prop := (q = r0 ∧ t = 6 ∧ i = 5)
theorem fr_X8_harm (r0 : Nat) (x1 : Int32) (x2 : Int32) (σ : mm_M) (rv : Int32) (σ1 : mm_M) (hf : fx_X8_harm r0 x1 x2 σ = some (rv, σ1)) : mm_fr (fw_X8_harm r0 x1 x2) σ σ1 := by
  rw [fx_X8_harm] at hf
  have F : mm_fr (fw_X8_harm r0 x1 x2) σ σ := mm_fr.rf
  obtain ⟨r_1, s_1, e_1, hf⟩ := mm_bd_ok hf
  have F := F.trans (mm_fr.eq (fr_X8_hasCart r0 x1 σ r_1 s_1 e_1))
  by_cases c_2 : r_1 = (0 : Int32)
  · replace hf := mm_it c_2 hf
    exact mm_fr.ret hf F
  · replace hf := mm_if c_2 hf
    obtain ⟨r_3, s_3, e_3, hf⟩ := mm_bd_ok hf
    have F := F.trans (mm_fr.eq (fr_X10_isWithin x2 (-9 : Int32) (9 : Int32) s_1 r_3 s_3 e_3))
    by_cases c_4 : r_3 = (0 : Int32)
    · replace hf := mm_it c_4 hf
      exact mm_fr.ret hf F
    · replace hf := mm_if c_4 hf
      obtain ⟨h_5, hf⟩ := mm_gd_ok hf
      obtain ⟨r_6, s_6, e_6, hf⟩ := mm_bd_ok hf
      have F := F.trans (mm_fr.eq (fr_X3_isOut r0 x1.toNatClampNeg s_3 r_6 s_6 e_6))
      by_cases c_7 : r_6 = (0 : Int32)
      · replace hf := mm_it c_7 hf
        obtain ⟨r_8, s_8, e_8, hf⟩ := mm_bd_ok hf
        have F := F.trans ((fr_X3_addDamage r0 x1.toNatClampNeg x2 s_6 r_8 s_8 e_8).mono (fun q t i h => (fun h => h) h))
        exact mm_fr.ret hf F
      · replace hf := mm_if c_7 hf
        exact mm_fr.ret hf F
def fw_X10_damage (x1 : Int32) (x2 : Int32) (q t i : Nat) : Prop := (q = 0 ∧ t = 0 ∧ i = 2) ∨ (q = 0 ∧ t = 0 ∧ i = 3) ∨ (q = 0 ∧ t = 0 ∧ i = 4) ∨ (q = 0 ∧ t = 0 ∧ i = 5) ∨ (q = 0 ∧ t = 0 ∧ i = 6) ∨ (q = 0 ∧ t = 0 ∧ i = 7) ∨ (q = 0 ∧ t = 1 ∧ i = 3) ∨ (q = 0 ∧ t = 2) ∨ (q = 0 ∧ t = 3) ∨ (q = 0 ∧ t = 4) ∨ (q = 0 ∧ t = 6 ∧ i = 2) ∨ (q = 0 ∧ t = 6 ∧ i = 3) ∨ (q = 0 ∧ t = 6 ∧ i = 4) ∨ (q = 0 ∧ t = 6 ∧ i = 5) ∨ (q = 0 ∧ t = 6 ∧ i = 6) ∨ (q = 0 ∧ t = 6 ∧ i = 7) ∨ (q = 0 ∧ t = 6 ∧ i = 8) ∨ (q = 0 ∧ t = 7) ∨ (q = 0 ∧ t = 8) ∨ (q = 1 ∧ t = 0 ∧ i = 2) ∨ (q = 1 ∧ t = 0 ∧ i = 3) ∨ (q = 1 ∧ t = 0 ∧ i = 4) ∨ (q = 1 ∧ t = 0 ∧ i = 5) ∨ (q = 1 ∧ t = 0 ∧ i = 6) ∨ (q = 1 ∧ t = 0 ∧ i = 7) ∨ (q = 1 ∧ t = 1 ∧ i = 3) ∨ (q = 1 ∧ t = 2) ∨ (q = 1 ∧ t = 3) ∨ (q = 1 ∧ t = 4) ∨ (q = 1 ∧ t = 6 ∧ i = 2) ∨ (q = 1 ∧ t = 6 ∧ i = 3) ∨ (q = 1 ∧ t = 6 ∧ i = 4) ∨ (q = 1 ∧ t = 6 ∧ i = 5) ∨ (q = 1 ∧ t = 6 ∧ i = 6) ∨ (q = 1 ∧ t = 6 ∧ i = 7) ∨ (q = 1 ∧ t = 6 ∧ i = 8) ∨ (q = 1 ∧ t = 7) ∨ (q = 1 ∧ t = 8) ∨ (q = 6 ∧ t = 10 ∧ i = 1) ∨ (q = 6 ∧ t = 11) ∨ (q < 6 ∧ t = 0 ∧ i = 2) ∨ (q < 6 ∧ t = 0 ∧ i = 3) ∨ (q < 6 ∧ t = 0 ∧ i = 4) ∨ (q < 6 ∧ t = 0 ∧ i = 5) ∨ (q < 6 ∧ t = 0 ∧ i = 6) ∨ (q < 6 ∧ t = 0 ∧ i = 7) ∨ (q < 6 ∧ t = 1 ∧ i = 3) ∨ (q < 6 ∧ t = 2) ∨ (q < 6 ∧ t = 3) ∨ (q < 6 ∧ t = 4) ∨ (q < 6 ∧ t = 6 ∧ i = 2) ∨ (q < 6 ∧ t = 6 ∧ i = 3) ∨ (q < 6 ∧ t = 6 ∧ i = 4) ∨ (q < 6 ∧ t = 6 ∧ i = 5) ∨ (q < 6 ∧ t = 6 ∧ i = 6) ∨ (q < 6 ∧ t = 6 ∧ i = 7) ∨ (q < 6 ∧ t = 6 ∧ i = 8) ∨ (q < 6 ∧ t = 7) ∨ (q < 6 ∧ t = 8)
theorem fr_X10_damage (x1 : Int32) (x2 : Int32) (σ : mm_M) (rv : Int32) (σ1 : mm_M) (hf : fx_X10_damage x1 x2 σ = some (rv, σ1)) : mm_fr (fw_X10_damage x1 x2) σ σ1 := by
  rw [fx_X10_damage] at hf
  have F : mm_fr (fw_X10_damage x1 x2) σ σ := mm_fr.rf
  obtain ⟨r_1, s_1, e_1, hf⟩ := mm_bd_ok hf
  have F := F.trans ((fr_X10_freshTrial  σ r_1 s_1 e_1).mono (fun q t i h => (fun h => h.elim (fun h => (Or.inr (Or.inr (Or.inr (Or.inr (Or.inr (Or.inr (Or.inr (Or.inr (Or.inr (Or.inr (Or.inr (Or.inr (Or.inr (Or.inr (Or.inr (Or.inr (Or.inr (Or.inr (Or.inr (Or.inl h))))))))))))))))))))) (fun h => h.elim (fun h => (Or.inr (Or.inr (Or.inr (Or.inr (Or.inr (Or.inr (Or.inr (Or.inr (Or.inr (Or.inr (Or.inr (Or.inr (Or.inr (Or.inr (Or.inr (Or.inr (Or.inr (Or.inr (Or.inr (Or.inr (Or.inl h)))))))))))))))))))))) (fun h => h.elim (fun h => (Or.inr (Or.inr (Or.inr (Or.inr (Or.inr (Or.inr (Or.inr (Or.inr (Or.inr (Or.inr (Or.inr (Or.inr (Or.inr (Or.inr (Or.inr (Or.inr (Or.inr (Or.inr (Or.inr (Or.inr (Or.inr (Or.inl h))))))))))))))))))))))) (fun h => h.elim (fun h => (Or.inr (Or.inr (Or.inr (Or.inr (Or.inr (Or.inr (Or.inr (Or.inr (Or.inr (Or.inr (Or.inr (Or.inr (Or.inr (Or.inr (Or.inr (Or.inr (Or.inr (Or.inr (Or.inr (Or.inr (Or.inr (Or.inr (Or.inl h)))))))))))))))))))))))) (fun h => h.elim (fun h => (Or.inr (Or.inr (Or.inr (Or.inr (Or.inr (Or.inr (Or.inr (Or.inr (Or.inr (Or.inr (Or.inr (Or.inr (Or.inr (Or.inr (Or.inr (Or.inr (Or.inr (Or.inr (Or.inr (Or.inr (Or.inr (Or.inr (Or.inr (Or.inl h))))))))))))))))))))))))) (fun h => h.elim (fun h => (Or.inr (Or.inr (Or.inr (Or.inr (Or.inr (Or.inr (Or.inr (Or.inr (Or.inr (Or.inr (Or.inr (Or.inr (Or.inr (Or.inr (Or.inr (Or.inr (Or.inr (Or.inr (Or.inr (Or.inr (Or.inr (Or.inr (Or.inr (Or.inr (Or.inl h)))))))))))))))))))))))))) (fun h => h.elim (fun h => (Or.inr (Or.inr (Or.inr (Or.inr (Or.inr (Or.inr (Or.inr (Or.inr (Or.inr (Or.inr (Or.inr (Or.inr (Or.inr (Or.inr (Or.inr (Or.inr (Or.inr (Or.inr (Or.inr (Or.inr (Or.inr (Or.inr (Or.inr (Or.inr (Or.inr (Or.inl h))))))))))))))))))))))))))) (fun h => h.elim (fun h => (Or.inr (Or.inr (Or.inr (Or.inr (Or.inr (Or.inr (Or.inr (Or.inr (Or.inr (Or.inr (Or.inr (Or.inr (Or.inr (Or.inr (Or.inr (Or.inr (Or.inr (Or.inr (Or.inr (Or.inr (Or.inr (Or.inr (Or.inr (Or.inr (Or.inr (Or.inr (Or.inl h)))))))))))))))))))))))))))) (fun h => h.elim (fun h => (Or.inr (Or.inr (Or.inr (Or.inr (Or.inr (Or.inr (Or.inr (Or.inr (Or.inr (Or.inr (Or.inr (Or.inr (Or.inr (Or.inr (Or.inr (Or.inr (Or.inr (Or.inr (Or.inr (Or.inr (Or.inr (Or.inr (Or.inr (Or.inr (Or.inr (Or.inr (Or.inr (Or.inl h))))))))))))))))))))))))))))) (fun h => h.elim (fun h => (Or.inr (Or.inr (Or.inr (Or.inr (Or.inr (Or.inr (Or.inr (Or.inr (Or.inr (Or.inr (Or.inr (Or.inr (Or.inr (Or.inr (Or.inr (Or.inr (Or.inr (Or.inr (Or.inr (Or.inr (Or.inr (Or.inr (Or.inr (Or.inr (Or.inr (Or.inr (Or.inr (Or.inr (Or.inl h)))))))))))))))))))))))))))))) (fun h => h.elim (fun h => (Or.inr (Or.inr (Or.inr (Or.inr (Or.inr (Or.inr (Or.inr (Or.inr (Or.inr (Or.inr (Or.inr (Or.inr (Or.inr (Or.inr (Or.inr (Or.inr (Or.inr (Or.inr (Or.inr (Or.inr (Or.inr (Or.inr (Or.inr (Or.inr (Or.inr (Or.inr (Or.inr (Or.inr (Or.inr (Or.inl h))))))))))))))))))))))))))))))) (fun h => h.elim (fun h => (Or.inr (Or.inr (Or.inr (Or.inr (Or.inr (Or.inr (Or.inr (Or.inr (Or.inr (Or.inr (Or.inr (Or.inr (Or.inr (Or.inr (Or.inr (Or.inr (Or.inr (Or.inr (Or.inr (Or.inr (Or.inr (Or.inr (Or.inr (Or.inr (Or.inr (Or.inr (Or.inr (Or.inr (Or.inr (Or.inr (Or.inl h)))))))))))))))))))))))))))))))) (fun h => h.elim (fun h => (Or.inr (Or.inr (Or.inr (Or.inr (Or.inr (Or.inr (Or.inr (Or.inr (Or.inr (Or.inr (Or.inr (Or.inr (Or.inr (Or.inr (Or.inr (Or.inr (Or.inr (Or.inr (Or.inr (Or.inr (Or.inr (Or.inr (Or.inr (Or.inr (Or.inr (Or.inr (Or.inr (Or.inr (Or.inr (Or.inr (Or.inr (Or.inl h))))))))))))))))))))))))))))))))) (fun h => h.elim (fun h => (Or.inr (Or.inr (Or.inr (Or.inr (Or.inr (Or.inr (Or.inr (Or.inr (Or.inr (Or.inr (Or.inr (Or.inr (Or.inr (Or.inr (Or.inr (Or.inr (Or.inr (Or.inr (Or.inr (Or.inr (Or.inr (Or.inr (Or.inr (Or.inr (Or.inr (Or.inr (Or.inr (Or.inr (Or.inr (Or.inr (Or.inr (Or.inr (Or.inl h)))))))))))))))))))))))))))))))))) (fun h => h.elim (fun h => (Or.inr (Or.inr (Or.inr (Or.inr (Or.inr (Or.inr (Or.inr (Or.inr (Or.inr (Or.inr (Or.inr (Or.inr (Or.inr (Or.inr (Or.inr (Or.inr (Or.inr (Or.inr (Or.inr (Or.inr (Or.inr (Or.inr (Or.inr (Or.inr (Or.inr (Or.inr (Or.inr (Or.inr (Or.inr (Or.inr (Or.inr (Or.inr (Or.inr (Or.inl h))))))))))))))))))))))))))))))))))) (fun h => h.elim (fun h => (Or.inr (Or.inr (Or.inr (Or.inr (Or.inr (Or.inr (Or.inr (Or.inr (Or.inr (Or.inr (Or.inr (Or.inr (Or.inr (Or.inr (Or.inr (Or.inr (Or.inr (Or.inr (Or.inr (Or.inr (Or.inr (Or.inr (Or.inr (Or.inr (Or.inr (Or.inr (Or.inr (Or.inr (Or.inr (Or.inr (Or.inr (Or.inr (Or.inr (Or.inr (Or.inl h)))))))))))))))))))))))))))))))))))) (fun h => h.elim (fun h => (Or.inr (Or.inr (Or.inr (Or.inr (Or.inr (Or.inr (Or.inr (Or.inr (Or.inr (Or.inr (Or.inr (Or.inr (Or.inr (Or.inr (Or.inr (Or.inr (Or.inr (Or.inr (Or.inr (Or.inr (Or.inr (Or.inr (Or.inr (Or.inr (Or.inr (Or.inr (Or.inr (Or.inr (Or.inr (Or.inr (Or.inr (Or.inr (Or.inr (Or.inr (Or.inr (Or.inl h))))))))))))))))))))))))))))))))))))) (fun h => h.elim (fun h => (Or.inr (Or.inr (Or.inr (Or.inr (Or.inr (Or.inr (Or.inr (Or.inr (Or.inr (Or.inr (Or.inr (Or.inr (Or.inr (Or.inr (Or.inr (Or.inr (Or.inr (Or.inr (Or.inr (Or.inr (Or.inr (Or.inr (Or.inr (Or.inr (Or.inr (Or.inr (Or.inr (Or.inr (Or.inr (Or.inr (Or.inr (Or.inr (Or.inr (Or.inr (Or.inr (Or.inr (Or.inl h)))))))))))))))))))))))))))))))))))))) (fun h => (Or.inr (Or.inr (Or.inr (Or.inr (Or.inr (Or.inr (Or.inr (Or.inr (Or.inr (Or.inr (Or.inr (Or.inr (Or.inr (Or.inr (Or.inr (Or.inr (Or.inr (Or.inr (Or.inr (Or.inr (Or.inr (Or.inr (Or.inr (Or.inr (Or.inr (Or.inr (Or.inr (Or.inr (Or.inr (Or.inr (Or.inr (Or.inr (Or.inr (Or.inr (Or.inr (Or.inr (Or.inr (Or.inl h))))))))))))))))))))))))))))))))))))))))))))))))))))))))) h))
  obtain ⟨r_2, s_2, e_2, hf⟩ := mm_bd_ok hf
  have F := F.trans ((fr_X8_harm 1 x1 x2 s_1 r_2 s_2 e_2).mono (fun q t i h => (fun h => (Or.inr (Or.inr (Or.inr (Or.inr (Or.inr (Or.inr (Or.inr (Or.inr (Or.inr (Or.inr (Or.inr (Or.inr (Or.inr (Or.inr (Or.inr (Or.inr (Or.inr (Or.inr (Or.inr (Or.inr (Or.inr (Or.inr (Or.inr (Or.inr (Or.inr (Or.inr (Or.inr (Or.inr (Or.inr (Or.inr (Or.inr (Or.inr (Or.inl h)))))))))))))))))))))))))))))))))) h))
  obtain ⟨r_3, s_3, e_3, hf⟩ := mm_bd_ok hf
  have F := F.trans ((fr_X10_keep r_2 s_2 r_3 s_3 e_3).mono (fun q t i h => (fun h => h.elim (fun h => (Or.inl h)) (fun h => h.elim (fun h => (Or.inr (Or.inl h))) (fun h => h.elim (fun h => (Or.inr (Or.inr (Or.inl h)))) (fun h => h.elim (fun h => (Or.inr (Or.inr (Or.inr (Or.inl h))))) (fun h => h.elim (fun h => (Or.inr (Or.inr (Or.inr (Or.inr (Or.inl h)))))) (fun h => h.elim (fun h => (Or.inr (Or.inr (Or.inr (Or.inr (Or.inr (Or.inl h))))))) (fun h => h.elim (fun h => (Or.inr (Or.inr (Or.inr (Or.inr (Or.inr (Or.inr (Or.inl h)))))))) (fun h => h.elim (fun h => (Or.inr (Or.inr (Or.inr (Or.inr (Or.inr (Or.inr (Or.inr (Or.inl h))))))))) (fun h => h.elim (fun h => (Or.inr (Or.inr (Or.inr (Or.inr (Or.inr (Or.inr (Or.inr (Or.inr (Or.inl h)))))))))) (fun h => h.elim (fun h => (Or.inr (Or.inr (Or.inr (Or.inr (Or.inr (Or.inr (Or.inr (Or.inr (Or.inr (Or.inl h))))))))))) (fun h => h.elim (fun h => (Or.inr (Or.inr (Or.inr (Or.inr (Or.inr (Or.inr (Or.inr (Or.inr (Or.inr (Or.inr (Or.inl h)))))))))))) (fun h => h.elim (fun h => (Or.inr (Or.inr (Or.inr (Or.inr (Or.inr (Or.inr (Or.inr (Or.inr (Or.inr (Or.inr (Or.inr (Or.inl h))))))))))))) (fun h => h.elim (fun h => (Or.inr (Or.inr (Or.inr (Or.inr (Or.inr (Or.inr (Or.inr (Or.inr (Or.inr (Or.inr (Or.inr (Or.inr (Or.inl h)))))))))))))) (fun h => h.elim (fun h => (Or.inr (Or.inr (Or.inr (Or.inr (Or.inr (Or.inr (Or.inr (Or.inr (Or.inr (Or.inr (Or.inr (Or.inr (Or.inr (Or.inl h))))))))))))))) (fun h => h.elim (fun h => (Or.inr (Or.inr (Or.inr (Or.inr (Or.inr (Or.inr (Or.inr (Or.inr (Or.inr (Or.inr (Or.inr (Or.inr (Or.inr (Or.inr (Or.inl h)))))))))))))))) (fun h => h.elim (fun h => (Or.inr (Or.inr (Or.inr (Or.inr (Or.inr (Or.inr (Or.inr (Or.inr (Or.inr (Or.inr (Or.inr (Or.inr (Or.inr (Or.inr (Or.inr (Or.inl h))))))))))))))))) (fun h => h.elim (fun h => (Or.inr (Or.inr (Or.inr (Or.inr (Or.inr (Or.inr (Or.inr (Or.inr (Or.inr (Or.inr (Or.inr (Or.inr (Or.inr (Or.inr (Or.inr (Or.inr (Or.inl h)))))))))))))))))) (fun h => h.elim (fun h => (Or.inr (Or.inr (Or.inr (Or.inr (Or.inr (Or.inr (Or.inr (Or.inr (Or.inr (Or.inr (Or.inr (Or.inr (Or.inr (Or.inr (Or.inr (Or.inr (Or.inr (Or.inl h))))))))))))))))))) (fun h => h.elim (fun h => (Or.inr (Or.inr (Or.inr (Or.inr (Or.inr (Or.inr (Or.inr (Or.inr (Or.inr (Or.inr (Or.inr (Or.inr (Or.inr (Or.inr (Or.inr (Or.inr (Or.inr (Or.inr (Or.inl h)))))))))))))))))))) (fun h => h.elim (fun h => (Or.inr (Or.inr (Or.inr (Or.inr (Or.inr (Or.inr (Or.inr (Or.inr (Or.inr (Or.inr (Or.inr (Or.inr (Or.inr (Or.inr (Or.inr (Or.inr (Or.inr (Or.inr (Or.inr (Or.inr (Or.inr (Or.inr (Or.inr (Or.inr (Or.inr (Or.inr (Or.inr (Or.inr (Or.inr (Or.inr (Or.inr (Or.inr (Or.inr (Or.inr (Or.inr (Or.inr (Or.inr (Or.inr (Or.inl h)))))))))))))))))))))))))))))))))))))))) (fun h => h.elim (fun h => (Or.inr (Or.inr (Or.inr (Or.inr (Or.inr (Or.inr (Or.inr (Or.inr (Or.inr (Or.inr (Or.inr (Or.inr (Or.inr (Or.inr (Or.inr (Or.inr (Or.inr (Or.inr (Or.inr (Or.inr (Or.inr (Or.inr (Or.inr (Or.inr (Or.inr (Or.inr (Or.inr (Or.inr (Or.inr (Or.inr (Or.inr (Or.inr (Or.inr (Or.inr (Or.inr (Or.inr (Or.inr (Or.inr (Or.inr (Or.inl h))))))))))))))))))))))))))))))))))))))))) (fun h => h.elim (fun h => (Or.inr (Or.inr (Or.inr (Or.inr (Or.inr (Or.inr (Or.inr (Or.inr (Or.inr (Or.inr (Or.inr (Or.inr (Or.inr (Or.inr (Or.inr (Or.inr (Or.inr (Or.inr (Or.inr (Or.inr (Or.inr (Or.inr (Or.inr (Or.inr (Or.inr (Or.inr (Or.inr (Or.inr (Or.inr (Or.inr (Or.inr (Or.inr (Or.inr (Or.inr (Or.inr (Or.inr (Or.inr (Or.inr (Or.inr (Or.inr (Or.inl h)))))))))))))))))))))))))))))))))))))))))) (fun h => h.elim (fun h => (Or.inr (Or.inr (Or.inr (Or.inr (Or.inr (Or.inr (Or.inr (Or.inr (Or.inr (Or.inr (Or.inr (Or.inr (Or.inr (Or.inr (Or.inr (Or.inr (Or.inr (Or.inr (Or.inr (Or.inr (Or.inr (Or.inr (Or.inr (Or.inr (Or.inr (Or.inr (Or.inr (Or.inr (Or.inr (Or.inr (Or.inr (Or.inr (Or.inr (Or.inr (Or.inr (Or.inr (Or.inr (Or.inr (Or.inr (Or.inr (Or.inr (Or.inl h))))))))))))))))))))))))))))))))))))))))))) (fun h => h.elim (fun h => (Or.inr (Or.inr (Or.inr (Or.inr (Or.inr (Or.inr (Or.inr (Or.inr (Or.inr (Or.inr (Or.inr (Or.inr (Or.inr (Or.inr (Or.inr (Or.inr (Or.inr (Or.inr (Or.inr (Or.inr (Or.inr (Or.inr (Or.inr (Or.inr (Or.inr (Or.inr (Or.inr (Or.inr (Or.inr (Or.inr (Or.inr (Or.inr (Or.inr (Or.inr (Or.inr (Or.inr (Or.inr (Or.inr (Or.inr (Or.inr (Or.inr (Or.inr (Or.inl h)))))))))))))))))))))))))))))))))))))))))))) (fun h => h.elim (fun h => (Or.inr (Or.inr (Or.inr (Or.inr (Or.inr (Or.inr (Or.inr (Or.inr (Or.inr (Or.inr (Or.inr (Or.inr (Or.inr (Or.inr (Or.inr (Or.inr (Or.inr (Or.inr (Or.inr (Or.inr (Or.inr (Or.inr (Or.inr (Or.inr (Or.inr (Or.inr (Or.inr (Or.inr (Or.inr (Or.inr (Or.inr (Or.inr (Or.inr (Or.inr (Or.inr (Or.inr (Or.inr (Or.inr (Or.inr (Or.inr (Or.inr (Or.inr (Or.inr (Or.inl h))))))))))))))))))))))))))))))))))))))))))))) (fun h => h.elim (fun h => (Or.inr (Or.inr (Or.inr (Or.inr (Or.inr (Or.inr (Or.inr (Or.inr (Or.inr (Or.inr (Or.inr (Or.inr (Or.inr (Or.inr (Or.inr (Or.inr (Or.inr (Or.inr (Or.inr (Or.inr (Or.inr (Or.inr (Or.inr (Or.inr (Or.inr (Or.inr (Or.inr (Or.inr (Or.inr (Or.inr (Or.inr (Or.inr (Or.inr (Or.inr (Or.inr (Or.inr (Or.inr (Or.inr (Or.inr (Or.inr (Or.inr (Or.inr (Or.inr (Or.inr (Or.inl h)))))))))))))))))))))))))))))))))))))))))))))) (fun h => h.elim (fun h => (Or.inr (Or.inr (Or.inr (Or.inr (Or.inr (Or.inr (Or.inr (Or.inr (Or.inr (Or.inr (Or.inr (Or.inr (Or.inr (Or.inr (Or.inr (Or.inr (Or.inr (Or.inr (Or.inr (Or.inr (Or.inr (Or.inr (Or.inr (Or.inr (Or.inr (Or.inr (Or.inr (Or.inr (Or.inr (Or.inr (Or.inr (Or.inr (Or.inr (Or.inr (Or.inr (Or.inr (Or.inr (Or.inr (Or.inr (Or.inr (Or.inr (Or.inr (Or.inr (Or.inr (Or.inr (Or.inl h))))))))))))))))))))))))))))))))))))))))))))))) (fun h => h.elim (fun h => (Or.inr (Or.inr (Or.inr (Or.inr (Or.inr (Or.inr (Or.inr (Or.inr (Or.inr (Or.inr (Or.inr (Or.inr (Or.inr (Or.inr (Or.inr (Or.inr (Or.inr (Or.inr (Or.inr (Or.inr (Or.inr (Or.inr (Or.inr (Or.inr (Or.inr (Or.inr (Or.inr (Or.inr (Or.inr (Or.inr (Or.inr (Or.inr (Or.inr (Or.inr (Or.inr (Or.inr (Or.inr (Or.inr (Or.inr (Or.inr (Or.inr (Or.inr (Or.inr (Or.inr (Or.inr (Or.inr (Or.inl h)))))))))))))))))))))))))))))))))))))))))))))))) (fun h => h.elim (fun h => (Or.inr (Or.inr (Or.inr (Or.inr (Or.inr (Or.inr (Or.inr (Or.inr (Or.inr (Or.inr (Or.inr (Or.inr (Or.inr (Or.inr (Or.inr (Or.inr (Or.inr (Or.inr (Or.inr (Or.inr (Or.inr (Or.inr (Or.inr (Or.inr (Or.inr (Or.inr (Or.inr (Or.inr (Or.inr (Or.inr (Or.inr (Or.inr (Or.inr (Or.inr (Or.inr (Or.inr (Or.inr (Or.inr (Or.inr (Or.inr (Or.inr (Or.inr (Or.inr (Or.inr (Or.inr (Or.inr (Or.inr (Or.inl h))))))))))))))))))))))))))))))))))))))))))))))))) (fun h => h.elim (fun h => (Or.inr (Or.inr (Or.inr (Or.inr (Or.inr (Or.inr (Or.inr (Or.inr (Or.inr (Or.inr (Or.inr (Or.inr (Or.inr (Or.inr (Or.inr (Or.inr (Or.inr (Or.inr (Or.inr (Or.inr (Or.inr (Or.inr (Or.inr (Or.inr (Or.inr (Or.inr (Or.inr (Or.inr (Or.inr (Or.inr (Or.inr (Or.inr (Or.inr (Or.inr (Or.inr (Or.inr (Or.inr (Or.inr (Or.inr (Or.inr (Or.inr (Or.inr (Or.inr (Or.inr (Or.inr (Or.inr (Or.inr (Or.inr (Or.inl h)))))))))))))))))))))))))))))))))))))))))))))))))) (fun h => h.elim (fun h => (Or.inr (Or.inr (Or.inr (Or.inr (Or.inr (Or.inr (Or.inr (Or.inr (Or.inr (Or.inr (Or.inr (Or.inr (Or.inr (Or.inr (Or.inr (Or.inr (Or.inr (Or.inr (Or.inr (Or.inr (Or.inr (Or.inr (Or.inr (Or.inr (Or.inr (Or.inr (Or.inr (Or.inr (Or.inr (Or.inr (Or.inr (Or.inr (Or.inr (Or.inr (Or.inr (Or.inr (Or.inr (Or.inr (Or.inr (Or.inr (Or.inr (Or.inr (Or.inr (Or.inr (Or.inr (Or.inr (Or.inr (Or.inr (Or.inr (Or.inl h))))))))))))))))))))))))))))))))))))))))))))))))))) (fun h => h.elim (fun h => (Or.inr (Or.inr (Or.inr (Or.inr (Or.inr (Or.inr (Or.inr (Or.inr (Or.inr (Or.inr (Or.inr (Or.inr (Or.inr (Or.inr (Or.inr (Or.inr (Or.inr (Or.inr (Or.inr (Or.inr (Or.inr (Or.inr (Or.inr (Or.inr (Or.inr (Or.inr (Or.inr (Or.inr (Or.inr (Or.inr (Or.inr (Or.inr (Or.inr (Or.inr (Or.inr (Or.inr (Or.inr (Or.inr (Or.inr (Or.inr (Or.inr (Or.inr (Or.inr (Or.inr (Or.inr (Or.inr (Or.inr (Or.inr (Or.inr (Or.inr (Or.inl h)))))))))))))))))))))))))))))))))))))))))))))))))))) (fun h => h.elim (fun h => (Or.inr (Or.inr (Or.inr (Or.inr (Or.inr (Or.inr (Or.inr (Or.inr (Or.inr (Or.inr (Or.inr (Or.inr (Or.inr (Or.inr (Or.inr (Or.inr (Or.inr (Or.inr (Or.inr (Or.inr (Or.inr (Or.inr (Or.inr (Or.inr (Or.inr (Or.inr (Or.inr (Or.inr (Or.inr (Or.inr (Or.inr (Or.inr (Or.inr (Or.inr (Or.inr (Or.inr (Or.inr (Or.inr (Or.inr (Or.inr (Or.inr (Or.inr (Or.inr (Or.inr (Or.inr (Or.inr (Or.inr (Or.inr (Or.inr (Or.inr (Or.inr (Or.inl h))))))))))))))))))))))))))))))))))))))))))))))))))))) (fun h => h.elim (fun h => (Or.inr (Or.inr (Or.inr (Or.inr (Or.inr (Or.inr (Or.inr (Or.inr (Or.inr (Or.inr (Or.inr (Or.inr (Or.inr (Or.inr (Or.inr (Or.inr (Or.inr (Or.inr (Or.inr (Or.inr (Or.inr (Or.inr (Or.inr (Or.inr (Or.inr (Or.inr (Or.inr (Or.inr (Or.inr (Or.inr (Or.inr (Or.inr (Or.inr (Or.inr (Or.inr (Or.inr (Or.inr (Or.inr (Or.inr (Or.inr (Or.inr (Or.inr (Or.inr (Or.inr (Or.inr (Or.inr (Or.inr (Or.inr (Or.inr (Or.inr (Or.inr (Or.inr (Or.inl h)))))))))))))))))))))))))))))))))))))))))))))))))))))) (fun h => h.elim (fun h => (Or.inr (Or.inr (Or.inr (Or.inr (Or.inr (Or.inr (Or.inr (Or.inr (Or.inr (Or.inr (Or.inr (Or.inr (Or.inr (Or.inr (Or.inr (Or.inr (Or.inr (Or.inr (Or.inr (Or.inr (Or.inr (Or.inr (Or.inr (Or.inr (Or.inr (Or.inr (Or.inr (Or.inr (Or.inr (Or.inr (Or.inr (Or.inr (Or.inr (Or.inr (Or.inr (Or.inr (Or.inr (Or.inr (Or.inr (Or.inr (Or.inr (Or.inr (Or.inr (Or.inr (Or.inr (Or.inr (Or.inr (Or.inr (Or.inr (Or.inr (Or.inr (Or.inr (Or.inr (Or.inl h))))))))))))))))))))))))))))))))))))))))))))))))))))))) (fun h => h.elim (fun h => (Or.inr (Or.inr (Or.inr (Or.inr (Or.inr (Or.inr (Or.inr (Or.inr (Or.inr (Or.inr (Or.inr (Or.inr (Or.inr (Or.inr (Or.inr (Or.inr (Or.inr (Or.inr (Or.inr (Or.inr (Or.inr (Or.inr (Or.inr (Or.inr (Or.inr (Or.inr (Or.inr (Or.inr (Or.inr (Or.inr (Or.inr (Or.inr (Or.inr (Or.inr (Or.inr (Or.inr (Or.inr (Or.inr (Or.inr (Or.inr (Or.inr (Or.inr (Or.inr (Or.inr (Or.inr (Or.inr (Or.inr (Or.inr (Or.inr (Or.inr (Or.inr (Or.inr (Or.inr (Or.inr (Or.inl h)))))))))))))))))))))))))))))))))))))))))))))))))))))))) (fun h => h.elim (fun h => (Or.inr (Or.inr (Or.inr (Or.inr (Or.inr (Or.inr (Or.inr (Or.inr (Or.inr (Or.inr (Or.inr (Or.inr (Or.inr (Or.inr (Or.inr (Or.inr (Or.inr (Or.inr (Or.inr (Or.inr (Or.inr (Or.inr (Or.inr (Or.inr (Or.inr (Or.inr (Or.inr (Or.inr (Or.inr (Or.inr (Or.inr (Or.inr (Or.inr (Or.inr (Or.inr (Or.inr (Or.inr (Or.inr (Or.inr (Or.inr (Or.inr (Or.inr (Or.inr (Or.inr (Or.inr (Or.inr (Or.inr (Or.inr (Or.inr (Or.inr (Or.inr (Or.inr (Or.inr (Or.inr (Or.inr (Or.inl h))))))))))))))))))))))))))))))))))))))))))))))))))))))))) (fun h => h.elim (fun h => (Or.inr (Or.inr (Or.inr (Or.inr (Or.inr (Or.inr (Or.inr (Or.inr (Or.inr (Or.inr (Or.inr (Or.inr (Or.inr (Or.inr (Or.inr (Or.inr (Or.inr (Or.inr (Or.inr (Or.inr (Or.inr (Or.inr (Or.inr (Or.inr (Or.inr (Or.inr (Or.inr (Or.inr (Or.inr (Or.inr (Or.inr (Or.inr (Or.inr (Or.inr (Or.inr (Or.inr (Or.inr (Or.inr (Or.inr (Or.inr (Or.inr (Or.inr (Or.inr (Or.inr (Or.inr (Or.inr (Or.inr (Or.inr (Or.inr (Or.inr (Or.inr (Or.inr (Or.inr (Or.inr (Or.inr (Or.inr (Or.inl h)))))))))))))))))))))))))))))))))))))))))))))))))))))))))) (fun h => h.elim (fun h => (Or.inr (Or.inr (Or.inr (Or.inr (Or.inr (Or.inr (Or.inr (Or.inr (Or.inr (Or.inr (Or.inr (Or.inr (Or.inr (Or.inr (Or.inr (Or.inr (Or.inr (Or.inr (Or.inr (Or.inr (Or.inr (Or.inr (Or.inr (Or.inr (Or.inr (Or.inr (Or.inr (Or.inr (Or.inr (Or.inr (Or.inr (Or.inr (Or.inr (Or.inr (Or.inr (Or.inr (Or.inr (Or.inr (Or.inr (Or.inr (Or.inr (Or.inr (Or.inr (Or.inr (Or.inr (Or.inr (Or.inr (Or.inr (Or.inr (Or.inr (Or.inr (Or.inr (Or.inr (Or.inr (Or.inr (Or.inr (Or.inr (Or.inl h))))))))))))))))))))))))))))))))))))))))))))))))))))))))))) (fun h => (Or.inr (Or.inr (Or.inr (Or.inr (Or.inr (Or.inr (Or.inr (Or.inr (Or.inr (Or.inr (Or.inr (Or.inr (Or.inr (Or.inr (Or.inr (Or.inr (Or.inr (Or.inr (Or.inr (Or.inr (Or.inr (Or.inr (Or.inr (Or.inr (Or.inr (Or.inr (Or.inr (Or.inr (Or.inr (Or.inr (Or.inr (Or.inr (Or.inr (Or.inr (Or.inr (Or.inr (Or.inr (Or.inr (Or.inr (Or.inr (Or.inr (Or.inr (Or.inr (Or.inr (Or.inr (Or.inr (Or.inr (Or.inr (Or.inr (Or.inr (Or.inr (Or.inr (Or.inr (Or.inr (Or.inr (Or.inr (Or.inr (Or.inr h)))))))))))))))))))))))))))))))))))))))))))))))))))))))))))))))))))))))))))))))))))))))))))))))))) h))
  exact mm_fr.ret hf F
def fw_X8_timesOut (r0 : Nat) (q t i : Nat) : Prop := False
theorem fr_X8_timesOut_L4 (r0 : Nat) (rv : Int32) (σ1 : mm_M)  : ∀ (fu : Nat) (v1 : Int32) (v2 : Int32) (σ : mm_M), fx_X8_timesOut_L4 r0 fu v1 v2 σ = some (rv, σ1) → mm_fr (fw_X8_timesOut r0) σ σ1 := by
  intro fu
  induction fu with
  | zero =>
    intro v1 v2 σ hf
    exact mm_no hf
  | succ fu ih =>
    intro v1 v2 σ hf
    rw [fx_X8_timesOut_L4] at hf
    have F : mm_fr (fw_X8_timesOut r0) σ σ := mm_fr.rf
    by_cases c_1 : (σ r0 0 0 2) ≤ v2
    · replace hf := mm_it c_1 hf
      exact mm_fr.ret hf F
    · replace hf := mm_if c_1 hf
      obtain ⟨h_2, hf⟩ := mm_gd_ok hf
      obtain ⟨y_3, e_3, hf⟩ := mm_li_ok hf
      obtain ⟨y_4, e_4, hf⟩ := mm_li_ok hf
      exact F.trans (ih y_3 y_4 σ hf)
theorem fr_X8_timesOut (r0 : Nat) (σ : mm_M) (rv : Int32) (σ1 : mm_M) (hf : fx_X8_timesOut r0 σ = some (rv, σ1)) : σ1 = σ := by
  refine mm_fr.none (W := (fw_X8_timesOut r0)) (fun _ _ _ h => h) ?_
  rw [fx_X8_timesOut] at hf
  have F : mm_fr (fw_X8_timesOut r0) σ σ := mm_fr.rf
  exact F.trans (fr_X8_timesOut_L4 r0 rv σ1 mm_FU (0 : Int32) (0 : Int32) σ hf)
def fw_X3_hasCard (r0 : Nat) (n0 : Nat) (x1 : Int32) (q t i : Nat) : Prop := False
theorem fr_X3_hasCard (r0 : Nat) (n0 : Nat) (x1 : Int32) (σ : mm_M) (rv : Int32) (σ1 : mm_M) (hf : fx_X3_hasCard r0 n0 x1 σ = some (rv, σ1)) : σ1 = σ := by
  refine mm_fr.none (W := (fw_X3_hasCard r0 n0 x1)) (fun _ _ _ h => h) ?_
  rw [fx_X3_hasCard] at hf
  have F : mm_fr (fw_X3_hasCard r0 n0 x1) σ σ := mm_fr.rf
  obtain ⟨h_1, hf⟩ := mm_gd_ok hf
  by_cases c_2 : (σ r0 8 n0 x1.toNatClampNeg) ≤ (0 : Int32)
  · replace hf := mm_it c_2 hf
    exact mm_fr.ret hf F
  · replace hf := mm_if c_2 hf
    exact mm_fr.ret hf F
def fw_X2_insert (r1 : Nat) (x2 : Int32) (x3 : Int32) (q t i : Nat) : Prop := (q = 7 ∧ t = 14)
theorem fr_X2_insert_J75 (r1 : Nat) (x2 : Int32) (x3 : Int32) (rv : Int32) (σ1 : mm_M)  : ∀ (v6 : Int32) (σ : mm_M), fx_X2_insert_J75 r1 x2 x3 v6 σ = some (rv, σ1) → mm_fr (fw_X2_insert r1 x2 x3) σ σ1 := by
  intro v6 σ hf
  rw [fx_X2_insert_J75] at hf
  have F : mm_fr (fw_X2_insert r1 x2 x3) σ σ := mm_fr.rf
  obtain ⟨h_14, hf⟩ := mm_gd_ok hf
  obtain ⟨s_15, e_15, hf⟩ := mm_lt_ok hf
  have F := F.trans (mm_fr.a e_15 (fun _ => ⟨rfl, rfl⟩))
  exact mm_fr.ret hf F
theorem fr_X2_insert_L23 (r1 : Nat) (x2 : Int32) (x3 : Int32) (rv : Int32) (σ1 : mm_M)  : ∀ (fu : Nat) (v4 : Int32) (v5 : Int32) (v6 : Int32) (σ : mm_M), fx_X2_insert_L23 r1 x2 x3 fu v4 v5 v6 σ = some (rv, σ1) → mm_fr (fw_X2_insert r1 x2 x3) σ σ1 := by
  intro fu
  induction fu with
  | zero =>
    intro v4 v5 v6 σ hf
    exact mm_no hf
  | succ fu ih =>
    intro v4 v5 v6 σ hf
    rw [fx_X2_insert_L23] at hf
    have F : mm_fr (fw_X2_insert r1 x2 x3) σ σ := mm_fr.rf
    by_cases c_5 : v6 ≤ (0 : Int32)
    · replace hf := mm_it c_5 hf
      exact F.trans (fr_X2_insert_J75 r1 x2 x3 rv σ1 v6 σ hf)
    · replace hf := mm_if c_5 hf
      obtain ⟨h_6, hf⟩ := mm_gd_ok hf
      obtain ⟨h_7, hf⟩ := mm_gd_ok hf
      obtain ⟨h_8, hf⟩ := mm_gd_ok hf
      by_cases c_9 : v5 ≤ (σ r1 8 ((σ 7 14 0 (v6 - (1 : Int32)).toNatClampNeg).toNatClampNeg) v4.toNatClampNeg)
      · replace hf := mm_it c_9 hf
        exact F.trans (fr_X2_insert_J75 r1 x2 x3 rv σ1 v6 σ hf)
      · replace hf := mm_if c_9 hf
        obtain ⟨h_10, hf⟩ := mm_gd_ok hf
        obtain ⟨h_11, hf⟩ := mm_gd_ok hf
        obtain ⟨s_12, e_12, hf⟩ := mm_lt_ok hf
        have F := F.trans (mm_fr.a e_12 (fun _ => ⟨rfl, rfl⟩))
        obtain ⟨y_13, e_13, hf⟩ := mm_li_ok hf
        exact F.trans (ih v4 v5 y_13 s_12 hf)
theorem fr_X2_insert (r1 : Nat) (x2 : Int32) (x3 : Int32) (σ : mm_M) (rv : Int32) (σ1 : mm_M) (hf : fx_X2_insert r1 x2 x3 σ = some (rv, σ1)) : mm_fr (fw_X2_insert r1 x2 x3) σ σ1 := by
  rw [fx_X2_insert] at hf
  have F : mm_fr (fw_X2_insert r1 x2 x3) σ σ := mm_fr.rf
  obtain ⟨y_1, e_1, hf⟩ := mm_li_ok hf
  obtain ⟨h_2, hf⟩ := mm_gd_ok hf
  obtain ⟨h_3, hf⟩ := mm_gd_ok hf
  obtain ⟨y_4, e_4, hf⟩ := mm_li_ok hf
  exact F.trans (fr_X2_insert_L23 r1 x2 x3 rv σ1 mm_FU y_1 y_4 x3 σ hf)
def fw_X2_arrange (r1 : Nat) (q t i : Nat) : Prop := (q = 7 ∧ t = 14)
theorem fr_X2_arrange_L4 (r1 : Nat) (rv : Int32) (σ1 : mm_M)  : ∀ (fu : Nat) (v2 : Int32) (v3 : Int32) (σ : mm_M), fx_X2_arrange_L4 r1 fu v2 v3 σ = some (rv, σ1) → mm_fr (fw_X2_arrange r1) σ σ1 := by
  intro fu
  induction fu with
  | zero =>
    intro v2 v3 σ hf
    exact mm_no hf
  | succ fu ih =>
    intro v2 v3 σ hf
    rw [fx_X2_arrange_L4] at hf
    have F : mm_fr (fw_X2_arrange r1) σ σ := mm_fr.rf
    by_cases c_1 : (σ r1 0 0 2) ≤ v3
    · replace hf := mm_it c_1 hf
      exact mm_fr.ret hf F
    · replace hf := mm_if c_1 hf
      obtain ⟨h_2, hf⟩ := mm_gd_ok hf
      obtain ⟨r_3, s_3, e_3, hf⟩ := mm_bd_ok hf
      have F := F.trans (mm_fr.eq (fr_X3_isOut r1 v3.toNatClampNeg σ r_3 s_3 e_3))
      by_cases c_4 : r_3 = (0 : Int32)
      · replace hf := mm_it c_4 hf
        obtain ⟨r_6, s_6, e_6, hf⟩ := mm_bd_ok hf
        have F := F.trans (mm_fr.eq (fr_X3_hasCard r1 v3.toNatClampNeg (s_3 r1 0 0 3) s_3 r_6 s_6 e_6))
        by_cases c_7 : r_6 = (0 : Int32)
        · replace hf := mm_it c_7 hf
          obtain ⟨y_8, e_8, hf⟩ := mm_li_ok hf
          exact F.trans (ih v2 y_8 s_6 hf)
        · replace hf := mm_if c_7 hf
          obtain ⟨r_9, s_9, e_9, hf⟩ := mm_bd_ok hf
          have F := F.trans ((fr_X2_insert r1 v3 v2 s_6 r_9 s_9 e_9).mono (fun q t i h => (fun h => h) h))
          obtain ⟨y_10, e_10, hf⟩ := mm_li_ok hf
          obtain ⟨y_11, e_11, hf⟩ := mm_li_ok hf
          exact F.trans (ih y_10 y_11 s_9 hf)
      · replace hf := mm_if c_4 hf
        obtain ⟨y_5, e_5, hf⟩ := mm_li_ok hf
        exact F.trans (ih v2 y_5 s_3 hf)
theorem fr_X2_arrange (r1 : Nat) (σ : mm_M) (rv : Int32) (σ1 : mm_M) (hf : fx_X2_arrange r1 σ = some (rv, σ1)) : mm_fr (fw_X2_arrange r1) σ σ1 := by
  rw [fx_X2_arrange] at hf
  have F : mm_fr (fw_X2_arrange r1) σ σ := mm_fr.rf
  exact F.trans (fr_X2_arrange_L4 r1 rv σ1 mm_FU (0 : Int32) (0 : Int32) σ hf)
def fw_X1_kindOn (r0 : Nat) (x1 : Int32) (q t i : Nat) : Prop := False
theorem fr_X1_kindOn (r0 : Nat) (x1 : Int32) (σ : mm_M) (rv : Int32) (σ1 : mm_M) (hf : fx_X1_kindOn r0 x1 σ = some (rv, σ1)) : σ1 = σ := by
  refine mm_fr.none (W := (fw_X1_kindOn r0 x1)) (fun _ _ _ h => h) ?_
  rw [fx_X1_kindOn] at hf
  have F : mm_fr (fw_X1_kindOn r0 x1) σ σ := mm_fr.rf
  by_cases c_1 : x1 < (0 : Int32)
  · replace hf := mm_it c_1 hf
    exact mm_fr.ret hf F
  · replace hf := mm_if c_1 hf
    by_cases c_2 : (64 : Int32) ≤ x1
    · replace hf := mm_it c_2 hf
      exact mm_fr.ret hf F
    · replace hf := mm_if c_2 hf
      obtain ⟨h_3, hf⟩ := mm_gd_ok hf
      exact mm_fr.ret hf F
def fw_X0_askAll (r1 : Nat) (q t i : Nat) : Prop := (q = 7 ∧ t = 17) ∨ (q = 7 ∧ t = 18) ∨ (q = 7 ∧ t = 19)
theorem fr_X0_askAll_J116 (r1 : Nat) (rv : Int32) (σ1 : mm_M) (k2 : Int32 → mm_M → mm_R) (hk2 : ∀ (v2 : Int32) (σ : mm_M), k2 v2 σ = some (rv, σ1) → mm_fr (fw_X0_askAll r1) σ σ1) : ∀ (v2 : Int32) (w1 : Int32) (w2 : Int32) (σ : mm_M), fx_X0_askAll_J116 r1 k2 v2 w1 w2 σ = some (rv, σ1) → mm_fr (fw_X0_askAll r1) σ σ1 := by
  intro v2 w1 w2 σ hf
  rw [fx_X0_askAll_J116] at hf
  have F : mm_fr (fw_X0_askAll r1) σ σ := mm_fr.rf
  obtain ⟨h_20, hf⟩ := mm_gd_ok hf
  obtain ⟨h_21, hf⟩ := mm_gd_ok hf
  obtain ⟨s_22, e_22, hf⟩ := mm_lt_ok hf
  have F := F.trans (mm_fr.a e_22 (fun _ => (Or.inr (Or.inr ⟨rfl, rfl⟩))))
  obtain ⟨y_23, e_23, hf⟩ := mm_li_ok hf
  exact F.trans (hk2 y_23 s_22 hf)
theorem fr_X0_askAll_J115 (r1 : Nat) (rv : Int32) (σ1 : mm_M) (k2 : Int32 → mm_M → mm_R) (hk2 : ∀ (v2 : Int32) (σ : mm_M), k2 v2 σ = some (rv, σ1) → mm_fr (fw_X0_askAll r1) σ σ1) : ∀ (v2 : Int32) (w1 : Int32) (σ : mm_M), fx_X0_askAll_J115 r1 k2 v2 w1 σ = some (rv, σ1) → mm_fr (fw_X0_askAll r1) σ σ1 := by
  intro v2 w1 σ hf
  rw [fx_X0_askAll_J115] at hf
  have F : mm_fr (fw_X0_askAll r1) σ σ := mm_fr.rf
  exact F.trans (fr_X0_askAll_J116 r1 rv σ1 k2 hk2 v2 w1 (0 : Int32) σ hf)
theorem fr_X0_askAll_J83 (r1 : Nat) (rv : Int32) (σ1 : mm_M) (k2 : Int32 → mm_M → mm_R) (hk2 : ∀ (v2 : Int32) (σ : mm_M), k2 v2 σ = some (rv, σ1) → mm_fr (fw_X0_askAll r1) σ σ1) : ∀ (v2 : Int32) (v3 : Int32) (v5 : Int32) (w1 : Int32) (w2 : Int32) (σ : mm_M), fx_X0_askAll_J83 r1 k2 v2 v3 v5 w1 w2 σ = some (rv, σ1) → mm_fr (fw_X0_askAll r1) σ σ1 := by
  intro v2 v3 v5 w1 w2 σ hf
  rw [fx_X0_askAll_J83] at hf
  have F : mm_fr (fw_X0_askAll r1) σ σ := mm_fr.rf
  obtain ⟨h_14, hf⟩ := mm_gd_ok hf
  obtain ⟨s_15, e_15, hf⟩ := mm_lt_ok hf
  have F := F.trans (mm_fr.a e_15 (fun _ => (Or.inr (Or.inl ⟨rfl, rfl⟩))))
  obtain ⟨h_16, hf⟩ := mm_gd_ok hf
  by_cases c_17 : (s_15 7 17 0 v2.toNatClampNeg) = (0 : Int32)
  · replace hf := mm_it c_17 hf
    exact F.trans (fr_X0_askAll_J115 r1 rv σ1 k2 hk2 v2 v2 s_15 hf)
  · replace hf := mm_if c_17 hf
    obtain ⟨r_18, s_18, e_18, hf⟩ := mm_bd_ok hf
    have F := F.trans (mm_fr.eq (fr_X1_hasWall r1 v3 v5 s_15 r_18 s_18 e_18))
    by_cases c_19 : r_18 = (0 : Int32)
    · replace hf := mm_it c_19 hf
      exact F.trans (fr_X0_askAll_J116 r1 rv σ1 k2 hk2 v2 v2 (1 : Int32) s_18 hf)
    · replace hf := mm_if c_19 hf
      exact F.trans (fr_X0_askAll_J115 r1 rv σ1 k2 hk2 v2 v2 s_18 hf)
theorem fr_X0_askAll_J58 (r1 : Nat) (rv : Int32) (σ1 : mm_M) (k2 : Int32 → mm_M → mm_R) (hk2 : ∀ (v2 : Int32) (σ : mm_M), k2 v2 σ = some (rv, σ1) → mm_fr (fw_X0_askAll r1) σ σ1) : ∀ (v2 : Int32) (v3 : Int32) (v5 : Int32) (w1 : Int32) (w2 : Int32) (σ : mm_M), fx_X0_askAll_J58 r1 k2 v2 v3 v5 w1 w2 σ = some (rv, σ1) → mm_fr (fw_X0_askAll r1) σ σ1 := by
  intro v2 v3 v5 w1 w2 σ hf
  rw [fx_X0_askAll_J58] at hf
  have F : mm_fr (fw_X0_askAll r1) σ σ := mm_fr.rf
  obtain ⟨h_8, hf⟩ := mm_gd_ok hf
  obtain ⟨h_9, hf⟩ := mm_gd_ok hf
  obtain ⟨s_10, e_10, hf⟩ := mm_lt_ok hf
  have F := F.trans (mm_fr.a e_10 (fun _ => (Or.inl ⟨rfl, rfl⟩)))
  obtain ⟨h_11, hf⟩ := mm_gd_ok hf
  by_cases c_12 : (s_10 7 17 0 v2.toNatClampNeg) = (0 : Int32)
  · replace hf := mm_it c_12 hf
    exact F.trans (fr_X0_askAll_J83 r1 rv σ1 k2 hk2 v2 v3 v5 v2 (-1 : Int32) s_10 hf)
  · replace hf := mm_if c_12 hf
    obtain ⟨r_13, s_13, e_13, hf⟩ := mm_bd_ok hf
    have F := F.trans (mm_fr.eq (fr_X1_neighbour v3 v5 s_10 r_13 s_13 e_13))
    exact F.trans (fr_X0_askAll_J83 r1 rv σ1 k2 hk2 v2 v3 v5 v2 r_13 s_13 hf)
theorem fr_X0_askAll_J57 (r1 : Nat) (rv : Int32) (σ1 : mm_M) (k2 : Int32 → mm_M → mm_R) (hk2 : ∀ (v2 : Int32) (σ : mm_M), k2 v2 σ = some (rv, σ1) → mm_fr (fw_X0_askAll r1) σ σ1) : ∀ (v2 : Int32) (v3 : Int32) (v5 : Int32) (w1 : Int32) (σ : mm_M), fx_X0_askAll_J57 r1 k2 v2 v3 v5 w1 σ = some (rv, σ1) → mm_fr (fw_X0_askAll r1) σ σ1 := by
  intro v2 v3 v5 w1 σ hf
  rw [fx_X0_askAll_J57] at hf
  have F : mm_fr (fw_X0_askAll r1) σ σ := mm_fr.rf
  exact F.trans (fr_X0_askAll_J58 r1 rv σ1 k2 hk2 v2 v3 v5 w1 (0 : Int32) σ hf)
theorem fr_X0_askAll_L2 (r1 : Nat) (rv : Int32) (σ1 : mm_M)  : ∀ (fu : Nat) (v2 : Int32) (σ : mm_M), fx_X0_askAll_L2 r1 fu v2 σ = some (rv, σ1) → mm_fr (fw_X0_askAll r1) σ σ1 := by
  intro fu
  induction fu with
  | zero =>
    intro v2 σ hf
    exact mm_no hf
  | succ fu ih =>
    intro v2 σ hf
    rw [fx_X0_askAll_L2] at hf
    have F : mm_fr (fw_X0_askAll r1) σ σ := mm_fr.rf
    by_cases c_1 : (σ r1 0 0 2) ≤ v2
    · replace hf := mm_it c_1 hf
      exact mm_fr.ret hf F
    · replace hf := mm_if c_1 hf
      obtain ⟨h_2, hf⟩ := mm_gd_ok hf
      obtain ⟨y_3, e_3, hf⟩ := mm_li_ok hf
      obtain ⟨r_4, s_4, e_4, hf⟩ := mm_bd_ok hf
      have F := F.trans (mm_fr.eq (fr_X1_kindOn r1 y_3 σ r_4 s_4 e_4))
      obtain ⟨y_5, e_5, hf⟩ := mm_li_ok hf
      by_cases c_6 : r_4 < (1 : Int32)
      · replace hf := mm_it c_6 hf
        exact F.trans (fr_X0_askAll_J57 r1 rv σ1 (fun z0 z => fx_X0_askAll_L2 r1 fu z0 z) ih v2 y_3 y_5 v2 s_4 hf)
      · replace hf := mm_if c_6 hf
        by_cases c_7 : (4 : Int32) < r_4
        · replace hf := mm_it c_7 hf
          exact F.trans (fr_X0_askAll_J57 r1 rv σ1 (fun z0 z => fx_X0_askAll_L2 r1 fu z0 z) ih v2 y_3 y_5 v2 s_4 hf)
        · replace hf := mm_if c_7 hf
          exact F.trans (fr_X0_askAll_J58 r1 rv σ1 (fun z0 z => fx_X0_askAll_L2 r1 fu z0 z) ih v2 y_3 y_5 v2 (1 : Int32) s_4 hf)
theorem fr_X0_askAll (r1 : Nat) (σ : mm_M) (rv : Int32) (σ1 : mm_M) (hf : fx_X0_askAll r1 σ = some (rv, σ1)) : mm_fr (fw_X0_askAll r1) σ σ1 := by
  rw [fx_X0_askAll] at hf
  have F : mm_fr (fw_X0_askAll r1) σ σ := mm_fr.rf
  exact F.trans (fr_X0_askAll_L2 r1 rv σ1 mm_FU (0 : Int32) σ hf)
def fw_X0_isHindered (r1 : Nat) (x2 : Int32) (q t i : Nat) : Prop := False
theorem fr_X0_isHindered_J100 (r1 : Nat) (x2 : Int32) (rv : Int32) (σ1 : mm_M) (k2 : Int32 → mm_M → mm_R) (hk2 : ∀ (v3 : Int32) (σ : mm_M), k2 v3 σ = some (rv, σ1) → mm_fr (fw_X0_isHindered r1 x2) σ σ1) : ∀ (v3 : Int32) (v4 : Int32) (w0 : Int32) (σ : mm_M), fx_X0_isHindered_J100 r1 x2 k2 v3 v4 w0 σ = some (rv, σ1) → mm_fr (fw_X0_isHindered r1 x2) σ σ1 := by
  intro v3 v4 w0 σ hf
  rw [fx_X0_isHindered_J100] at hf
  have F : mm_fr (fw_X0_isHindered r1 x2) σ σ := mm_fr.rf
  by_cases c_19 : v4 = (0 : Int32)
  · replace hf := mm_it c_19 hf
    by_cases c_20 : w0 = (0 : Int32)
    · replace hf := mm_it c_20 hf
      obtain ⟨y_21, e_21, hf⟩ := mm_li_ok hf
      exact F.trans (hk2 y_21 σ hf)
    · replace hf := mm_if c_20 hf
      exact mm_fr.ret hf F
  · replace hf := mm_if c_19 hf
    exact mm_fr.ret hf F
theorem fr_X0_isHindered_J99 (r1 : Nat) (x2 : Int32) (rv : Int32) (σ1 : mm_M) (k2 : Int32 → mm_M → mm_R) (hk2 : ∀ (v3 : Int32) (σ : mm_M), k2 v3 σ = some (rv, σ1) → mm_fr (fw_X0_isHindered r1 x2) σ σ1) : ∀ (v3 : Int32) (v4 : Int32) (σ : mm_M), fx_X0_isHindered_J99 r1 x2 k2 v3 v4 σ = some (rv, σ1) → mm_fr (fw_X0_isHindered r1 x2) σ σ1 := by
  intro v3 v4 σ hf
  rw [fx_X0_isHindered_J99] at hf
  have F : mm_fr (fw_X0_isHindered r1 x2) σ σ := mm_fr.rf
  exact F.trans (fr_X0_isHindered_J100 r1 x2 rv σ1 k2 hk2 v3 v4 (0 : Int32) σ hf)
theorem fr_X0_isHindered_J57 (r1 : Nat) (x2 : Int32) (rv : Int32) (σ1 : mm_M) (k2 : Int32 → mm_M → mm_R) (hk2 : ∀ (v3 : Int32) (σ : mm_M), k2 v3 σ = some (rv, σ1) → mm_fr (fw_X0_isHindered r1 x2) σ σ1) : ∀ (v3 : Int32) (w0 : Int32) (σ : mm_M), fx_X0_isHindered_J57 r1 x2 k2 v3 w0 σ = some (rv, σ1) → mm_fr (fw_X0_isHindered r1 x2) σ σ1 := by
  intro v3 w0 σ hf
  rw [fx_X0_isHindered_J57] at hf
  have F : mm_fr (fw_X0_isHindered r1 x2) σ σ := mm_fr.rf
  obtain ⟨h_13, hf⟩ := mm_gd_ok hf
  obtain ⟨h_14, hf⟩ := mm_gd_ok hf
  by_cases c_15 : (σ 7 18 0 x2.toNatClampNeg) = (σ r1 6 v3.toNatClampNeg 3)
  · replace hf := mm_it c_15 hf
    obtain ⟨h_16, hf⟩ := mm_gd_ok hf
    obtain ⟨h_17, hf⟩ := mm_gd_ok hf
    by_cases c_18 : (σ 7 18 0 v3.toNatClampNeg) = (σ r1 6 x2.toNatClampNeg 3)
    · replace hf := mm_it c_18 hf
      exact F.trans (fr_X0_isHindered_J100 r1 x2 rv σ1 k2 hk2 v3 w0 (1 : Int32) σ hf)
    · replace hf := mm_if c_18 hf
      exact F.trans (fr_X0_isHindered_J99 r1 x2 rv σ1 k2 hk2 v3 w0 σ hf)
  · replace hf := mm_if c_15 hf
    exact F.trans (fr_X0_isHindered_J99 r1 x2 rv σ1 k2 hk2 v3 w0 σ hf)
theorem fr_X0_isHindered_L2 (r1 : Nat) (x2 : Int32) (rv : Int32) (σ1 : mm_M)  : ∀ (fu : Nat) (v3 : Int32) (σ : mm_M), fx_X0_isHindered_L2 r1 x2 fu v3 σ = some (rv, σ1) → mm_fr (fw_X0_isHindered r1 x2) σ σ1 := by
  intro fu
  induction fu with
  | zero =>
    intro v3 σ hf
    exact mm_no hf
  | succ fu ih =>
    intro v3 σ hf
    rw [fx_X0_isHindered_L2] at hf
    have F : mm_fr (fw_X0_isHindered r1 x2) σ σ := mm_fr.rf
    by_cases c_1 : (σ r1 0 0 2) ≤ v3
    · replace hf := mm_it c_1 hf
      exact mm_fr.ret hf F
    · replace hf := mm_if c_1 hf
      by_cases c_2 : v3 = x2
      · replace hf := mm_it c_2 hf
        obtain ⟨y_3, e_3, hf⟩ := mm_li_ok hf
        exact F.trans (ih y_3 σ hf)
      · replace hf := mm_if c_2 hf
        obtain ⟨h_4, hf⟩ := mm_gd_ok hf
        by_cases c_5 : (σ 7 17 0 v3.toNatClampNeg) = (0 : Int32)
        · replace hf := mm_it c_5 hf
          obtain ⟨y_6, e_6, hf⟩ := mm_li_ok hf
          exact F.trans (ih y_6 σ hf)
        · replace hf := mm_if c_5 hf
          obtain ⟨h_7, hf⟩ := mm_gd_ok hf
          by_cases c_8 : (σ 7 18 0 x2.toNatClampNeg) = (-1 : Int32)
          · replace hf := mm_it c_8 hf
            obtain ⟨y_12, e_12, hf⟩ := mm_li_ok hf
            exact F.trans (ih y_12 σ hf)
          · replace hf := mm_if c_8 hf
            obtain ⟨h_9, hf⟩ := mm_gd_ok hf
            obtain ⟨h_10, hf⟩ := mm_gd_ok hf
            by_cases c_11 : (σ 7 18 0 v3.toNatClampNeg) = (σ 7 18 0 x2.toNatClampNeg)
            · replace hf := mm_it c_11 hf
              exact F.trans (fr_X0_isHindered_J57 r1 x2 rv σ1 (fun z0 z => fx_X0_isHindered_L2 r1 x2 fu z0 z) ih v3 (1 : Int32) σ hf)
            · replace hf := mm_if c_11 hf
              exact F.trans (fr_X0_isHindered_J57 r1 x2 rv σ1 (fun z0 z => fx_X0_isHindered_L2 r1 x2 fu z0 z) ih v3 (0 : Int32) σ hf)
theorem fr_X0_isHindered (r1 : Nat) (x2 : Int32) (σ : mm_M) (rv : Int32) (σ1 : mm_M) (hf : fx_X0_isHindered r1 x2 σ = some (rv, σ1)) : σ1 = σ := by
  refine mm_fr.none (W := (fw_X0_isHindered r1 x2)) (fun _ _ _ h => h) ?_
  rw [fx_X0_isHindered] at hf
  have F : mm_fr (fw_X0_isHindered r1 x2) σ σ := mm_fr.rf
  exact F.trans (fr_X0_isHindered_L2 r1 x2 rv σ1 mm_FU (0 : Int32) σ hf)
def fw_X8_enter (r0 : Nat) (r1 : Nat) (n1 : Nat) (x2 : Int32) (q t i : Nat) : Prop := (q = r1 ∧ t = 6 ∧ i = 3) ∨ (q = r1 ∧ t = 6 ∧ i = 7)
theorem fr_X8_enter_J24 (r0 : Nat) (r1 : Nat) (n1 : Nat) (x2 : Int32) (rv : Int32) (σ1 : mm_M)  : ∀ (σ : mm_M), fx_X8_enter_J24 r0 r1 n1 x2  σ = some (rv, σ1) → mm_fr (fw_X8_enter r0 r1 n1 x2) σ σ1 := by
  intro  σ hf
  rw [fx_X8_enter_J24] at hf
  have F : mm_fr (fw_X8_enter r0 r1 n1 x2) σ σ := mm_fr.rf
  obtain ⟨s_6, e_6, hf⟩ := mm_lt_ok hf
  have F := F.trans (mm_fr.u e_6 ((Or.inl ⟨rfl, rfl, rfl⟩)))
  obtain ⟨s_7, e_7, hf⟩ := mm_lt_ok hf
  have F := F.trans (mm_fr.u e_7 ((Or.inr ⟨rfl, rfl, rfl⟩)))
  exact mm_fr.ret hf F
theorem fr_X8_enter (r0 : Nat) (r1 : Nat) (n1 : Nat) (x2 : Int32) (σ : mm_M) (rv : Int32) (σ1 : mm_M) (hf : fx_X8_enter r0 r1 n1 x2 σ = some (rv, σ1)) : mm_fr (fw_X8_enter r0 r1 n1 x2) σ σ1 := by
  rw [fx_X8_enter] at hf
  have F : mm_fr (fw_X8_enter r0 r1 n1 x2) σ σ := mm_fr.rf
  by_cases c_1 : x2 < (0 : Int32)
  · replace hf := mm_it c_1 hf
    exact F.trans (fr_X8_enter_J24 r0 r1 n1 x2 rv σ1 σ hf)
  · replace hf := mm_if c_1 hf
    by_cases c_2 : (64 : Int32) ≤ x2
    · replace hf := mm_it c_2 hf
      exact F.trans (fr_X8_enter_J24 r0 r1 n1 x2 rv σ1 σ hf)
    · replace hf := mm_if c_2 hf
      obtain ⟨h_3, hf⟩ := mm_gd_ok hf
      by_cases c_4 : (σ r0 2 0 x2.toNatClampNeg) = (7 : Int32)
      · replace hf := mm_it c_4 hf
        exact F.trans (fr_X8_enter_J24 r0 r1 n1 x2 rv σ1 σ hf)
      · replace hf := mm_if c_4 hf
        obtain ⟨s_5, e_5, hf⟩ := mm_lt_ok hf
        have F := F.trans (mm_fr.u e_5 ((Or.inl ⟨rfl, rfl, rfl⟩)))
        exact mm_fr.ret hf F
def fw_X0_isBlocked (r1 : Nat) (x2 : Int32) (q t i : Nat) : Prop := False
theorem fr_X0_isBlocked (r1 : Nat) (x2 : Int32) (σ : mm_M) (rv : Int32) (σ1 : mm_M) (hf : fx_X0_isBlocked r1 x2 σ = some (rv, σ1)) : σ1 = σ := by
  refine mm_fr.none (W := (fw_X0_isBlocked r1 x2)) (fun _ _ _ h => h) ?_
  rw [fx_X0_isBlocked] at hf
  have F : mm_fr (fw_X0_isBlocked r1 x2) σ σ := mm_fr.rf
  obtain ⟨h_1, hf⟩ := mm_gd_ok hf
  obtain ⟨r_2, s_2, e_2, hf⟩ := mm_bd_ok hf
  have F := F.trans (mm_fr.eq (fr_X8_cartOn r1 (σ 7 18 0 x2.toNatClampNeg) σ r_2 s_2 e_2))
  by_cases c_3 : r_2 = (-1 : Int32)
  · replace hf := mm_it c_3 hf
    exact mm_fr.ret hf F
  · replace hf := mm_if c_3 hf
    obtain ⟨h_4, hf⟩ := mm_gd_ok hf
    by_cases c_5 : (s_2 7 19 0 r_2.toNatClampNeg) = (0 : Int32)
    · replace hf := mm_it c_5 hf
      exact mm_fr.ret hf F
    · replace hf := mm_if c_5 hf
      exact mm_fr.ret hf F
def fw_X0_carry (r1 : Nat) (q t i : Nat) : Prop := (q = 7 ∧ t = 17) ∨ (q = 7 ∧ t = 18) ∨ (q = 7 ∧ t = 19) ∨ (q = r1 ∧ t = 6 ∧ i = 3) ∨ (q = r1 ∧ t = 6 ∧ i = 7)
theorem fr_X0_carry_L58 (r1 : Nat) (rv : Int32) (σ1 : mm_M) (k48 : Int32 → mm_M → mm_R) (hk48 : ∀ (v2 : Int32) (σ : mm_M), k48 v2 σ = some (rv, σ1) → mm_fr (fw_X0_carry r1) σ σ1) : ∀ (fu : Nat) (v2 : Int32) (v3 : Int32) (σ : mm_M), fx_X0_carry_L58 r1 k48 fu v2 v3 σ = some (rv, σ1) → mm_fr (fw_X0_carry r1) σ σ1 := by
  intro fu
  induction fu with
  | zero =>
    intro v2 v3 σ hf
    exact mm_no hf
  | succ fu ih =>
    intro v2 v3 σ hf
    rw [fx_X0_carry_L58] at hf
    have F : mm_fr (fw_X0_carry r1) σ σ := mm_fr.rf
    by_cases c_21 : (σ r1 0 0 2) ≤ v3
    · replace hf := mm_it c_21 hf
      obtain ⟨y_22, e_22, hf⟩ := mm_li_ok hf
      exact F.trans (hk48 y_22 σ hf)
    · replace hf := mm_if c_21 hf
      obtain ⟨h_23, hf⟩ := mm_gd_ok hf
      by_cases c_24 : (σ 7 19 0 v3.toNatClampNeg) = (0 : Int32)
      · replace hf := mm_it c_24 hf
        obtain ⟨y_25, e_25, hf⟩ := mm_li_ok hf
        exact F.trans (ih v2 y_25 σ hf)
      · replace hf := mm_if c_24 hf
        obtain ⟨r_26, s_26, e_26, hf⟩ := mm_bd_ok hf
        have F := F.trans (mm_fr.eq (fr_X0_isBlocked r1 v3 σ r_26 s_26 e_26))
        by_cases c_27 : r_26 = (0 : Int32)
        · replace hf := mm_it c_27 hf
          obtain ⟨y_28, e_28, hf⟩ := mm_li_ok hf
          exact F.trans (ih v2 y_28 s_26 hf)
        · replace hf := mm_if c_27 hf
          obtain ⟨h_29, hf⟩ := mm_gd_ok hf
          obtain ⟨s_30, e_30, hf⟩ := mm_lt_ok hf
          have F := F.trans (mm_fr.a e_30 (fun _ => (Or.inr (Or.inr (Or.inl ⟨rfl, rfl⟩)))))
          obtain ⟨y_31, e_31, hf⟩ := mm_li_ok hf
          exact F.trans (ih v2 y_31 s_30 hf)
theorem fr_X0_carry_L105 (r1 : Nat) (rv : Int32) (σ1 : mm_M)  : ∀ (fu : Nat) (v2 : Int32) (σ : mm_M), fx_X0_carry_L105 r1 fu v2 σ = some (rv, σ1) → mm_fr (fw_X0_carry r1) σ σ1 := by
  intro fu
  induction fu with
  | zero =>
    intro v2 σ hf
    exact mm_no hf
  | succ fu ih =>
    intro v2 σ hf
    rw [fx_X0_carry_L105] at hf
    have F : mm_fr (fw_X0_carry r1) σ σ := mm_fr.rf
    by_cases c_13 : (σ r1 0 0 2) ≤ v2
    · replace hf := mm_it c_13 hf
      exact mm_fr.ret hf F
    · replace hf := mm_if c_13 hf
      obtain ⟨h_14, hf⟩ := mm_gd_ok hf
      by_cases c_15 : (σ 7 19 0 v2.toNatClampNeg) = (0 : Int32)
      · replace hf := mm_it c_15 hf
        obtain ⟨y_16, e_16, hf⟩ := mm_li_ok hf
        exact F.trans (ih y_16 σ hf)
      · replace hf := mm_if c_15 hf
        obtain ⟨h_17, hf⟩ := mm_gd_ok hf
        obtain ⟨h_18, hf⟩ := mm_gd_ok hf
        obtain ⟨r_19, s_19, e_19, hf⟩ := mm_bd_ok hf
        have F := F.trans ((fr_X8_enter r1 r1 v2.toNatClampNeg (σ 7 18 0 v2.toNatClampNeg) σ r_19 s_19 e_19).mono (fun q t i h => (fun h => h.elim (fun h => (Or.inr (Or.inr (Or.inr (Or.inl h))))) (fun h => (Or.inr (Or.inr (Or.inr (Or.inr h)))))) h))
        obtain ⟨y_20, e_20, hf⟩ := mm_li_ok hf
        exact F.trans (ih y_20 s_19 hf)
theorem fr_X0_carry_L48 (r1 : Nat) (rv : Int32) (σ1 : mm_M)  : ∀ (fu : Nat) (v2 : Int32) (σ : mm_M), fx_X0_carry_L48 r1 fu v2 σ = some (rv, σ1) → mm_fr (fw_X0_carry r1) σ σ1 := by
  intro fu
  induction fu with
  | zero =>
    intro v2 σ hf
    exact mm_no hf
  | succ fu ih =>
    intro v2 σ hf
    rw [fx_X0_carry_L48] at hf
    have F : mm_fr (fw_X0_carry r1) σ σ := mm_fr.rf
    by_cases c_12 : (σ r1 0 0 2) ≤ v2
    · replace hf := mm_it c_12 hf
      exact F.trans (fr_X0_carry_L105 r1 rv σ1 mm_FU (0 : Int32) σ hf)
    · replace hf := mm_if c_12 hf
      exact F.trans (fr_X0_carry_L58 r1 rv σ1 (fun z0 z => fx_X0_carry_L48 r1 fu z0 z) ih mm_FU v2 (0 : Int32) σ hf)
theorem fr_X0_carry_L7 (r1 : Nat) (rv : Int32) (σ1 : mm_M)  : ∀ (fu : Nat) (v2 : Int32) (σ : mm_M), fx_X0_carry_L7 r1 fu v2 σ = some (rv, σ1) → mm_fr (fw_X0_carry r1) σ σ1 := by
  intro fu
  induction fu with
  | zero =>
    intro v2 σ hf
    exact mm_no hf
  | succ fu ih =>
    intro v2 σ hf
    rw [fx_X0_carry_L7] at hf
    have F : mm_fr (fw_X0_carry r1) σ σ := mm_fr.rf
    by_cases c_2 : (σ r1 0 0 2) ≤ v2
    · replace hf := mm_it c_2 hf
      exact F.trans (fr_X0_carry_L48 r1 rv σ1 mm_FU (0 : Int32) σ hf)
    · replace hf := mm_if c_2 hf
      obtain ⟨h_3, hf⟩ := mm_gd_ok hf
      by_cases c_4 : (σ 7 19 0 v2.toNatClampNeg) = (0 : Int32)
      · replace hf := mm_it c_4 hf
        obtain ⟨y_5, e_5, hf⟩ := mm_li_ok hf
        exact F.trans (ih y_5 σ hf)
      · replace hf := mm_if c_4 hf
        obtain ⟨r_6, s_6, e_6, hf⟩ := mm_bd_ok hf
        have F := F.trans (mm_fr.eq (fr_X0_isHindered r1 v2 σ r_6 s_6 e_6))
        by_cases c_7 : r_6 = (0 : Int32)
        · replace hf := mm_it c_7 hf
          obtain ⟨y_8, e_8, hf⟩ := mm_li_ok hf
          exact F.trans (ih y_8 s_6 hf)
        · replace hf := mm_if c_7 hf
          obtain ⟨h_9, hf⟩ := mm_gd_ok hf
          obtain ⟨s_10, e_10, hf⟩ := mm_lt_ok hf
          have F := F.trans (mm_fr.a e_10 (fun _ => (Or.inr (Or.inr (Or.inl ⟨rfl, rfl⟩)))))
          obtain ⟨y_11, e_11, hf⟩ := mm_li_ok hf
          exact F.trans (ih y_11 s_10 hf)
theorem fr_X0_carry (r1 : Nat) (σ : mm_M) (rv : Int32) (σ1 : mm_M) (hf : fx_X0_carry r1 σ = some (rv, σ1)) : mm_fr (fw_X0_carry r1) σ σ1 := by
  rw [fx_X0_carry] at hf
  have F : mm_fr (fw_X0_carry r1) σ σ := mm_fr.rf
  obtain ⟨r_1, s_1, e_1, hf⟩ := mm_bd_ok hf
  have F := F.trans ((fr_X0_askAll r1 σ r_1 s_1 e_1).mono (fun q t i h => (fun h => h.elim (fun h => (Or.inl h)) (fun h => h.elim (fun h => (Or.inr (Or.inl h))) (fun h => (Or.inr (Or.inr (Or.inl h)))))) h))
  exact F.trans (fr_X0_carry_L7 r1 rv σ1 mm_FU (0 : Int32) s_1 hf)
def fw_X8_turnOnGears (r0 : Nat) (q t i : Nat) : Prop := (q = r0 ∧ t = 6 ∧ i = 4)
theorem fr_X8_turnOnGears_L2 (r0 : Nat) (rv : Int32) (σ1 : mm_M)  : ∀ (fu : Nat) (v1 : Int32) (σ : mm_M), fx_X8_turnOnGears_L2 r0 fu v1 σ = some (rv, σ1) → mm_fr (fw_X8_turnOnGears r0) σ σ1 := by
  intro fu
  induction fu with
  | zero =>
    intro v1 σ hf
    exact mm_no hf
  | succ fu ih =>
    intro v1 σ hf
    rw [fx_X8_turnOnGears_L2] at hf
    have F : mm_fr (fw_X8_turnOnGears r0) σ σ := mm_fr.rf
    by_cases c_1 : (σ r0 0 0 2) ≤ v1
    · replace hf := mm_it c_1 hf
      exact mm_fr.ret hf F
    · replace hf := mm_if c_1 hf
      obtain ⟨h_2, hf⟩ := mm_gd_ok hf
      obtain ⟨r_3, s_3, e_3, hf⟩ := mm_bd_ok hf
      have F := F.trans (mm_fr.eq (fr_X1_kindOn r0 (σ r0 6 v1.toNatClampNeg 3) σ r_3 s_3 e_3))
      by_cases c_4 : r_3 = (5 : Int32)
      · replace hf := mm_it c_4 hf
        obtain ⟨r_10, s_10, e_10, hf⟩ := mm_bd_ok hf
        have F := F.trans (mm_fr.eq (fr_X10_turned (s_3 r0 6 v1.toNatClampNeg 4) (3 : Int32) s_3 r_10 s_10 e_10))
        obtain ⟨s_11, e_11, hf⟩ := mm_lt_ok hf
        have F := F.trans (mm_fr.u e_11 (⟨rfl, rfl, rfl⟩))
        obtain ⟨y_12, e_12, hf⟩ := mm_li_ok hf
        exact F.trans (ih y_12 s_11 hf)
      · replace hf := mm_if c_4 hf
        by_cases c_5 : r_3 = (6 : Int32)
        · replace hf := mm_it c_5 hf
          obtain ⟨r_7, s_7, e_7, hf⟩ := mm_bd_ok hf
          have F := F.trans (mm_fr.eq (fr_X10_turned (s_3 r0 6 v1.toNatClampNeg 4) (1 : Int32) s_3 r_7 s_7 e_7))
          obtain ⟨s_8, e_8, hf⟩ := mm_lt_ok hf
          have F := F.trans (mm_fr.u e_8 (⟨rfl, rfl, rfl⟩))
          obtain ⟨y_9, e_9, hf⟩ := mm_li_ok hf
          exact F.trans (ih y_9 s_8 hf)
        · replace hf := mm_if c_5 hf
          obtain ⟨y_6, e_6, hf⟩ := mm_li_ok hf
          exact F.trans (ih y_6 s_3 hf)
theorem fr_X8_turnOnGears (r0 : Nat) (σ : mm_M) (rv : Int32) (σ1 : mm_M) (hf : fx_X8_turnOnGears r0 σ = some (rv, σ1)) : mm_fr (fw_X8_turnOnGears r0) σ σ1 := by
  rw [fx_X8_turnOnGears] at hf
  have F : mm_fr (fw_X8_turnOnGears r0) σ σ := mm_fr.rf
  exact F.trans (fr_X8_turnOnGears_L2 r0 rv σ1 mm_FU (0 : Int32) σ hf)
def fw_X8_touchFlags (r0 : Nat) (q t i : Nat) : Prop := (q = r0 ∧ t = 0 ∧ i = 7) ∨ (q = r0 ∧ t = 6 ∧ i = 6)
theorem fr_X8_touchFlags_L2 (r0 : Nat) (rv : Int32) (σ1 : mm_M)  : ∀ (fu : Nat) (v1 : Int32) (σ : mm_M), fx_X8_touchFlags_L2 r0 fu v1 σ = some (rv, σ1) → mm_fr (fw_X8_touchFlags r0) σ σ1 := by
  intro fu
  induction fu with
  | zero =>
    intro v1 σ hf
    exact mm_no hf
  | succ fu ih =>
    intro v1 σ hf
    rw [fx_X8_touchFlags_L2] at hf
    have F : mm_fr (fw_X8_touchFlags r0) σ σ := mm_fr.rf
    by_cases c_1 : (σ r0 0 0 2) ≤ v1
    · replace hf := mm_it c_1 hf
      exact mm_fr.ret hf F
    · replace hf := mm_if c_1 hf
      obtain ⟨h_2, hf⟩ := mm_gd_ok hf
      by_cases c_3 : (σ r0 1 0 3) ≤ (σ r0 6 v1.toNatClampNeg 6)
      · replace hf := mm_it c_3 hf
        obtain ⟨y_4, e_4, hf⟩ := mm_li_ok hf
        exact F.trans (ih y_4 σ hf)
      · replace hf := mm_if c_3 hf
        obtain ⟨h_5, hf⟩ := mm_gd_ok hf
        by_cases c_6 : (σ r0 4 0 (σ r0 6 v1.toNatClampNeg 6).toNatClampNeg) = (σ r0 6 v1.toNatClampNeg 3)
        · replace hf := mm_it c_6 hf
          obtain ⟨s_8, e_8, hf⟩ := mm_lt_ok hf
          have F := F.trans (mm_fr.u e_8 ((Or.inr ⟨rfl, rfl, rfl⟩)))
          by_cases c_9 : (s_8 r0 0 0 7) = (-1 : Int32)
          · replace hf := mm_it c_9 hf
            by_cases c_11 : (s_8 r0 6 v1.toNatClampNeg 6) = (s_8 r0 1 0 3)
            · replace hf := mm_it c_11 hf
              obtain ⟨s_13, e_13, hf⟩ := mm_lt_ok hf
              have F := F.trans (mm_fr.u e_13 ((Or.inl ⟨rfl, rfl, rfl⟩)))
              obtain ⟨y_14, e_14, hf⟩ := mm_li_ok hf
              exact F.trans (ih y_14 s_13 hf)
            · replace hf := mm_if c_11 hf
              obtain ⟨y_12, e_12, hf⟩ := mm_li_ok hf
              exact F.trans (ih y_12 s_8 hf)
          · replace hf := mm_if c_9 hf
            obtain ⟨y_10, e_10, hf⟩ := mm_li_ok hf
            exact F.trans (ih y_10 s_8 hf)
        · replace hf := mm_if c_6 hf
          obtain ⟨y_7, e_7, hf⟩ := mm_li_ok hf
          exact F.trans (ih y_7 σ hf)
theorem fr_X8_touchFlags (r0 : Nat) (σ : mm_M) (rv : Int32) (σ1 : mm_M) (hf : fx_X8_touchFlags r0 σ = some (rv, σ1)) : mm_fr (fw_X8_touchFlags r0) σ σ1 := by
  rw [fx_X8_touchFlags] at hf
  have F : mm_fr (fw_X8_touchFlags r0) σ σ := mm_fr.rf
  exact F.trans (fr_X8_touchFlags_L2 r0 rv σ1 mm_FU (0 : Int32) σ hf)
def fw_X8_countPhase (r0 : Nat) (q t i : Nat) : Prop := (q = r0 ∧ t = 0 ∧ i = 3) ∨ (q = r0 ∧ t = 0 ∧ i = 4) ∨ (q = r0 ∧ t = 0 ∧ i = 5)
theorem fr_X8_countPhase (r0 : Nat) (σ : mm_M) (rv : Int32) (σ1 : mm_M) (hf : fx_X8_countPhase r0 σ = some (rv, σ1)) : mm_fr (fw_X8_countPhase r0) σ σ1 := by
  rw [fx_X8_countPhase] at hf
  have F : mm_fr (fw_X8_countPhase r0) σ σ := mm_fr.rf
  obtain ⟨s_1, e_1, hf⟩ := mm_lt_ok hf
  have F := F.trans (mm_fr.u e_1 ((Or.inr (Or.inr ⟨rfl, rfl, rfl⟩))))
  obtain ⟨s_2, e_2, hf⟩ := mm_lt_ok hf
  have F := F.trans (mm_fr.u e_2 ((Or.inl ⟨rfl, rfl, rfl⟩)))
  by_cases c_3 : (s_2 r0 0 0 3) = (5 : Int32)
  · replace hf := mm_it c_3 hf
    obtain ⟨s_4, e_4, hf⟩ := mm_lt_ok hf
    have F := F.trans (mm_fr.u e_4 ((Or.inl ⟨rfl, rfl, rfl⟩)))
    obtain ⟨s_5, e_5, hf⟩ := mm_lt_ok hf
    have F := F.trans (mm_fr.u e_5 ((Or.inr (Or.inl ⟨rfl, rfl, rfl⟩))))
    exact mm_fr.ret hf F
  · replace hf := mm_if c_3 hf
    exact mm_fr.ret hf F
def fw_J7_rangeCheck_23922 (x0 : Int32) (x1 : Int32) (x2 : Int32) (q t i : Nat) : Prop := False
theorem fr_J7_rangeCheck_23922 (x0 : Int32) (x1 : Int32) (x2 : Int32) (σ : mm_M) (rv : Int32) (σ1 : mm_M) (hf : fx_J7_rangeCheck_23922 x0 x1 x2 σ = some (rv, σ1)) : σ1 = σ := by
  refine mm_fr.none (W := (fw_J7_rangeCheck_23922 x0 x1 x2)) (fun _ _ _ h => h) ?_
  rw [fx_J7_rangeCheck_23922] at hf
  have F : mm_fr (fw_J7_rangeCheck_23922 x0 x1 x2) σ σ := mm_fr.rf
  by_cases c_1 : x1 ≤ x2
  · replace hf := mm_it c_1 hf
    by_cases c_2 : (0 : Int32) ≤ x1
    · replace hf := mm_it c_2 hf
      by_cases c_3 : x2 ≤ x0
      · replace hf := mm_it c_3 hf
        exact mm_fr.ret hf F
      · replace hf := mm_if c_3 hf
        exact mm_no hf
    · replace hf := mm_if c_2 hf
      exact mm_no hf
  · replace hf := mm_if c_1 hf
    exact mm_no hf
def fw_J7_fill_fda19_k8 (r0 : Nat) (n0 : Nat) (x1 : Int32) (x2 : Int32) (x3 : Int32) (q t i : Nat) : Prop := (q = r0 ∧ t = 8)
theorem fr_J7_fill_fda19_k8_L10 (r0 : Nat) (n0 : Nat) (x1 : Int32) (x2 : Int32) (x3 : Int32) (rv : Int32) (σ1 : mm_M)  : ∀ (fu : Nat) (v4 : Int32) (σ : mm_M), fx_J7_fill_fda19_k8_L10 r0 n0 x1 x2 x3 fu v4 σ = some (rv, σ1) → mm_fr (fw_J7_fill_fda19_k8 r0 n0 x1 x2 x3) σ σ1 := by
  intro fu
  induction fu with
  | zero =>
    intro v4 σ hf
    exact mm_no hf
  | succ fu ih =>
    intro v4 σ hf
    rw [fx_J7_fill_fda19_k8_L10] at hf
    have F : mm_fr (fw_J7_fill_fda19_k8 r0 n0 x1 x2 x3) σ σ := mm_fr.rf
    by_cases c_2 : x2 ≤ v4
    · replace hf := mm_it c_2 hf
      exact mm_fr.ret hf F
    · replace hf := mm_if c_2 hf
      obtain ⟨h_3, hf⟩ := mm_gd_ok hf
      obtain ⟨s_4, e_4, hf⟩ := mm_lt_ok hf
      have F := F.trans (mm_fr.a e_4 (fun _ => ⟨rfl, rfl⟩))
      obtain ⟨y_5, e_5, hf⟩ := mm_li_ok hf
      exact F.trans (ih y_5 s_4 hf)
theorem fr_J7_fill_fda19_k8 (r0 : Nat) (n0 : Nat) (x1 : Int32) (x2 : Int32) (x3 : Int32) (σ : mm_M) (rv : Int32) (σ1 : mm_M) (hf : fx_J7_fill_fda19_k8 r0 n0 x1 x2 x3 σ = some (rv, σ1)) : mm_fr (fw_J7_fill_fda19_k8 r0 n0 x1 x2 x3) σ σ1 := by
  rw [fx_J7_fill_fda19_k8] at hf
  have F : mm_fr (fw_J7_fill_fda19_k8 r0 n0 x1 x2 x3) σ σ := mm_fr.rf
  obtain ⟨r_1, s_1, e_1, hf⟩ := mm_bd_ok hf
  have F := F.trans (mm_fr.eq (fr_J7_rangeCheck_23922 (5 : Int32) x1 x2 σ r_1 s_1 e_1))
  exact F.trans (fr_J7_fill_fda19_k8_L10 r0 n0 x1 x2 x3 rv σ1 mm_FU x1 s_1 hf)
def fw_X3_emptyRegisters (r0 : Nat) (n0 : Nat) (x1 : Int32) (q t i : Nat) : Prop := (q = r0 ∧ t = 8)
theorem fr_X3_emptyRegisters (r0 : Nat) (n0 : Nat) (x1 : Int32) (σ : mm_M) (rv : Int32) (σ1 : mm_M) (hf : fx_X3_emptyRegisters r0 n0 x1 σ = some (rv, σ1)) : mm_fr (fw_X3_emptyRegisters r0 n0 x1) σ σ1 := by
  rw [fx_X3_emptyRegisters] at hf
  have F : mm_fr (fw_X3_emptyRegisters r0 n0 x1) σ σ := mm_fr.rf
  obtain ⟨r_1, s_1, e_1, hf⟩ := mm_bd_ok hf
  have F := F.trans ((fr_J7_fill_fda19_k8 r0 n0 (0 : Int32) x1 (0 : Int32) σ r_1 s_1 e_1).mono (fun q t i h => (fun h => h) h))
  exact mm_fr.ret hf F
def fw_X8_repairAndClear (r0 : Nat) (q t i : Nat) : Prop := (q = r0 ∧ t = 6 ∧ i = 5) ∨ (q = r0 ∧ t = 8)
theorem fr_X8_repairAndClear_J38 (r0 : Nat) (rv : Int32) (σ1 : mm_M) (k2 : Int32 → mm_M → mm_R) (hk2 : ∀ (v1 : Int32) (σ : mm_M), k2 v1 σ = some (rv, σ1) → mm_fr (fw_X8_repairAndClear r0) σ σ1) : ∀ (v1 : Int32) (m2 : Nat) (σ : mm_M), fx_X8_repairAndClear_J38 r0 k2 v1 m2 σ = some (rv, σ1) → mm_fr (fw_X8_repairAndClear r0) σ σ1 := by
  intro v1 m2 σ hf
  rw [fx_X8_repairAndClear_J38] at hf
  have F : mm_fr (fw_X8_repairAndClear r0) σ σ := mm_fr.rf
  obtain ⟨r_6, s_6, e_6, hf⟩ := mm_bd_ok hf
  have F := F.trans (mm_fr.eq (fr_X3_unlockedRegisters r0 m2 σ r_6 s_6 e_6))
  obtain ⟨r_7, s_7, e_7, hf⟩ := mm_bd_ok hf
  have F := F.trans ((fr_X3_emptyRegisters r0 m2 r_6 s_6 r_7 s_7 e_7).mono (fun q t i h => (fun h => (Or.inr h)) h))
  obtain ⟨y_8, e_8, hf⟩ := mm_li_ok hf
  exact F.trans (hk2 y_8 s_7 hf)
theorem fr_X8_repairAndClear_L2 (r0 : Nat) (rv : Int32) (σ1 : mm_M)  : ∀ (fu : Nat) (v1 : Int32) (σ : mm_M), fx_X8_repairAndClear_L2 r0 fu v1 σ = some (rv, σ1) → mm_fr (fw_X8_repairAndClear r0) σ σ1 := by
  intro fu
  induction fu with
  | zero =>
    intro v1 σ hf
    exact mm_no hf
  | succ fu ih =>
    intro v1 σ hf
    rw [fx_X8_repairAndClear_L2] at hf
    have F : mm_fr (fw_X8_repairAndClear r0) σ σ := mm_fr.rf
    by_cases c_1 : (σ r0 0 0 2) ≤ v1
    · replace hf := mm_it c_1 hf
      exact mm_fr.ret hf F
    · replace hf := mm_if c_1 hf
      obtain ⟨h_2, hf⟩ := mm_gd_ok hf
      obtain ⟨r_3, s_3, e_3, hf⟩ := mm_bd_ok hf
      have F := F.trans (mm_fr.eq (fr_X1_kindOn r0 (σ r0 6 v1.toNatClampNeg 3) σ r_3 s_3 e_3))
      by_cases c_4 : r_3 = (8 : Int32)
      · replace hf := mm_it c_4 hf
        obtain ⟨r_5, s_5, e_5, hf⟩ := mm_bd_ok hf
        have F := F.trans ((fr_X3_addDamage r0 v1.toNatClampNeg (-1 : Int32) s_3 r_5 s_5 e_5).mono (fun q t i h => (fun h => (Or.inl h)) h))
        exact F.trans (fr_X8_repairAndClear_J38 r0 rv σ1 (fun z0 z => fx_X8_repairAndClear_L2 r0 fu z0 z) ih v1 v1.toNatClampNeg s_5 hf)
      · replace hf := mm_if c_4 hf
        exact F.trans (fr_X8_repairAndClear_J38 r0 rv σ1 (fun z0 z => fx_X8_repairAndClear_L2 r0 fu z0 z) ih v1 v1.toNatClampNeg s_3 hf)
theorem fr_X8_repairAndClear (r0 : Nat) (σ : mm_M) (rv : Int32) (σ1 : mm_M) (hf : fx_X8_repairAndClear r0 σ = some (rv, σ1)) : mm_fr (fw_X8_repairAndClear r0) σ σ1 := by
  rw [fx_X8_repairAndClear] at hf
  have F : mm_fr (fw_X8_repairAndClear r0) σ σ := mm_fr.rf
  exact F.trans (fr_X8_repairAndClear_L2 r0 rv σ1 mm_FU (0 : Int32) σ hf)
