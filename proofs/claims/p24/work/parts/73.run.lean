/-! what a phase does to a race of the class, whatever it holds: no cart comes onto a pit; only touchFlags touches; only countPhase counts -/
def R1 (r : Nat) (σ σ1 : mm_M) : Prop := (∀ n, σ1 r 6 n 3 = σ r 6 n 3 ∨ ∀ q, q < 64 → σ1 r 6 n 3 = nI q → σ r 2 0 q ≠ 7) ∧ ∀ t n i, (t = 2 ∨ (t = 6 ∧ i = 6) ∨ (t = 0 ∧ i ≠ 6) ∨ t = 1 ∨ t = 4) → σ1 r t n i = σ r t n i
theorem R1.rf {r : Nat} {σ : mm_M} : R1 r σ σ := ⟨fun _ => Or.inl rfl, fun _ _ _ _ => rfl⟩
theorem R1.eq {r : Nat} {σ σ1 : mm_M} (h : σ1 = σ) : R1 r σ σ1 := by rw [h]; exact R1.rf
theorem R1.trans {r : Nat} {a b c : mm_M} (h : R1 r a b) (h2 : R1 r b c) : R1 r a c := ⟨fun n => by
  rcases h2.1 n with e | e
  · rcases h.1 n with e1 | e1
    · exact Or.inl (e.trans e1)
    · exact Or.inr (fun q hq z => e1 q hq (e.symm.trans z))
  · exact Or.inr (fun q hq z => by rw [← h.2 2 0 q (Or.inl rfl)]; exact e q hq z), fun t n i hh => (h2.2 t n i hh).trans (h.2 t n i hh)⟩
theorem R1.of {r : Nat} {σ σ1 : mm_M} (h : ∀ t n i, (t = 2 ∨ (t = 6 ∧ (i = 6 ∨ i = 3)) ∨ (t = 0 ∧ i ≠ 6) ∨ t = 1 ∨ t = 4) → σ1 r t n i = σ r t n i) : R1 r σ σ1 := ⟨fun n => Or.inl (h 6 n 3 (by omega)), fun t n i hh => h t n i (by omega)⟩
theorem run_enterJ {r n : Nat} {x v : Int32} {σ σ1 : mm_M} (h : fx_X8_enter_J24 r r n x σ = some (v, σ1)) : ∀ m, σ1 r 6 m 3 = σ r 6 m 3 ∨ ∀ q, q < 64 → σ1 r 6 m 3 = nI q → σ r 2 0 q ≠ 7 := fun m => by
  rw [fx_X8_enter_J24] at h
  obtain ⟨s1, e1, h⟩ := mm_lt_ok h
  obtain ⟨s2, e2, h⟩ := mm_lt_ok h
  obtain ⟨rfl, rfl⟩ := mm_ret h
  by_cases hm : m = n
  · right
    intro q hq z
    rw [e2, mm_u_ap, if_neg (by omega), e1, mm_u_ap, if_pos ⟨rfl, rfl, hm, rfl⟩] at z
    exact absurd z (m1_nI (by omega))
  · left
    rw [e2, mm_u_ap, if_neg (by omega), e1, mm_u_ap, if_neg (by omega)]
theorem run_enter {r n : Nat} {x v : Int32} {σ σ1 : mm_M} (h : fx_X8_enter r r n x σ = some (v, σ1)) : R1 r σ σ1 := by
  refine ⟨?_, fun t m i hh => fr_X8_enter r r n x σ v σ1 h r t m i (by unfold fw_X8_enter; omega)⟩
  rw [fx_X8_enter] at h
  by_cases c1 : x < 0
  · rw [if_pos c1] at h; exact run_enterJ h
  · rw [if_neg c1] at h
    by_cases c2 : (64 : Int32) ≤ x
    · rw [if_pos c2] at h; exact run_enterJ h
    · rw [if_neg c2] at h
      obtain ⟨hx, h⟩ := mm_gd_ok h
      by_cases c3 : σ r 2 0 x.toNatClampNeg = 7
      · rw [if_pos c3] at h; exact run_enterJ h
      · rw [if_neg c3] at h
        obtain ⟨s1, e1, h⟩ := mm_lt_ok h
        obtain ⟨rfl, rfl⟩ := mm_ret h
        intro m
        by_cases hm : m = n
        · right
          intro q hq z
          rw [e1, mm_u_ap, if_pos ⟨rfl, rfl, hm, rfl⟩] at z
          rw [z, nI_cl (by omega)] at c3
          exact c3
        · left
          rw [e1, mm_u_ap, if_neg (by omega)]
theorem run_bump {r n : Nat} {v : Int32} {σ σ1 : mm_M} (h : fx_X3_bump r n σ = some (v, σ1)) : R1 r σ σ1 := R1.of fun t m i hh => fr_X3_bump r n σ v σ1 h r t m i (by unfold fw_X3_bump; omega)
theorem run_stepL {r : Nat} {x2 x3 : Int32} : ∀ (fu : Nat) (v4 v6 v : Int32) (σ σ1 : mm_M), fx_X2_step_L75 r x2 x3 fu v4 v6 σ = some (v, σ1) → R1 r σ σ1 := by
  intro fu
  induction fu with
  | zero => intro v4 v6 v σ σ1 h; exact mm_no h
  | succ fu ih =>
    intro v4 v6 v σ σ1 h
    rw [fx_X2_step_L75] at h
    by_cases c1 : v4 ≤ v6
    · rw [if_pos c1] at h
      obtain ⟨s1, e1, h⟩ := mm_lt_ok h
      obtain ⟨rfl, rfl⟩ := mm_ret h
      exact R1.of fun t m i hh => by rw [e1, mm_u_ap, if_neg (by omega)]
    · rw [if_neg c1] at h
      obtain ⟨_, h⟩ := mm_gd_ok h
      obtain ⟨_, h⟩ := mm_gd_ok h
      obtain ⟨a, s1, e1, h⟩ := mm_bd_ok h
      obtain ⟨b, s2, e2, h⟩ := mm_bd_ok h
      obtain ⟨y, _, h⟩ := mm_li_ok h
      exact (R1.eq (fr_X1_neighbour _ _ _ _ _ e1)).trans ((run_enter e2).trans (ih _ _ _ _ _ h))
theorem run_step6 {r : Nat} {x2 x3 : Int32} : ∀ (fu : Nat) (v4 v5 v : Int32) (σ σ1 : mm_M), fx_X2_step_L6 r x2 x3 fu v4 v5 σ = some (v, σ1) → R1 r σ σ1 := by
  intro fu
  induction fu with
  | zero => intro v4 v5 v σ σ1 h; exact mm_no h
  | succ fu ih =>
    intro v4 v5 v σ σ1 h
    rw [fx_X2_step_L6] at h
    by_cases c1 : v5 = -1
    · rw [if_pos c1] at h; exact run_stepL _ _ _ _ _ _ h
    · rw [if_neg c1] at h
      by_cases c2 : (4 : Int32) ≤ v4
      · rw [if_pos c2] at h; exact run_stepL _ _ _ _ _ _ h
      · rw [if_neg c2] at h
        obtain ⟨_, h⟩ := mm_gd_ok h
        obtain ⟨y, _, h⟩ := mm_li_ok h
        obtain ⟨a, s1, e1, h⟩ := mm_bd_ok h
        have E1 := fr_X1_hasWall _ _ _ _ _ _ e1
        by_cases c3 : a = 0
        · rw [if_pos c3] at h
          obtain ⟨_, h⟩ := mm_gd_ok h
          obtain ⟨s2, e2, h⟩ := mm_lt_ok h
          obtain ⟨y2, _, h⟩ := mm_li_ok h
          obtain ⟨b, s3, e3, h⟩ := mm_bd_ok h
          obtain ⟨d, s4, e4, h⟩ := mm_bd_ok h
          have E3 := fr_X1_neighbour _ _ _ _ _ e3
          have E4 := fr_X8_cartOn _ _ _ _ _ e4
          refine R1.trans (b := s4) ?_ (ih _ _ _ _ _ h)
          rw [E4, E3, e2, E1]
          exact R1.of fun t m i hh => by rw [mm_u_ap, if_neg (by omega)]
        · rw [if_neg c3] at h
          obtain ⟨rfl, rfl⟩ := mm_ret h
          exact R1.eq E1
theorem run_step {r : Nat} {x2 x3 v : Int32} {σ σ1 : mm_M} (h : fx_X2_step r x2 x3 σ = some (v, σ1)) : R1 r σ σ1 := by
  rw [fx_X2_step] at h
  exact run_step6 _ _ _ _ _ _ h
theorem run_184 {r : Nat} {x2 v7 v : Int32} {σ σ1 : mm_M} (h : fx_X2_follow_J184 r x2 v7 σ = some (v, σ1)) : R1 r σ σ1 := by
  rw [fx_X2_follow_J184] at h
  by_cases c : v7 = 0
  · rw [if_pos c] at h
    obtain ⟨rfl, rfl⟩ := mm_ret h
    exact R1.rf
  · rw [if_neg c] at h
    obtain ⟨a, s1, e1, h⟩ := mm_bd_ok h
    obtain ⟨rfl, rfl⟩ := mm_ret h
    exact run_bump e1
theorem run_141 {r : Nat} {x2 : Int32} : ∀ (fu : Nat) (v5 v6 v7 v8 v : Int32) (σ σ1 : mm_M), fx_X2_follow_L141 r x2 fu v5 v6 v7 v8 σ = some (v, σ1) → R1 r σ σ1 := by
  intro fu
  induction fu with
  | zero => intro v5 v6 v7 v8 v σ σ1 h; exact mm_no h
  | succ fu ih =>
    intro v5 v6 v7 v8 v σ σ1 h
    rw [fx_X2_follow_L141] at h
    by_cases c1 : v6 ≤ v8
    · rw [if_pos c1] at h; exact run_184 h
    · rw [if_neg c1] at h
      by_cases c2 : v7 = 0
      · rw [if_pos c2] at h
        obtain ⟨a, s1, e1, h⟩ := mm_bd_ok h
        have E1 := fr_X3_isOut _ _ _ _ _ e1
        by_cases c3 : a = 0
        · rw [if_pos c3] at h
          obtain ⟨b, s2, e2, h⟩ := mm_bd_ok h
          refine (R1.eq E1).trans ((run_step e2).trans ?_)
          by_cases c4 : b = 0
          · rw [if_pos c4, fx_X2_follow_J176] at h
            obtain ⟨y, _, h⟩ := mm_li_ok h
            exact ih _ _ _ _ _ _ _ h
          · rw [if_neg c4, fx_X2_follow_J176] at h
            obtain ⟨y, _, h⟩ := mm_li_ok h
            exact ih _ _ _ _ _ _ _ h
        · rw [if_neg c3] at h
          exact (R1.eq E1).trans (run_184 h)
      · rw [if_neg c2] at h; exact run_184 h
theorem run_135 {r : Nat} {x2 v5 v6 v : Int32} {σ σ1 : mm_M} (h : fx_X2_follow_J135 r x2 v5 v6 σ = some (v, σ1)) : R1 r σ σ1 := by
  rw [fx_X2_follow_J135] at h
  exact run_141 _ _ _ _ _ _ _ _ h
theorem run_dir {r n : Nat} {v : Int32} {σ : mm_M} : R1 r σ (mm_u σ r 6 n 4 v) := R1.of fun t m i hh => by rw [mm_u_ap, if_neg (by omega)]
theorem run_follow {r : Nat} {x2 v : Int32} {σ σ1 : mm_M} (h : fx_X2_follow r x2 σ = some (v, σ1)) : R1 r σ σ1 := by
  rw [fx_X2_follow] at h
  obtain ⟨_, h⟩ := mm_gd_ok h
  obtain ⟨a, s1, e1, h⟩ := mm_bd_ok h
  have E1 := fr_X3_isOut _ _ _ _ _ e1
  by_cases c1 : a = 0
  · rw [if_pos c1] at h
    obtain ⟨_, h⟩ := mm_gd_ok h
    obtain ⟨y5, _, h⟩ := mm_li_ok h
    obtain ⟨y6, _, h⟩ := mm_li_ok h
    refine (R1.eq E1).trans ?_
    by_cases c2 : y5 = 3
    · rw [if_pos c2] at h
      obtain ⟨b, s2, e2, h⟩ := mm_bd_ok h
      exact (R1.eq (fr_X10_turned _ _ _ _ _ e2)).trans (run_135 h)
    · rw [if_neg c2] at h
      by_cases c3 : y5 = 4
      · rw [if_pos c3] at h
        obtain ⟨b, s2, e2, h⟩ := mm_bd_ok h
        obtain ⟨s3, e3, h⟩ := mm_lt_ok h
        exact (R1.eq (fr_X10_turned _ _ _ _ _ e2)).trans (R1.trans (e3 ▸ run_dir) (run_135 h))
      · rw [if_neg c3] at h
        by_cases c4 : y5 = 5
        · rw [if_pos c4] at h
          obtain ⟨b, s2, e2, h⟩ := mm_bd_ok h
          obtain ⟨s3, e3, h⟩ := mm_lt_ok h
          exact (R1.eq (fr_X10_turned _ _ _ _ _ e2)).trans (R1.trans (e3 ▸ run_dir) (run_135 h))
        · rw [if_neg c4] at h
          by_cases c5 : y5 = 6
          · rw [if_pos c5] at h
            obtain ⟨b, s2, e2, h⟩ := mm_bd_ok h
            obtain ⟨s3, e3, h⟩ := mm_lt_ok h
            exact (R1.eq (fr_X10_turned _ _ _ _ _ e2)).trans (R1.trans (e3 ▸ run_dir) (run_135 h))
          · rw [if_neg c5] at h
            obtain ⟨y, _, h⟩ := mm_li_ok h
            exact run_135 h
  · rw [if_neg c1] at h
    obtain ⟨rfl, rfl⟩ := mm_ret h
    exact R1.eq E1
/-! belts -/
theorem run_105 {r : Nat} : ∀ (fu : Nat) (v2 v : Int32) (σ σ1 : mm_M), fx_X0_carry_L105 r fu v2 σ = some (v, σ1) → R1 r σ σ1 := by
  intro fu
  induction fu with
  | zero => intro v2 v σ σ1 h; exact mm_no h
  | succ fu ih =>
    intro v2 v σ σ1 h
    rw [fx_X0_carry_L105] at h
    by_cases c1 : σ r 0 0 2 ≤ v2
    · rw [if_pos c1] at h
      obtain ⟨rfl, rfl⟩ := mm_ret h
      exact R1.rf
    · rw [if_neg c1] at h
      obtain ⟨_, h⟩ := mm_gd_ok h
      by_cases c2 : σ 7 19 0 v2.toNatClampNeg = 0
      · rw [if_pos c2] at h
        obtain ⟨y, _, h⟩ := mm_li_ok h
        exact ih _ _ _ _ h
      · rw [if_neg c2] at h
        obtain ⟨_, h⟩ := mm_gd_ok h
        obtain ⟨_, h⟩ := mm_gd_ok h
        obtain ⟨b, s2, e2, h⟩ := mm_bd_ok h
        obtain ⟨y, _, h⟩ := mm_li_ok h
        exact (run_enter e2).trans (ih _ _ _ _ h)
theorem run_mark {r n : Nat} {σ : mm_M} {v : Int32} : R1 r σ (mm_u σ 7 19 0 n v) := R1.of fun t m i hh => by rw [mm_u_ap, if_neg (by omega)]
theorem run_58 {r : Nat} {k48 : Int32 → mm_M → mm_R} (hk : ∀ x v σ σ1, k48 x σ = some (v, σ1) → R1 r σ σ1) : ∀ (fu : Nat) (v2 v3 v : Int32) (σ σ1 : mm_M), fx_X0_carry_L58 r k48 fu v2 v3 σ = some (v, σ1) → R1 r σ σ1 := by
  intro fu
  induction fu with
  | zero => intro v2 v3 v σ σ1 h; exact mm_no h
  | succ fu ih =>
    intro v2 v3 v σ σ1 h
    rw [fx_X0_carry_L58] at h
    by_cases c1 : σ r 0 0 2 ≤ v3
    · rw [if_pos c1] at h
      obtain ⟨y, _, h⟩ := mm_li_ok h
      exact hk _ _ _ _ h
    · rw [if_neg c1] at h
      obtain ⟨_, h⟩ := mm_gd_ok h
      by_cases c2 : σ 7 19 0 v3.toNatClampNeg = 0
      · rw [if_pos c2] at h
        obtain ⟨y, _, h⟩ := mm_li_ok h
        exact ih _ _ _ _ _ h
      · rw [if_neg c2] at h
        obtain ⟨b, s2, e2, h⟩ := mm_bd_ok h
        refine (R1.eq (fr_X0_isBlocked _ _ _ _ _ e2)).trans ?_
        by_cases c3 : b = 0
        · rw [if_pos c3] at h
          obtain ⟨y, _, h⟩ := mm_li_ok h
          exact ih _ _ _ _ _ h
        · rw [if_neg c3] at h
          obtain ⟨_, h⟩ := mm_gd_ok h
          obtain ⟨s3, e3, h⟩ := mm_lt_ok h
          obtain ⟨y, _, h⟩ := mm_li_ok h
          exact R1.trans (e3 ▸ run_mark) (ih _ _ _ _ _ h)
theorem run_48 {r : Nat} : ∀ (fu : Nat) (v2 v : Int32) (σ σ1 : mm_M), fx_X0_carry_L48 r fu v2 σ = some (v, σ1) → R1 r σ σ1 := by
  intro fu
  induction fu with
  | zero => intro v2 v σ σ1 h; exact mm_no h
  | succ fu ih =>
    intro v2 v σ σ1 h
    rw [fx_X0_carry_L48] at h
    by_cases c1 : σ r 0 0 2 ≤ v2
    · rw [if_pos c1] at h
      exact run_105 _ _ _ _ _ h
    · rw [if_neg c1] at h
      exact run_58 (fun x v σ σ1 h => ih x v σ σ1 h) _ _ _ _ _ _ h
theorem run_7 {r : Nat} : ∀ (fu : Nat) (v2 v : Int32) (σ σ1 : mm_M), fx_X0_carry_L7 r fu v2 σ = some (v, σ1) → R1 r σ σ1 := by
  intro fu
  induction fu with
  | zero => intro v2 v σ σ1 h; exact mm_no h
  | succ fu ih =>
    intro v2 v σ σ1 h
    rw [fx_X0_carry_L7] at h
    by_cases c1 : σ r 0 0 2 ≤ v2
    · rw [if_pos c1] at h
      exact run_48 _ _ _ _ _ h
    · rw [if_neg c1] at h
      obtain ⟨_, h⟩ := mm_gd_ok h
      by_cases c2 : σ 7 19 0 v2.toNatClampNeg = 0
      · rw [if_pos c2] at h
        obtain ⟨y, _, h⟩ := mm_li_ok h
        exact ih _ _ _ _ h
      · rw [if_neg c2] at h
        obtain ⟨b, s2, e2, h⟩ := mm_bd_ok h
        refine (R1.eq (fr_X0_isHindered _ _ _ _ _ e2)).trans ?_
        by_cases c3 : b = 0
        · rw [if_pos c3] at h
          obtain ⟨y, _, h⟩ := mm_li_ok h
          exact ih _ _ _ _ h
        · rw [if_neg c3] at h
          obtain ⟨_, h⟩ := mm_gd_ok h
          obtain ⟨s3, e3, h⟩ := mm_lt_ok h
          obtain ⟨y, _, h⟩ := mm_li_ok h
          exact R1.trans (e3 ▸ run_mark) (ih _ _ _ _ h)
theorem run_carry {r : Nat} {v : Int32} {σ σ1 : mm_M} (h : fx_X0_carry r σ = some (v, σ1)) : R1 r σ σ1 := by
  rw [fx_X0_carry] at h
  obtain ⟨b, s2, e2, h⟩ := mm_bd_ok h
  exact R1.trans (R1.of fun t m i hh => fr_X0_askAll r σ b s2 e2 r t m i (by unfold fw_X0_askAll; omega)) (run_7 _ _ _ _ _ h)
/-! the round's end -/
theorem run_pit {r : Nat} {x v : Int32} {σ σ1 : mm_M} (h : fx_X1_isPit r x σ = some (v, σ1)) (hv : v = 0) : ∀ q, q < 64 → x = nI q → σ r 2 0 q ≠ 7 := by
  intro q hq ex z
  subst ex
  rw [fx_X1_isPit, if_neg (cell_nI hq).1, if_neg (cell_nI hq).2, mm_gd_t (mm_ix_n hq (by omega)), nI_cl (by omega), if_pos z] at h
  obtain ⟨e, _⟩ := mm_ret h
  rw [hv] at e
  exact absurd e (by decide)
theorem run_find {r : Nat} {x1 : Int32} : ∀ (fu : Nat) (v2 v : Int32) (σ σ1 : mm_M), fx_X8_cellToComeBack_L24 r x1 fu v2 σ = some (v, σ1) → ∀ q, q < 64 → v = nI q → σ r 2 0 q ≠ 7 := by
  intro fu
  induction fu with
  | zero => intro v2 v σ σ1 h; exact mm_no h
  | succ fu ih =>
    intro v2 v σ σ1 h
    rw [fx_X8_cellToComeBack_L24] at h
    by_cases c1 : (64 : Int32) ≤ v2
    · rw [if_pos c1] at h
      obtain ⟨rfl, rfl⟩ := mm_ret h
      exact fun q hq z => absurd z (m1_nI (by omega))
    · rw [if_neg c1] at h
      obtain ⟨a, s1, e1, h1⟩ := mm_bd_ok h
      clear h
      have E1 := fr_X1_isPit _ _ _ _ _ e1
      subst E1
      by_cases c2 : a = 0
      · rw [if_pos c2] at h1
        obtain ⟨b, s2, e2, h2⟩ := mm_bd_ok h1
        clear h1
        have E2 := fr_X8_cartOn _ _ _ _ _ e2
        subst E2
        by_cases c3 : b = -1
        · rw [if_pos c3] at h2
          obtain ⟨rfl, rfl⟩ := mm_ret h2
          exact run_pit e1 c2
        · rw [if_neg c3] at h2
          obtain ⟨y, _, h2⟩ := mm_li_ok h2
          exact ih _ _ _ _ h2
      · rw [if_neg c2] at h1
        obtain ⟨y, _, h1⟩ := mm_li_ok h1
        exact ih _ _ _ _ h1
theorem run_comeTo {r : Nat} {x1 v : Int32} {σ σ1 : mm_M} (h : fx_X8_cellToComeBack r x1 σ = some (v, σ1)) : ∀ q, q < 64 → v = nI q → σ r 2 0 q ≠ 7 := by
  rw [fx_X8_cellToComeBack] at h
  obtain ⟨a, s1, e1, h1⟩ := mm_bd_ok h
  clear h
  have E1 := fr_X1_isPit _ _ _ _ _ e1
  subst E1
  by_cases c2 : a = 0
  · rw [if_pos c2] at h1
    obtain ⟨b, s2, e2, h2⟩ := mm_bd_ok h1
    clear h1
    have E2 := fr_X8_cartOn _ _ _ _ _ e2
    subst E2
    by_cases c3 : b = -1
    · rw [if_pos c3] at h2
      obtain ⟨rfl, rfl⟩ := mm_ret h2
      exact run_pit e1 c2
    · rw [if_neg c3] at h2
      exact run_find _ _ _ _ _ h2
  · rw [if_neg c2] at h1
    exact run_find _ _ _ _ _ h1
theorem run_back {r : Nat} : ∀ (fu : Nat) (v1 v : Int32) (σ σ1 : mm_M), fx_X8_bringBack_L2 r fu v1 σ = some (v, σ1) → R1 r σ σ1 := by
  intro fu
  induction fu with
  | zero => intro v1 v σ σ1 h; exact mm_no h
  | succ fu ih =>
    intro v1 v σ σ1 h
    rw [fx_X8_bringBack_L2] at h
    by_cases c1 : σ r 0 0 2 ≤ v1
    · rw [if_pos c1] at h
      obtain ⟨rfl, rfl⟩ := mm_ret h
      exact R1.rf
    · rw [if_neg c1] at h
      obtain ⟨_, h⟩ := mm_gd_ok h
      obtain ⟨a, s1, e1, h1⟩ := mm_bd_ok h
      clear h
      have E1 := fr_X3_isOut _ _ _ _ _ e1
      subst E1
      by_cases c2 : a = 0
      · rw [if_pos c2] at h1
        obtain ⟨y, _, h1⟩ := mm_li_ok h1
        exact ih _ _ _ _ h1
      · rw [if_neg c2] at h1
        obtain ⟨w, s2, e2, h2⟩ := mm_bd_ok h1
        clear h1
        have E2 := fr_X8_cellToComeBack _ _ _ _ _ e2
        have hw := run_comeTo e2
        subst E2
        obtain ⟨s3, e3, h2⟩ := mm_lt_ok h2
        obtain ⟨s4, e4, h2⟩ := mm_lt_ok h2
        obtain ⟨s5, e5, h2⟩ := mm_lt_ok h2
        obtain ⟨b, s6, e6, h2⟩ := mm_bd_ok h2
        obtain ⟨y, _, h2⟩ := mm_li_ok h2
        have F6 : ∀ t m i, t ≠ 8 → s6 r t m i = s5 r t m i := fun t m i ht => fr_X3_emptyRegisters _ _ _ _ _ _ e6 r t m i (by unfold fw_X3_emptyRegisters; omega)
        refine R1.trans (b := s6) ⟨fun m => ?_, fun t m i hh => ?_⟩ (ih _ _ _ _ h2)
        · rw [F6 6 m 3 (by omega), e5, mm_u_ap, if_neg (by omega), e4, mm_u_ap, if_neg (by omega), e3, mm_u_ap]
          by_cases hm : m = v1.toNatClampNeg
          · rw [if_pos ⟨rfl, rfl, hm, rfl⟩]
            exact Or.inr hw
          · rw [if_neg (by omega)]
            exact Or.inl rfl
        · rw [F6 t m i (by omega), e5, mm_u_ap, if_neg (by omega), e4, mm_u_ap, if_neg (by omega), e3, mm_u_ap, if_neg (by omega)]
/-! flags -/
def TQ (r : Nat) (σ σ1 : mm_M) : Prop := ∀ n, σ1 r 6 n 6 = σ r 6 n 6 ∨ ∃ t u, t ≤ u ∧ 0 < u ∧ u ≤ 4 ∧ σ r 6 n 6 = nI t ∧ σ1 r 6 n 6 = nI u
theorem TQ.rf {r : Nat} {σ : mm_M} : TQ r σ σ := fun _ => Or.inl rfl
theorem TQ.eq {r : Nat} {σ σ1 : mm_M} (h : ∀ n, σ1 r 6 n 6 = σ r 6 n 6) : TQ r σ σ1 := fun n => Or.inl (h n)
theorem TQ.trans {r : Nat} {a b c : mm_M} (h : TQ r a b) (h2 : TQ r b c) : TQ r a c := fun n => by
  rcases h2 n with e | ⟨t, u, a1, a2, a3, a4, a5⟩
  · rcases h n with e1 | ⟨t, u, a1, a2, a3, a4, a5⟩
    · exact Or.inl (e.trans e1)
    · exact Or.inr ⟨t, u, a1, a2, a3, a4, e.trans a5⟩
  · rcases h n with e1 | ⟨t2, u2, b1, b2, b3, b4, b5⟩
    · exact Or.inr ⟨t, u, a1, a2, a3, e1.symm.trans a4, a5⟩
    · have : u2 = t := by
        by_cases ht : t < 1000000
        · exact (nI_e (by omega) ht).mp (b5.symm.trans a4)
        · omega
      subst this
      exact Or.inr ⟨t2, u, by omega, a2, a3, b4, a5⟩
def WQ (r : Nat) (σ : mm_M) : Prop := σ r 0 0 7 = -1 ∨ ∃ n u, n < 4 ∧ 0 < u ∧ u ≤ 4 ∧ σ r 0 0 7 = nI n ∧ nI n < σ r 0 0 2 ∧ σ r 6 n 6 = nI u
theorem WQ.mv {r : Nat} {σ σ1 : mm_M} (h : WQ r σ) (e7 : σ1 r 0 0 7 = σ r 0 0 7) (e2 : σ1 r 0 0 2 = σ r 0 0 2) (hT : TQ r σ σ1) : WQ r σ1 := by
  rcases h with h | ⟨n, u, a1, a2, a3, a4, a5, a6⟩
  · exact Or.inl (e7.trans h)
  · rcases hT n with e | ⟨t, w, b1, b2, b3, b4, b5⟩
    · exact Or.inr ⟨n, u, a1, a2, a3, e7.trans a4, by rw [e2]; exact a5, e.trans a6⟩
    · exact Or.inr ⟨n, w, a1, b2, b3, e7.trans a4, by rw [e2]; exact a5, b5⟩
theorem run_touchL {r : Nat} : ∀ (fu : Nat) (v1 v : Int32) (σ σ1 : mm_M), fx_X8_touchFlags_L2 r fu v1 σ = some (v, σ1) → TQ r σ σ1 ∧ (WQ r σ → WQ r σ1) := by
  intro fu
  induction fu with
  | zero => intro v1 v σ σ1 h; exact mm_no h
  | succ fu ih =>
    intro v1 v σ σ1 h
    rw [fx_X8_touchFlags_L2] at h
    by_cases c1 : σ r 0 0 2 ≤ v1
    · rw [if_pos c1] at h
      obtain ⟨rfl, rfl⟩ := mm_ret h
      exact ⟨TQ.rf, fun z => z⟩
    · rw [if_neg c1] at h
      obtain ⟨hi, h⟩ := mm_gd_ok h
      by_cases c2 : σ r 1 0 3 ≤ σ r 6 v1.toNatClampNeg 6
      · rw [if_pos c2] at h
        obtain ⟨y, _, h⟩ := mm_li_ok h
        exact ih _ _ _ _ h
      · rw [if_neg c2] at h
        obtain ⟨ht, h⟩ := mm_gd_ok h
        by_cases c3 : σ r 4 0 (σ r 6 v1.toNatClampNeg 6).toNatClampNeg = σ r 6 v1.toNatClampNeg 3
        · rw [if_pos c3] at h
          obtain ⟨s1, e1, h⟩ := mm_lt_ok h
          obtain ⟨t, ht4, et⟩ : ∃ t, t < 4 ∧ σ r 6 v1.toNatClampNeg 6 = nI t := by
            have a := mm_ix_lt ht
            simp only [mm_ix, Bool.and_eq_true, decide_eq_true_eq] at ht
            obtain ⟨j, hj, e⟩ := nI_of ht.1
            rw [e, nI_clamp hj] at a
            exact ⟨j, a, e⟩
          obtain ⟨n, hn4, en⟩ : ∃ n, n < 4 ∧ v1 = nI n := by
            have a := mm_ix_lt hi
            simp only [mm_ix, Bool.and_eq_true, decide_eq_true_eq] at hi
            obtain ⟨j, hj, e⟩ := nI_of hi.1
            rw [e, nI_clamp hj] at a
            exact ⟨j, a, e⟩
          have hn : v1.toNatClampNeg = n := by rw [en, nI_cl (by omega)]
          rw [hn] at et e1 h
          have q6 : s1 r 6 n 6 = nI (t + 1) := by rw [e1, mm_u_ap, if_pos ⟨rfl, rfl, rfl, rfl⟩, et, nI_1]
          have q2 : s1 r 0 0 2 = σ r 0 0 2 := by rw [e1, mm_u_ap, if_neg (by omega)]
          have q7 : s1 r 0 0 7 = σ r 0 0 7 := by rw [e1, mm_u_ap, if_neg (by omega)]
          have T1 : TQ r σ s1 := fun m => by
            by_cases hm : m = n
            · subst hm
              exact Or.inr ⟨t, t + 1, by omega, by omega, by omega, et, q6⟩
            · left
              rw [e1, mm_u_ap, if_neg (by omega)]
          by_cases c4 : s1 r 0 0 7 = -1
          · rw [if_pos c4] at h
            by_cases c5 : s1 r 6 n 6 = s1 r 1 0 3
            · rw [if_pos c5] at h
              obtain ⟨s2, e2, h⟩ := mm_lt_ok h
              obtain ⟨y, _, h⟩ := mm_li_ok h
              have T2 : TQ r s1 s2 := TQ.eq fun m => by rw [e2, mm_u_ap, if_neg (by omega)]
              obtain ⟨A, B⟩ := ih _ _ _ _ h
              refine ⟨T1.trans (T2.trans A), fun _ => B (Or.inr ⟨n, t + 1, hn4, by omega, by omega, ?_, ?_, ?_⟩)⟩
              · rw [e2, mm_u_ap, if_pos ⟨rfl, rfl, rfl, rfl⟩, en]
              · rw [e2, mm_u_ap, if_neg (by omega), q2, ← en]
                exact Int32.not_le.mp c1
              · rw [e2, mm_u_ap, if_neg (by omega)]; exact q6
            · rw [if_neg c5] at h
              obtain ⟨y, _, h⟩ := mm_li_ok h
              obtain ⟨A, B⟩ := ih _ _ _ _ h
              exact ⟨T1.trans A, fun z => B (z.mv q7 q2 T1)⟩
          · rw [if_neg c4] at h
            obtain ⟨y, _, h⟩ := mm_li_ok h
            obtain ⟨A, B⟩ := ih _ _ _ _ h
            exact ⟨T1.trans A, fun z => B (z.mv q7 q2 T1)⟩
        · rw [if_neg c3] at h
          obtain ⟨y, _, h⟩ := mm_li_ok h
          exact ih _ _ _ _ h
/-! all of it -/
def R2 (r : Nat) (σ σ1 : mm_M) : Prop := (∀ n, σ1 r 6 n 3 = σ r 6 n 3 ∨ ∀ q, q < 64 → σ1 r 6 n 3 = nI q → σ r 2 0 q ≠ 7) ∧ (∀ t n i, (t = 2 ∨ (t = 0 ∧ i = 2) ∨ t = 1 ∨ t = 4) → σ1 r t n i = σ r t n i) ∧ TQ r σ σ1 ∧ (WQ r σ → WQ r σ1) ∧ σ1 r 0 0 5 = σ r 0 0 5 + 1 ∧ ((σ r 0 0 3 + 1 = 5 ∧ σ1 r 0 0 3 = 0 ∧ σ1 r 0 0 4 = σ r 0 0 4 + 1) ∨ (σ r 0 0 3 + 1 ≠ 5 ∧ σ1 r 0 0 3 = σ r 0 0 3 + 1 ∧ σ1 r 0 0 4 = σ r 0 0 4))
theorem R1.wq {r : Nat} {σ σ1 : mm_M} (h : R1 r σ σ1) (z : WQ r σ) : WQ r σ1 := z.mv (h.2 0 0 7 (by omega)) (h.2 0 0 2 (by omega)) (TQ.eq fun n => h.2 6 n 6 (by omega))
theorem R1.r2 {r : Nat} {a b c : mm_M} (h : R1 r a b) (h2 : R2 r b c) : R2 r a c := by
  obtain ⟨a1, a2, a3, a4, a5, a6⟩ := h2
  have e3 := h.2 0 0 3 (by omega)
  have e4 := h.2 0 0 4 (by omega)
  have e5 := h.2 0 0 5 (by omega)
  rw [e3, e4] at a6
  refine ⟨fun n => ?_, fun t n i hh => (a2 t n i hh).trans (h.2 t n i (by omega)), TQ.trans (TQ.eq fun n => h.2 6 n 6 (by omega)) a3, fun z => a4 (h.wq z), by rw [← e5]; exact a5, a6⟩
  rcases a1 n with e | e
  · rcases h.1 n with e1 | e1
    · exact Or.inl (e.trans e1)
    · exact Or.inr (fun q hq z => e1 q hq (e.symm.trans z))
  · exact Or.inr (fun q hq z => by rw [← h.2 2 0 q (Or.inl rfl)]; exact e q hq z)
theorem R2.r1 {r : Nat} {a b c : mm_M} (h : R2 r a b) (h2 : R1 r b c) : R2 r a c := by
  obtain ⟨a1, a2, a3, a4, a5, a6⟩ := h
  refine ⟨fun n => ?_, fun t n i hh => (h2.2 t n i (by omega)).trans (a2 t n i hh), a3.trans (TQ.eq fun n => h2.2 6 n 6 (by omega)), fun z => h2.wq (a4 z), by rw [h2.2 0 0 5 (by omega)]; exact a5, by rw [h2.2 0 0 3 (by omega), h2.2 0 0 4 (by omega)]; exact a6⟩
  rcases h2.1 n with e | e
  · rcases a1 n with e1 | e1
    · exact Or.inl (e.trans e1)
    · exact Or.inr (fun q hq z => e1 q hq (e.symm.trans z))
  · exact Or.inr (fun q hq z => by rw [← a2 2 0 q (Or.inl rfl)]; exact e q hq z)
theorem run_cnt {r : Nat} {v w : Int32} {σ σ1 σ2 : mm_M} (h0 : fx_X8_touchFlags r σ = some (w, σ1)) (h : fx_X8_countPhase r σ1 = some (v, σ2)) : R2 r σ σ2 := by
  have F0 : ∀ t n i, ¬ ((t = 0 ∧ i = 7) ∨ (t = 6 ∧ i = 6)) → σ1 r t n i = σ r t n i := fun t n i hh => fr_X8_touchFlags r σ w σ1 h0 r t n i (by unfold fw_X8_touchFlags; omega)
  have F1 : ∀ t n i, ¬ (t = 0 ∧ (i = 3 ∨ i = 4 ∨ i = 5)) → σ2 r t n i = σ1 r t n i := fun t n i hh => fr_X8_countPhase r σ1 v σ2 h r t n i (by unfold fw_X8_countPhase; omega)
  rw [fx_X8_touchFlags] at h0
  obtain ⟨T, Wi⟩ := run_touchL _ _ _ _ _ h0
  have T2 : TQ r σ1 σ2 := TQ.eq fun n => F1 6 n 6 (by omega)
  refine ⟨fun n => Or.inl ((F1 _ _ _ (by omega)).trans (F0 _ _ _ (by omega))), fun t n i hh => (F1 _ _ _ (by omega)).trans (F0 _ _ _ (by omega)), T.trans T2, fun z => (Wi z).mv (F1 _ _ _ (by omega)) (F1 _ _ _ (by omega)) T2, ?_⟩
  rw [← F0 0 0 5 (by omega), ← F0 0 0 3 (by omega), ← F0 0 0 4 (by omega)]
  rw [fx_X8_countPhase] at h
  obtain ⟨s1, e1, h⟩ := mm_lt_ok h
  obtain ⟨s2, e2, h⟩ := mm_lt_ok h
  have g3 : s2 r 0 0 3 = σ1 r 0 0 3 + 1 := by rw [e2, mm_u_ap, if_pos ⟨rfl, rfl, rfl, rfl⟩, e1, mm_u_ap, if_neg (by omega)]
  have g4 : s2 r 0 0 4 = σ1 r 0 0 4 := by rw [e2, mm_u_ap, if_neg (by omega), e1, mm_u_ap, if_neg (by omega)]
  have g5 : s2 r 0 0 5 = σ1 r 0 0 5 + 1 := by rw [e2, mm_u_ap, if_neg (by omega), e1, mm_u_ap, if_pos ⟨rfl, rfl, rfl, rfl⟩]
  by_cases c : s2 r 0 0 3 = 5
  · rw [if_pos c] at h
    obtain ⟨s3, e3, h⟩ := mm_lt_ok h
    obtain ⟨s4, e4, h⟩ := mm_lt_ok h
    obtain ⟨rfl, rfl⟩ := mm_ret h
    refine ⟨?_, Or.inl ⟨g3.symm.trans c, ?_, ?_⟩⟩
    · rw [e4, mm_u_ap, if_neg (by omega), e3, mm_u_ap, if_neg (by omega)]; exact g5
    · rw [e4, mm_u_ap, if_neg (by omega), e3, mm_u_ap, if_pos ⟨rfl, rfl, rfl, rfl⟩]
    · rw [e4, mm_u_ap, if_pos ⟨rfl, rfl, rfl, rfl⟩, e3, mm_u_ap, if_neg (by omega), g4]
  · rw [if_neg c] at h
    obtain ⟨rfl, rfl⟩ := mm_ret h
    exact ⟨g5, Or.inr ⟨fun z => c (g3.trans z), g3, g4⟩⟩
theorem run_92 {r : Nat} {v2 v : Int32} {σ σ1 : mm_M} (h : fx_X7_runNext_J92 r v2 σ = some (v, σ1)) : σ1 = σ := by
  rw [fx_X7_runNext_J92] at h
  obtain ⟨a, s1, e1, h⟩ := mm_bd_ok h
  obtain ⟨rfl, rfl⟩ := mm_ret h
  exact fr_X8_timesOut _ _ _ _ e1
theorem run_27 {r : Nat} : ∀ (fu : Nat) (v2 v3 v4 v : Int32) (σ σ1 : mm_M), fx_X7_runNext_L27 r fu v2 v3 v4 σ = some (v, σ1) → R2 r σ σ1 := by
  intro fu
  induction fu with
  | zero => intro v2 v3 v4 v σ σ1 h; exact mm_no h
  | succ fu ih =>
    intro v2 v3 v4 v σ σ1 h
    rw [fx_X7_runNext_L27] at h
    by_cases c1 : v3 ≤ v4
    · rw [if_pos c1] at h
      obtain ⟨a5, s5, e5, h⟩ := mm_bd_ok h
      obtain ⟨a6, s6, e6, h⟩ := mm_bd_ok h
      obtain ⟨a7, s7, e7, h⟩ := mm_bd_ok h
      obtain ⟨a8, s8, e8, h⟩ := mm_bd_ok h
      have G : R1 r s5 s6 := R1.of fun t n i hh => fr_X8_turnOnGears r s5 a6 s6 e6 r t n i (by unfold fw_X8_turnOnGears; omega)
      have K : R2 r σ s8 := (run_carry e5).r2 (G.r2 (run_cnt e7 e8))
      by_cases c2 : s8 r 0 0 3 = 0
      · rw [if_pos c2] at h
        obtain ⟨a9, s9, e9, h⟩ := mm_bd_ok h
        obtain ⟨a10, s10, e10, h⟩ := mm_bd_ok h
        have G2 : R1 r s8 s9 := R1.of fun t n i hh => fr_X8_repairAndClear r s8 a9 s9 e9 r t n i (by unfold fw_X8_repairAndClear; omega)
        have e := run_92 h
        subst e
        rw [fx_X8_bringBack] at e10
        exact (K.r1 G2).r1 (run_back _ _ _ _ _ e10)
      · rw [if_neg c2] at h
        have e := run_92 h
        subst e
        exact K
    · rw [if_neg c1] at h
      obtain ⟨_, h⟩ := mm_gd_ok h
      obtain ⟨a, s1, e1, h⟩ := mm_bd_ok h
      obtain ⟨y, _, h⟩ := mm_li_ok h
      exact (run_follow e1).r2 (ih _ _ _ _ _ _ h)
theorem run_R2 {r : Nat} {v : Int32} {σ σ1 : mm_M} (h0 : σ r 0 0 2 ≠ 0) (h : fx_X7_runNext r σ = some (v, σ1)) : R2 r σ σ1 := by
  rw [fx_X7_runNext, if_neg h0] at h
  obtain ⟨a, s1, e1, h1⟩ := mm_bd_ok h
  clear h
  obtain ⟨b, s2, e2, h2⟩ := mm_bd_ok h1
  clear h1
  have E1 := fr_X8_timesOut _ _ _ _ e1
  subst E1
  exact R1.r2 (R1.of fun t n i hh => fr_X2_arrange r s1 b s2 e2 r t n i (by unfold fw_X2_arrange; omega)) (run_27 _ _ _ _ _ _ _ h2)
