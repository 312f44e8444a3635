theorem lock_L {n d : Nat} {S : Nat → Int32} {σ μ : mm_M} {r : Nat} (hn : n < 4) (hd : d < 10) (e3 : S (139 + 17 * n + 3) = nI d) : ∀ (e j fu fu2 m : Nat), j + e = 5 → uN d ≤ j → e < fu → e < fu2 → m < 2 ^ j → ∃ m1, fx_X3_lockedSet_L7 r n fu (nI m) (nI j) σ = some (nI m1, σ) ∧ fx_X11_locked_L4 (nI n) fu2 (nI m) (nI j) (mw μ S) = some (nI m1, mw μ S) := by
  have e31 : mw μ S 10 31 0 (139 + 17 * n + 3) = nI d := by rw [mw_row]; exact e3
  intro e
  induction e with
  | zero =>
    intro j fu fu2 m hk hu hf hf2 hm
    obtain ⟨g, rfl⟩ : ∃ g, fu = g + 1 := ⟨fu - 1, by omega⟩
    obtain ⟨g2, rfl⟩ : ∃ g, fu2 = g + 1 := ⟨fu2 - 1, by omega⟩
    have : j = 5 := by omega
    subst this
    rw [fx_X3_lockedSet_L7, if_pos (show (5 : Int32) ≤ nI 5 by decide), fx_X11_locked_L4, if_pos (show (5 : Int32) ≤ nI 5 by decide)]
    exact ⟨m, rfl, rfl⟩
  | succ e ih =>
    intro j fu fu2 m hk hu hf hf2 hm
    obtain ⟨g, rfl⟩ : ∃ g, fu = g + 1 := ⟨fu - 1, by omega⟩
    obtain ⟨g2, rfl⟩ : ∃ g, fu2 = g + 1 := ⟨fu2 - 1, by omega⟩
    have hj : j < 5 := by omega
    have hp : 2 ^ (j + 1) = 2 ^ j * 2 := Nat.pow_succ 2 j
    have hm32 : m < 32 := by
      have : 2 ^ j ≤ 2 ^ 5 := Nat.pow_le_pow_right (by omega) (by omega)
      omega
    have h5 : ¬ (5 : Int32) ≤ nI j := nle_lit (x := 5) (b := 5) rfl (by omega) (by omega)
    rw [fx_X3_lockedSet_L7, if_neg h5, mm_li_e, mm_li_e, nI_1, or_bit ⟨j, hj⟩ ⟨m, hm32⟩ hm, fx_X11_locked_L4, if_neg h5, md_isLocked _ _ rfl hn, mm_bd_some, e31, if_pos ((lock_iff hd hj).mpr hu), if_neg (show ¬ (1 : Int32) = 0 by decide), fx_X11_locked_J26, mm_li_e, mm_li_e, nI_1, or_bit ⟨j, hj⟩ ⟨m, hm32⟩ hm]
    exact ih (j + 1) g g2 (m + 2 ^ j) (by omega) (by omega) (by omega) (by omega) (by omega)
theorem lock_pre {n d : Nat} {S : Nat → Int32} {μ : mm_M} (hn : n < 4) (hd : d < 10) (e3 : S (139 + 17 * n + 3) = nI d) : ∀ (e j g : Nat), j + e = uN d → fx_X11_locked_L4 (nI n) (e + g) 0 (nI j) (mw μ S) = fx_X11_locked_L4 (nI n) g 0 (nI (uN d)) (mw μ S) := by
  have e31 : mw μ S 10 31 0 (139 + 17 * n + 3) = nI d := by rw [mw_row]; exact e3
  have hu := uN_5 d
  intro e
  induction e with
  | zero =>
    intro j g hk
    have : j = uN d := by omega
    rw [this, Nat.zero_add]
  | succ e ih =>
    intro j g hk
    have hj : j < 5 := by omega
    have h5 : ¬ (5 : Int32) ≤ nI j := nle_lit (x := 5) (b := 5) rfl (by omega) (by omega)
    have ef : e + 1 + g = (e + g) + 1 := by omega
    rw [ef, fx_X11_locked_L4, if_neg h5, md_isLocked _ _ rfl hn, mm_bd_some, e31, if_neg (fun z => absurd ((lock_iff hd hj).mp z) (by omega)), if_pos rfl, fx_X11_locked_J26, mm_li_e, mm_li_e, nI_1, show (0 : Int32) ||| 0 = 0 by decide]
    exact ih (j + 1) g (by omega)
theorem J_cartOf {k : Nat} {σ : mm_M} (hJ : JJ k σ) (a b : Int32) : ∃ v σ1 σ2, fx_X10_cartOf a b σ = some (v, σ1) ∧ fx_X11_cartOf a b σ1 = some (v, σ2) ∧ JJ (k + 1) σ2 := by
  refine J_same (cl := fx_X10_cartOf a b) (mo := fx_X11_cartOf a b) hJ ?_
  obtain ⟨_, ⟨c, f, ph, hW, hR, hp, hph⟩, _⟩ := hJ
  generalize σ 10 31 0 = S at *
  have hc4 := hW.c4
  rw [fx_X10_cartOf, cc_hasCart 0 a σ (hR.s0.trans hW.s0), mm_bd_some, fx_X11_cartOf, md_isCart a (mw σ S) (by rw [mw_row]; exact hW.s0) hc4, mm_bd_some]
  by_cases ha : (0 : Int32) ≤ a ∧ a < nI c
  · rw [if_pos ha, if_neg (show ¬ (1 : Int32) = 0 by decide), if_neg (show ¬ (1 : Int32) = 0 by decide), cc_isWithin, mm_bd_some, md_in, mm_bd_some]
    by_cases hb : (0 : Int32) ≤ b ∧ b ≤ 8
    · rw [if_pos hb, if_neg (show ¬ (1 : Int32) = 0 by decide), if_neg (show ¬ (1 : Int32) = 0 by decide)]
      obtain ⟨n, hn, rfl⟩ := i32_isN (N := c) (Int32.not_lt.mpr ha.1) ha.2 (by omega)
      obtain ⟨j, hj, rfl⟩ := in_nat (N := 8) (by omega) hb
      have ec : ∀ k, k < 7 → σ 0 6 n (k + 2) = S (139 + 17 * n + k) := fun k hk => hR.ct hn hk
      have e1 : σ 0 6 n 3 = S (139 + 17 * n + 1) := ec 1 (by omega)
      have of : ∀ (x : Int32) k, x = nI k → k < 7 → (mm_bd (fx_X11_of (nI n) x (mw σ S)) fun r_14 s_14 => (some (r_14, s_14))) = some (S (139 + 17 * n + k), mw σ S) := fun x k hx hk => by rw [bd_id, mo_of σ S rfl hx (by omega)]
      rw [mm_gd_t (mm_ix_n (by omega) (by omega)), nI_cl (by omega), fx_X3_value, bd_id]
      rcases (show j = 0 ∨ j = 1 ∨ j = 2 ∨ j = 3 ∨ j = 4 ∨ j = 5 ∨ j = 6 ∨ j = 7 ∨ j = 8 by omega) with rfl | rfl | rfl | rfl | rfl | rfl | rfl | rfl | rfl
      · rw [if_pos (show nI 0 = (0 : Int32) by decide), if_pos (show nI 0 = (0 : Int32) by decide), cc_isOut, mm_bd_some, e1, mo_isOut σ S rfl (by omega), mm_bd_some]
        by_cases ho : S (139 + 17 * n + 1) = -1
        · rw [if_pos ho, if_neg (show ¬ (1 : Int32) = 0 by decide), if_pos ((out_iff (hW.ct hn)).mpr ho), if_neg (show ¬ (1 : Int32) = 0 by decide)]
          exact ⟨_, rfl, rfl⟩
        · rw [if_neg ho, if_pos rfl, if_neg (fun z => ho ((out_iff (hW.ct hn)).mp z)), if_pos rfl, of _ 1 (by decide) (by omega)]
          exact ⟨_, rfl, rfl⟩
      · rw [if_neg (show ¬ nI 1 = (0 : Int32) by decide), if_pos (show nI 1 = (1 : Int32) by decide), if_neg (show ¬ nI 1 = (0 : Int32) by decide), if_pos (show nI 1 = (1 : Int32) by decide), cc_isOut, mm_bd_some, e1, mo_isOut σ S rfl (by omega), mm_bd_some]
        by_cases ho : S (139 + 17 * n + 1) = -1
        · rw [if_pos ho, if_neg (show ¬ (1 : Int32) = 0 by decide), if_pos ((out_iff (hW.ct hn)).mpr ho), if_neg (show ¬ (1 : Int32) = 0 by decide)]
          exact ⟨_, rfl, rfl⟩
        · rw [if_neg ho, if_pos rfl, if_neg (fun z => ho ((out_iff (hW.ct hn)).mp z)), if_pos rfl, of _ 2 (by decide) (by omega), show σ 0 6 n 4 = _ from ec 2 (by omega)]
          exact ⟨_, rfl, rfl⟩
      · iterate 2 rw [if_neg (show ¬ nI 2 = (0 : Int32) by decide), if_neg (show ¬ nI 2 = (1 : Int32) by decide), if_pos (show nI 2 = (2 : Int32) by decide)]
        rw [of _ 3 (by decide) (by omega), show σ 0 6 n 5 = _ from ec 3 (by omega)]
        exact ⟨_, rfl, rfl⟩
      · iterate 2 rw [if_neg (show ¬ nI 3 = (0 : Int32) by decide), if_neg (show ¬ nI 3 = (1 : Int32) by decide), if_neg (show ¬ nI 3 = (2 : Int32) by decide), if_pos (show nI 3 = (3 : Int32) by decide)]
        rw [of _ 4 (by decide) (by omega), show σ 0 6 n 6 = _ from ec 4 (by omega)]
        exact ⟨_, rfl, rfl⟩
      · iterate 2 rw [if_neg (show ¬ nI 4 = (0 : Int32) by decide), if_neg (show ¬ nI 4 = (1 : Int32) by decide), if_neg (show ¬ nI 4 = (2 : Int32) by decide), if_neg (show ¬ nI 4 = (3 : Int32) by decide), if_pos (show nI 4 = (4 : Int32) by decide)]
        rw [of _ 0 (by decide) (by omega), show σ 0 6 n 2 = _ from ec 0 (by omega)]
        exact ⟨_, rfl, rfl⟩
      · iterate 2 rw [if_neg (show ¬ nI 5 = (0 : Int32) by decide), if_neg (show ¬ nI 5 = (1 : Int32) by decide), if_neg (show ¬ nI 5 = (2 : Int32) by decide), if_neg (show ¬ nI 5 = (3 : Int32) by decide), if_neg (show ¬ nI 5 = (4 : Int32) by decide), if_pos (show nI 5 = (5 : Int32) by decide)]
        obtain ⟨d, hd, ed⟩ : isN (S (139 + 17 * n + 3)) 10 := (hW.ct hn).2.2.2.1
        have e5 : σ 0 6 n 5 = nI d := (ec 3 (by omega)).trans ed
        have hu := uN_5 d
        obtain ⟨m1, x1, x2⟩ := lock_L (r := 0) (σ := σ) (μ := σ) (show n < 4 by omega) hd ed (5 - uN d) (uN d) mm_FU (mm_FU - uN d) 0 (by omega) (Nat.le_refl _) (by unfold mm_FU; omega) (by unfold mm_FU; omega) (Nat.two_pow_pos _)
        have pre := lock_pre (μ := σ) (show n < 4 by omega) hd ed (uN d) 0 (mm_FU - uN d) (by omega)
        have ef : uN d + (mm_FU - uN d) = mm_FU := by unfold mm_FU; omega
        rw [ef] at pre
        rw [bd_id, bd_id, fx_X3_lockedSet, cc_unlocked hd e5, mm_bd_some, show fx_X3_lockedSet_L7 0 n mm_FU 0 (nI (uN d)) σ = _ from x1, fx_X11_locked, show fx_X11_locked_L4 (nI n) mm_FU 0 0 (mw σ S) = _ from pre, show fx_X11_locked_L4 (nI n) (mm_FU - uN d) 0 (nI (uN d)) (mw σ S) = _ from x2]
        exact ⟨_, rfl, rfl⟩
      · iterate 2 rw [if_neg (show ¬ nI 6 = (0 : Int32) by decide), if_neg (show ¬ nI 6 = (1 : Int32) by decide), if_neg (show ¬ nI 6 = (2 : Int32) by decide), if_neg (show ¬ nI 6 = (3 : Int32) by decide), if_neg (show ¬ nI 6 = (4 : Int32) by decide), if_neg (show ¬ nI 6 = (5 : Int32) by decide), if_pos (show nI 6 = (6 : Int32) by decide)]
        obtain ⟨m1, hm1, s1, s2⟩ := set_L (μ := σ) hW hR hn 5 0 mm_FU mm_FU 0 (by omega) (by unfold mm_FU; omega) (by unfold mm_FU; omega) (by omega)
        rw [bd_id, bd_id, fx_X3_cardSet, show fx_X3_cardSet_L4 0 n mm_FU 0 0 _ = _ from s1, fx_X11_withCards, show fx_X11_withCards_L4 (nI n) mm_FU 0 0 _ = _ from s2]
        exact ⟨_, rfl, rfl⟩
      · iterate 2 rw [if_neg (show ¬ nI 7 = (0 : Int32) by decide), if_neg (show ¬ nI 7 = (1 : Int32) by decide), if_neg (show ¬ nI 7 = (2 : Int32) by decide), if_neg (show ¬ nI 7 = (3 : Int32) by decide), if_neg (show ¬ nI 7 = (4 : Int32) by decide), if_neg (show ¬ nI 7 = (5 : Int32) by decide), if_neg (show ¬ nI 7 = (6 : Int32) by decide), if_pos (show nI 7 = (7 : Int32) by decide)]
        rw [of _ 5 (by decide) (by omega), show σ 0 6 n 7 = _ from ec 5 (by omega)]
        exact ⟨_, rfl, rfl⟩
      · iterate 2 rw [if_neg (show ¬ nI 8 = (0 : Int32) by decide), if_neg (show ¬ nI 8 = (1 : Int32) by decide), if_neg (show ¬ nI 8 = (2 : Int32) by decide), if_neg (show ¬ nI 8 = (3 : Int32) by decide), if_neg (show ¬ nI 8 = (4 : Int32) by decide), if_neg (show ¬ nI 8 = (5 : Int32) by decide), if_neg (show ¬ nI 8 = (6 : Int32) by decide), if_neg (show ¬ nI 8 = (7 : Int32) by decide), if_pos (show nI 8 = (8 : Int32) by decide)]
        rw [of _ 6 (by decide) (by omega), show σ 0 6 n 8 = _ from ec 6 (by omega)]
        exact ⟨_, rfl, rfl⟩
    · rw [if_neg hb, if_pos rfl, if_pos rfl]
      exact ⟨_, rfl, rfl⟩
  · rw [if_neg ha, if_pos rfl, if_pos rfl]
    exact ⟨_, rfl, rfl⟩
theorem J_cardOf {k : Nat} {σ : mm_M} (hJ : JJ k σ) (a b x : Int32) : ∃ v σ1 σ2, fx_X10_cardOf a b x σ = some (v, σ1) ∧ fx_X11_cardOf a b x σ1 = some (v, σ2) ∧ JJ (k + 1) σ2 := by
  refine J_same (cl := fx_X10_cardOf a b x) (mo := fx_X11_cardOf a b x) hJ ?_
  obtain ⟨_, ⟨c, f, ph, hW, hR, hp, hph⟩, _⟩ := hJ
  generalize σ 10 31 0 = S at *
  have hc4 := hW.c4
  rw [fx_X10_cardOf, cc_hasCart 0 a σ (hR.s0.trans hW.s0), mm_bd_some, fx_X11_cardOf, md_isCart a (mw σ S) (by rw [mw_row]; exact hW.s0) hc4, mm_bd_some]
  by_cases ha : (0 : Int32) ≤ a ∧ a < nI c
  · rw [if_pos ha, if_neg (show ¬ (1 : Int32) = 0 by decide), if_neg (show ¬ (1 : Int32) = 0 by decide), cc_isRegister, mm_bd_some, md_in, mm_bd_some]
    by_cases hb : (0 : Int32) ≤ b ∧ b ≤ 4
    · rw [if_pos hb, if_neg (show ¬ (1 : Int32) = 0 by decide), if_neg (show ¬ (1 : Int32) = 0 by decide), cc_isWithin, mm_bd_some, md_in, mm_bd_some]
      by_cases hx : (0 : Int32) ≤ x ∧ x ≤ 1
      · rw [if_pos hx, if_neg (show ¬ (1 : Int32) = 0 by decide), if_neg (show ¬ (1 : Int32) = 0 by decide)]
        obtain ⟨n, hn, rfl⟩ := i32_isN (N := c) (Int32.not_lt.mpr ha.1) ha.2 (by omega)
        obtain ⟨j, hj4, rfl⟩ := in_nat (N := 4) (by omega) hb
        have hj : j < 5 := by omega
        obtain ⟨y, hy, rfl⟩ := in_nat (N := 1) (by omega) hx
        obtain ⟨rk, hrk, erk⟩ : isN (S (139 + 17 * n + (8 + 2 * j))) 1000 := ((hW.ct hn).2.2.2.2.2.2.2 j hj).1
        have e7 : (7 : Int32) + 2 * nI j = nI (7 + 2 * j) := by
          show nI 7 + nI 2 * nI j = _
          rw [pk_mul, nI_add]
        rw [mm_gd_t (mm_ix_n (by omega) (by omega)), nI_cl (k := n) (by omega), fx_X3_hasCard, mm_gd_t (mm_ix_n (by omega) (by omega)), nI_cl (k := j) (by omega), hR.rk hn hj, mo_rank σ S rfl rfl (by omega) hj, mm_bd_some]
        by_cases hz : S (139 + 17 * n + (8 + 2 * j)) = 0
        · rw [if_pos (show S (139 + 17 * n + (8 + 2 * j)) ≤ 0 by rw [hz]; decide), mm_bd_some, if_pos rfl, if_pos hz]
          exact ⟨_, rfl, rfl⟩
        · have hz2 : ¬ S (139 + 17 * n + (8 + 2 * j)) ≤ 0 := by
            rw [erk] at hz ⊢
            have : rk ≠ 0 := fun z => hz (by rw [z]; rfl)
            exact nle_lit (a := 0) (b := rk) rfl (by omega) (by omega)
          rw [if_neg hz2, mm_bd_some, if_neg (show ¬ (1 : Int32) = 0 by decide), if_neg hz, e7, nI_add, bd_id, mo_of σ S rfl rfl (by omega)]
          rcases (show y = 0 ∨ y = 1 by omega) with rfl | rfl
          · rw [if_pos (show nI 0 = (0 : Int32) from rfl), mm_gd_t (mm_ix_n (by omega) (by omega)), hR.mv hn hj hz]
            exact ⟨_, rfl, rfl⟩
          · rw [if_neg (show ¬ nI 1 = (0 : Int32) by decide), mm_gd_t (mm_ix_n (by omega) (by omega)), hR.rk hn hj]
            refine ⟨_, rfl, ?_⟩
            congr 3
            omega
      · rw [if_neg hx, if_pos rfl, if_pos rfl]
        exact ⟨_, rfl, rfl⟩
    · rw [if_neg hb, if_pos rfl, if_pos rfl]
      exact ⟨_, rfl, rfl⟩
  · rw [if_neg ha, if_pos rfl, if_pos rfl]
    exact ⟨_, rfl, rfl⟩
theorem outc_L {B c f r : Nat} {S : Nat → Int32} {σ μ : mm_M} (hW : WF B c f S) (hR : RS c f σ r S) : ∀ (e k fu fu2 : Nat) (v : Int32), k + e = c → e < fu → e < fu2 → ∃ v1, fx_X8_cartsOut_L4 r fu v (nI k) σ = some (v1, σ) ∧ fx_X11_cartsOut_L4 fu2 v (nI k) (mw μ S) = some (v1, mw μ S) := by
  have hc4 := hW.c4
  have hc0 : σ r 0 0 2 = nI c := hR.s0.trans hW.s0
  have hc1 : mw μ S 10 31 0 (0 : Int32).toNatClampNeg = nI c := by rw [mw_row]; exact hW.s0
  intro e
  induction e with
  | zero =>
    intro k fu fu2 v hk hf hf2
    obtain ⟨g, rfl⟩ : ∃ g, fu = g + 1 := ⟨fu - 1, by omega⟩
    obtain ⟨g2, rfl⟩ : ∃ g, fu2 = g + 1 := ⟨fu2 - 1, by omega⟩
    have : k = c := by omega
    subst this
    rw [fx_X8_cartsOut_L4, hc0, if_pos (le_lit rfl (Nat.le_refl _) (by omega)), fx_X11_cartsOut_L4, hc1, if_pos (le_lit rfl (Nat.le_refl _) (by omega))]
    exact ⟨v, rfl, rfl⟩
  | succ e ih =>
    intro k fu fu2 v hk hf hf2
    obtain ⟨g, rfl⟩ : ∃ g, fu = g + 1 := ⟨fu - 1, by omega⟩
    obtain ⟨g2, rfl⟩ : ∃ g, fu2 = g + 1 := ⟨fu2 - 1, by omega⟩
    have ec : σ r 6 k 3 = S (139 + 17 * k + 1) := hR.ct (by omega) (k := 1) (by omega)
    rw [fx_X8_cartsOut_L4, hc0, if_neg (nle_lit rfl (by omega) (by omega) : ¬ nI c ≤ nI k), mm_gd_t (mm_ix_n (by omega) (by omega)), nI_cl (by omega), cc_isOut, mm_bd_some, ec, fx_X11_cartsOut_L4, hc1, if_neg (nle_lit rfl (by omega) (by omega) : ¬ nI c ≤ nI k), mo_isOut μ S rfl (by omega), mm_bd_some]
    by_cases ho : S (139 + 17 * k + 1) = -1
    · rw [if_pos ho, if_neg (show ¬ (1 : Int32) = 0 by decide), if_pos ((out_iff (hW.ct (by omega))).mpr ho), if_neg (show ¬ (1 : Int32) = 0 by decide), mm_li_e, mm_li_e, nI_1, fx_X11_cartsOut_J28, mm_li_e, mm_li_e, nI_1]
      exact ih (k + 1) g g2 _ (by omega) (by omega) (by omega)
    · rw [if_neg ho, if_pos rfl, if_neg (fun z => ho ((out_iff (hW.ct (by omega))).mp z)), if_pos rfl, mm_li_e, nI_1, fx_X11_cartsOut_J28, mm_li_e, mm_li_e, nI_1, Int32.add_zero]
      exact ih (k + 1) g g2 _ (by omega) (by omega) (by omega)
theorem J_count {k : Nat} {σ : mm_M} (hJ : JJ k σ) (a : Int32) : ∃ v σ1 σ2, fx_X10_count a σ = some (v, σ1) ∧ fx_X11_count a σ1 = some (v, σ2) ∧ JJ (k + 1) σ2 := by
  refine J_same (cl := fx_X10_count a) (mo := fx_X11_count a) hJ ?_
  obtain ⟨⟨N, R, hC, hM⟩, ⟨c, f, ph, hW, hR, hp, hph⟩, ⟨L, hL, hl1, hl2, hl3⟩⟩ := hJ
  have h30 : ∀ i, mw σ (σ 10 31 0) 10 30 0 i = σ 10 30 0 i := fun i => by rw [mw_oth _ _ (by omega)]
  generalize σ 10 31 0 = S at *
  have hc4 := hW.c4
  have row : ∀ i, mw σ S 10 31 0 i = S i := fun i => by rw [mw_row]
  by_cases hin : (0 : Int32) ≤ a ∧ a ≤ 9
  · obtain ⟨j, hj, rfl⟩ := in_nat (N := 9) (by omega) hin
    have hq : ∀ q, q ≤ 3 → fx_X11_count (nI q) (mw σ S) = some (S q, mw σ S) := by
      intro q hq
      rw [fx_X11_count, if_neg (show ¬ nI q = (4 : Int32) from ne_lit (b := 4) rfl (by omega) (by omega) (by omega)), if_neg (show ¬ nI q = (5 : Int32) from ne_lit (b := 5) rfl (by omega) (by omega) (by omega)), if_neg (show ¬ nI q = (6 : Int32) from ne_lit (b := 6) rfl (by omega) (by omega) (by omega)), if_neg (show ¬ nI q = (7 : Int32) from ne_lit (b := 7) rfl (by omega) (by omega) (by omega)), if_neg (show ¬ nI q = (8 : Int32) from ne_lit (b := 8) rfl (by omega) (by omega) (by omega)), if_neg (show ¬ nI q = (9 : Int32) from ne_lit (b := 9) rfl (by omega) (by omega) (by omega)), md_in, mm_bd_some, if_pos (show (0 : Int32) ≤ nI q ∧ nI q ≤ 3 from ⟨nI_pos' (by omega), le_lit (a := 3) rfl (by omega) (by omega)⟩), if_neg (show ¬ (1 : Int32) = 0 by decide), mm_gd_t (mm_ix_n (by omega) (by omega)), nI_cl (by omega), mw_row]
    rcases (show j = 0 ∨ j = 1 ∨ j = 2 ∨ j = 3 ∨ j = 4 ∨ j = 5 ∨ j = 6 ∨ j = 7 ∨ j = 8 ∨ j = 9 by omega) with rfl | rfl | rfl | rfl | rfl | rfl | rfl | rfl | rfl | rfl
    · rw [hq 0 (by omega), fx_X10_count, if_pos (show nI 0 = (0 : Int32) by decide), hR.s0]
      exact ⟨_, rfl, rfl⟩
    · rw [hq 1 (by omega), fx_X10_count, if_neg (show ¬ nI 1 = (0 : Int32) by decide), if_pos (show nI 1 = (1 : Int32) by decide), hR.ph]
      exact ⟨_, rfl, rfl⟩
    · rw [hq 2 (by omega), fx_X10_count, if_neg (show ¬ nI 2 = (0 : Int32) by decide), if_neg (show ¬ nI 2 = (1 : Int32) by decide), if_pos (show nI 2 = (2 : Int32) by decide), hR.2.2.1]
      exact ⟨_, rfl, rfl⟩
    · rw [hq 3 (by omega), fx_X10_count, if_neg (show ¬ nI 3 = (0 : Int32) by decide), if_neg (show ¬ nI 3 = (1 : Int32) by decide), if_neg (show ¬ nI 3 = (2 : Int32) by decide), if_pos (show nI 3 = (3 : Int32) by decide), hR.fc]
      exact ⟨_, rfl, rfl⟩
    · obtain ⟨v1, o1, o2⟩ := outc_L (μ := σ) hW hR c 0 mm_FU mm_FU 0 (by omega) (by unfold mm_FU; omega) (by unfold mm_FU; omega)
      rw [fx_X10_count, if_neg (show ¬ nI 4 = (0 : Int32) by decide), if_neg (show ¬ nI 4 = (1 : Int32) by decide), if_neg (show ¬ nI 4 = (2 : Int32) by decide), if_neg (show ¬ nI 4 = (3 : Int32) by decide), if_pos (show nI 4 = (4 : Int32) by decide), bd_id, fx_X11_count, if_pos (show nI 4 = (4 : Int32) by decide), bd_id, fx_X8_cartsOut, fx_X11_cartsOut]
      exact ⟨v1, o1, o2⟩
    · have e4 : mw σ S 10 31 0 (4 : Int32).toNatClampNeg = S 4 := row 4
      rw [fx_X10_count, if_neg (show ¬ nI 5 = (0 : Int32) by decide), if_neg (show ¬ nI 5 = (1 : Int32) by decide), if_neg (show ¬ nI 5 = (2 : Int32) by decide), if_neg (show ¬ nI 5 = (3 : Int32) by decide), if_neg (show ¬ nI 5 = (4 : Int32) by decide), if_pos (show nI 5 = (5 : Int32) by decide), fx_X11_count, if_neg (show ¬ nI 5 = (4 : Int32) by decide), if_pos (show nI 5 = (5 : Int32) by decide), bd_id, e4, show σ 0 0 0 7 = S 4 from hR.2.2.2.2.2.1]
      rcases hW.2.2.2.2.1 with h4 | ⟨y, hy, h4⟩
      · rw [h4, if_pos rfl, mo_orNone_m]
        exact ⟨_, rfl, rfl⟩
      · rw [h4, if_neg (nI_m1 (by omega)), mo_orNone_n _ (by omega)]
        exact ⟨_, rfl, rfl⟩
    · have e5 : mw σ S 10 31 0 (5 : Int32).toNatClampNeg = S 5 := row 5
      rw [fx_X10_count, if_neg (show ¬ nI 6 = (0 : Int32) by decide), if_neg (show ¬ nI 6 = (1 : Int32) by decide), if_neg (show ¬ nI 6 = (2 : Int32) by decide), if_neg (show ¬ nI 6 = (3 : Int32) by decide), if_neg (show ¬ nI 6 = (4 : Int32) by decide), if_neg (show ¬ nI 6 = (5 : Int32) by decide), if_pos (show nI 6 = (6 : Int32) by decide), fx_X11_count, if_neg (show ¬ nI 6 = (4 : Int32) by decide), if_neg (show ¬ nI 6 = (5 : Int32) by decide), if_pos (show nI 6 = (6 : Int32) by decide), e5, show σ 0 0 0 5 = S 5 from hR.2.2.2.1]
      exact ⟨_, rfl, rfl⟩
    · rw [fx_X10_count, if_neg (show ¬ nI 7 = (0 : Int32) by decide), if_neg (show ¬ nI 7 = (1 : Int32) by decide), if_neg (show ¬ nI 7 = (2 : Int32) by decide), if_neg (show ¬ nI 7 = (3 : Int32) by decide), if_neg (show ¬ nI 7 = (4 : Int32) by decide), if_neg (show ¬ nI 7 = (5 : Int32) by decide), if_neg (show ¬ nI 7 = (6 : Int32) by decide), if_pos (show nI 7 = (7 : Int32) by decide), fx_X11_count, if_neg (show ¬ nI 7 = (4 : Int32) by decide), if_neg (show ¬ nI 7 = (5 : Int32) by decide), if_neg (show ¬ nI 7 = (6 : Int32) by decide), if_pos (show nI 7 = (7 : Int32) by decide), h30, hC.2.1, hM.2.1]
      exact ⟨_, rfl, rfl⟩
    · rw [fx_X10_count, if_neg (show ¬ nI 8 = (0 : Int32) by decide), if_neg (show ¬ nI 8 = (1 : Int32) by decide), if_neg (show ¬ nI 8 = (2 : Int32) by decide), if_neg (show ¬ nI 8 = (3 : Int32) by decide), if_neg (show ¬ nI 8 = (4 : Int32) by decide), if_neg (show ¬ nI 8 = (5 : Int32) by decide), if_neg (show ¬ nI 8 = (6 : Int32) by decide), if_neg (show ¬ nI 8 = (7 : Int32) by decide), if_pos (show nI 8 = (8 : Int32) by decide), fx_X11_count, if_neg (show ¬ nI 8 = (4 : Int32) by decide), if_neg (show ¬ nI 8 = (5 : Int32) by decide), if_neg (show ¬ nI 8 = (6 : Int32) by decide), if_neg (show ¬ nI 8 = (7 : Int32) by decide), if_pos (show nI 8 = (8 : Int32) by decide), h30, hl1, hl2]
      exact ⟨_, rfl, rfl⟩
    · have e6 : mw σ S 10 31 0 (6 : Int32).toNatClampNeg = S 6 := row 6
      rw [fx_X10_count, if_neg (show ¬ nI 9 = (0 : Int32) by decide), if_neg (show ¬ nI 9 = (1 : Int32) by decide), if_neg (show ¬ nI 9 = (2 : Int32) by decide), if_neg (show ¬ nI 9 = (3 : Int32) by decide), if_neg (show ¬ nI 9 = (4 : Int32) by decide), if_neg (show ¬ nI 9 = (5 : Int32) by decide), if_neg (show ¬ nI 9 = (6 : Int32) by decide), if_neg (show ¬ nI 9 = (7 : Int32) by decide), if_neg (show ¬ nI 9 = (8 : Int32) by decide), if_pos (show nI 9 = (9 : Int32) by decide), fx_X11_count, if_neg (show ¬ nI 9 = (4 : Int32) by decide), if_neg (show ¬ nI 9 = (5 : Int32) by decide), if_neg (show ¬ nI 9 = (6 : Int32) by decide), if_neg (show ¬ nI 9 = (7 : Int32) by decide), if_neg (show ¬ nI 9 = (8 : Int32) by decide), if_pos (show nI 9 = (9 : Int32) by decide), e6, show σ 0 0 0 6 = S 6 from hR.2.2.2.2.1]
      exact ⟨_, rfl, rfl⟩
  · have ne : ∀ (m : Int32), 0 ≤ m ∧ m ≤ 9 → ¬ a = m := fun m hm z => hin (z ▸ hm)
    have h3 : ¬ ((0 : Int32) ≤ a ∧ a ≤ 3) := fun z => hin ⟨z.1, Int32.le_trans z.2 (by decide)⟩
    rw [fx_X10_count, if_neg (ne 0 (by decide)), if_neg (ne 1 (by decide)), if_neg (ne 2 (by decide)), if_neg (ne 3 (by decide)), if_neg (ne 4 (by decide)), if_neg (ne 5 (by decide)), if_neg (ne 6 (by decide)), if_neg (ne 7 (by decide)), if_neg (ne 8 (by decide)), if_neg (ne 9 (by decide)), fx_X11_count, if_neg (ne 4 (by decide)), if_neg (ne 5 (by decide)), if_neg (ne 6 (by decide)), if_neg (ne 7 (by decide)), if_neg (ne 8 (by decide)), if_neg (ne 9 (by decide)), md_in, mm_bd_some, if_neg h3, if_pos rfl]
    exact ⟨_, rfl, rfl⟩
theorem J_turn {k : Nat} {σ : mm_M} (hJ : JJ k σ) (a : Int32) : ∃ v σ1 σ2, fx_X10_turn a σ = some (v, σ1) ∧ fx_X11_turn a σ1 = some (v, σ2) ∧ JJ (k + 1) σ2 := by
  by_cases ha : (0 : Int32) ≤ a
  · obtain ⟨⟨N, R, hC, hM⟩, ⟨c, f, ph, hW, hR, hp, hph⟩, hT⟩ := id hJ
    have hc4 := hW.c4
    obtain ⟨K0, σ1, μ0, hK0, a1, _, _, hR1, _⟩ := arr_both (μ := σ) hW (show 0 < 6 by omega) hp hph hR
    have F1 := fr_X2_arrange 0 σ (nI K0) σ1 a1
    have row1 : σ1 10 31 0 = σ 10 31 0 := F1.row (fun j hj => by unfold fw_X2_arrange at hj; omega)
    obtain ⟨K, σ1', μ1, hK, b1, b2, hO, hR1', h9⟩ := arr_both (μ := σ1) hW (show 0 < 6 by omega) hp hph hR
    rw [a1] at b1
    have hh := Option.some.inj b1
    have eK : K0 = K := (nI_e (by omega) (by omega)).mp (congrArg Prod.fst hh)
    have eS : σ1 = σ1' := congrArg Prod.snd hh
    subst eK
    subst eS
    have es : mw σ1 (σ 10 31 0) = σ1 := by rw [← row1]; exact mw_self σ1
    rw [es] at b2
    have F2 := fr_X11_orders σ1 0 _ b2
    have fin : JJ (k + 1) (mw μ1 (σ 10 31 0)) := by
      refine (hJ.congr (fun q t n i hq => ?_) (fun i hi => ?_)).up
      · rw [F2 q t n i (by unfold fw_X11_orders; omega), F1 q t n i (by unfold fw_X2_arrange; omega)]
      · rw [mw_row]
    have h9' : mw μ1 (σ 10 31 0) 10 30 0 9 = nI K0 := by rw [mw_oth _ _ (by omega)]; exact h9
    rw [fx_X10_turn, if_pos ha, bd_id, fx_X7_cartInTurn, a1, mm_bd_some]
    by_cases hKa : nI K0 ≤ a
    · refine ⟨-1000004, σ1, mw μ1 (σ 10 31 0), if_pos hKa, ?_, fin⟩
      rw [fx_X11_turn, if_pos ha, b2, mm_bd_some, h9', if_pos hKa]
    · obtain ⟨j, hj, rfl⟩ := i32_isN (N := K0) (Int32.not_lt.mpr ha) (i32_nle hKa) (by omega)
      obtain ⟨m, hm, em, em2, _⟩ := hO j hj
      refine ⟨nI m, σ1, mw μ1 (σ 10 31 0), ?_, ?_, fin⟩
      · rw [if_neg hKa, mm_gd_t (mm_ix_n (by omega) (by omega)), nI_cl (by omega), em]
      · rw [fx_X11_turn, if_pos ha, b2, mm_bd_some, h9', if_neg hKa, mm_gd_t (mm_ix_n (by omega) (by omega)), nI_cl (by omega), mw_oth _ _ (by omega), em2]
  · refine ⟨-1000001, σ, σ, ?_, ?_, hJ.up⟩
    · rw [fx_X10_turn, if_neg ha]
    · rw [fx_X11_turn, if_neg ha]
