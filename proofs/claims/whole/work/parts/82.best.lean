/-! the best move -/
theorem dif_eq {a b : Nat} (ha : a < 1000) (hb : b < 1000) (σ μ : mm_M) : ∃ t, t < 1000 ∧ fx_J9_abs_0f7a4 (nI a - nI b) σ = some (nI t, σ) ∧ fx_X11_difference (nI a) (nI b) μ = some (nI t, μ) := by
  by_cases h : b ≤ a
  · refine ⟨a - b, by omega, ?_, ?_⟩
    · rw [fx_J9_abs_0f7a4, pk_sub h, if_pos (nI_pos' (by omega))]
    · rw [fx_X11_difference, if_pos (le_lit rfl h (by omega)), pk_sub h]
  · refine ⟨b - a, by omega, ?_, ?_⟩
    · have hn : ¬ (0 : Int32) ≤ nI a - nI b := by
        intro z
        rw [Int32.le_iff_toInt_le, pk_sub_toInt (by omega) (by omega)] at z
        have : (0 : Int32).toInt = 0 := by decide
        omega
      rw [fx_J9_abs_0f7a4, if_neg hn, Int32.neg_sub, pk_sub (by omega)]
    · rw [fx_X11_difference, if_neg (show ¬ nI b ≤ nI a from nle_lit rfl (by omega) (by omega)), pk_sub (by omega)]
theorem dist_eq {q g : Nat} (hq : q < 64) (hg : g < 64) (σ μ : mm_M) : ∃ t, t < 2000 ∧ fx_X1_distance (nI q) (nI g) σ = some (nI t, σ) ∧ fx_X11_far (nI q) (nI g) μ = some (nI t, μ) := by
  obtain ⟨t1, h1, a1, b1⟩ := dif_eq (a := q % 8) (b := g % 8) (by omega) (by omega) σ μ
  obtain ⟨t2, h2, a2, b2⟩ := dif_eq (a := q / 8) (b := g / 8) (by omega) (by omega) σ μ
  refine ⟨t1 + t2, by omega, ?_, ?_⟩
  · rw [fx_X1_distance, nI_rem8 hq, nI_rem8 hg, a1, mm_bd_some, nI_div8 hq, nI_div8 hg, a2, mm_bd_some, nI_add]
  · rw [fx_X11_far, nI_rem8 hq, nI_rem8 hg, b1, mm_bd_some, nI_div8 hq, nI_div8 hg, b2, mm_bd_some, nI_add]
theorem far_both {B c f ph n m rk g : Nat} {S : Nat → Int32} {σ μ : mm_M} (hW : WF B c f S) (hR : RS c f σ 0 S) (hp : S 1 = nI ph) (hph : ph < 5) (hn : n < c) (hin : S (139 + 17 * n + 1) ≠ -1) (hm : m < 7) (hrk : rk < 1000) (hrk0 : rk ≠ 0) (hg : g < 64) (hB : B < 100000) : ∃ v σ1 μ1 T, fx_X10_distanceBehind (nI n) (nI m) (nI rk) (nI g) σ = some (v, σ1) ∧ fx_X11_farBy (nI n) (nI m) (nI rk) (nI g) (mw μ S) = some (v, mw μ1 T) ∧ CF σ σ1 ∧ MF μ μ1 ∧ (∀ i, μ1 10 33 0 i = μ 10 33 0 i) ∧ (∀ i, i < 207 → T i = μ 10 33 0 i) ∧ (v = -1 ∨ ∃ t, t < 2000 ∧ v = nI t) := by
  have hc4 := hW.c4
  have hf4 := hW.f4
  obtain ⟨σa, ea, ca, fa, cfa⟩ := fresh_cf (σ := σ)
  have hRa : RS c f σa 1 S := hR.copy hc4 hf4 ca
  have epa : σa 1 0 0 3 = nI ph := hRa.ph.trans hp
  have hR2 : RS c f (mm_u (mm_u σa 1 7 n ph (nI m)) 1 8 n ph (nI rk)) 1 (upd (upd S (139 + 17 * n + (7 + 2 * ph)) (nI m)) (139 + 17 * n + (8 + 2 * ph)) (nI rk)) := by
    refine hRa.reg hc4 hf4 hn hph (fun t m i hh => ?_) ?_ (fun _ => ?_)
    · rw [mm_u_ap, if_neg (by omega), mm_u_ap, if_neg (by omega)]
    · rw [mm_u_ap, if_pos ⟨rfl, rfl, rfl, rfl⟩]
    · rw [mm_u_ap, if_neg (by omega), mm_u_ap, if_pos ⟨rfl, rfl, rfl, rfl⟩]
  have hW2 := hW.reg (mv := nI m) (rk := nI rk) hn hph ⟨rk, by omega, rfl⟩ (Or.inr ⟨m, by omega, rfl⟩)
  have hp2 : upd (upd S (139 + 17 * n + (7 + 2 * ph)) (nI m)) (139 + 17 * n + (8 + 2 * ph)) (nI rk) 1 = nI ph := (pk_un (by omega)).trans ((pk_un (by omega)).trans hp)
  have o2 : upd (upd S (139 + 17 * n + (7 + 2 * ph)) (nI m)) (139 + 17 * n + (8 + 2 * ph)) (nI rk) (139 + 17 * n + 5) = S (139 + 17 * n + 5) := (pk_un (by omega)).trans (pk_un (by omega))
  have c2 : upd (upd S (139 + 17 * n + (7 + 2 * ph)) (nI m)) (139 + 17 * n + (8 + 2 * ph)) (nI rk) (139 + 17 * n + 1) = S (139 + 17 * n + 1) := (pk_un (by omega)).trans (pk_un (by omega))
  obtain ⟨t, S1, σ1, μ1, ht, e1, e2, hW1, hR1, hp1, hMO⟩ := phase_both (μ := μ) hW2 (show 1 < 6 by omega) hp2 hph hR2 (by omega) (by omega)
  obtain ⟨a, ha, ea5⟩ : isN (S (139 + 17 * n + 5)) (B + 1) := (hW.ct hn).2.2.2.2.2.1
  obtain ⟨b, hab, hb2, eb, hstay⟩ := hMO n hn a (o2.trans ea5)
  have e7 : (7 : Int32) + 2 * nI ph = nI (7 + 2 * ph) := by
    show nI 7 + nI 2 * nI ph = _
    rw [pk_mul, nI_add]
  have e8 : nI (7 + 2 * ph) + (1 : Int32) = nI (8 + 2 * ph) := by rw [nI_1, show 7 + 2 * ph + 1 = 8 + 2 * ph by omega]
  have m1 : mw μ S 10 31 0 (1 : Int32).toNatClampNeg = nI ph := by rw [mw_row]; exact hp
  have w7 : mm_u (mm_u σa 1 7 n ph (nI m)) 1 8 n ph (nI rk) 1 6 n 7 = nI a := (hR2.ct hn (k := 5) (by omega)).trans (o2.trans ea5)
  have w17 : σ1 1 6 n 7 = nI b := (hR1.ct hn (k := 5) (by omega)).trans eb
  have hcf : CF σ σ1 := cfa.trans (CF.trans (fun q t n i hh => by rw [mm_u_ap, if_neg (by omega), mm_u_ap, if_neg (by omega)]) (run_cf e1))
  obtain ⟨T1, k1, k2⟩ := mo_take μ1 S1
  have h33 : ∀ i, μ1 10 33 0 i = μ 10 33 0 i := fun i => p33 e2 i
  rw [fx_X10_distanceBehind, ea, mm_bd_some, mm_gd_t (mm_ix_n (by omega) (by omega)), nI_cl (by omega), epa, fx_X3_lay, mm_gd_t (mm_ix_n (by omega) (by omega)), mm_lt_e, mm_gd_t (mm_ix_n (by omega) (by omega)), mm_lt_e, mm_bd_some, nI_cl (by omega), mm_li_e, w7, e1, mm_bd_some, w17, fx_X11_farBy, mo_of (w := 5) (k := 5) μ S rfl rfl (by omega), mm_bd_some, mm_li_e, m1, e7, mo_lays μ S rfl rfl (by omega), mm_bd_some, e8, mo_lays μ _ rfl rfl (by omega), mm_bd_some, e2, mm_bd_some, mo_of (w := 5) (k := 5) μ1 S1 rfl rfl (by omega), mm_bd_some, eb, ea5]
  by_cases hbe : b = a
  · have hc1 := hstay hbe (by rw [c2]; exact hin)
    obtain ⟨q, hq, eq⟩ := (hW1.ct hn).cell.elim (fun z => absurd z hc1) id
    have wc : σ1 1 6 n 3 = nI q := (hR1.ct hn (k := 1) (by omega)).trans eq
    obtain ⟨d, hd, d1, d2⟩ := dist_eq hq hg σ1 (mw μ1 S1)
    rw [if_pos (by rw [hbe]), if_pos (show nI b ≤ nI a from le_lit rfl (by omega) (by omega)), cc_isOut, mm_bd_some, wc, if_neg (nI_m1 (by omega)), if_pos rfl, d1, mm_bd_some, mo_of (w := 1) (k := 1) μ1 S1 rfl rfl (by omega), mm_bd_some, eq, d2, mm_bd_some, fx_X11_farBy_J76, k1, mm_bd_some]
    exact ⟨_, σ1, μ1, T1, rfl, rfl, hcf, (passes_mf e2).mw, h33, fun i hi => (k2 i hi).trans (h33 i), Or.inr ⟨d, hd, rfl⟩⟩
  · rw [if_neg (fun z => hbe ((nI_e (by omega) (by omega)).mp z)), if_neg (show ¬ nI b ≤ nI a from nle_lit rfl (by omega) (by omega)), fx_X11_farBy_J76, k1, mm_bd_some]
    exact ⟨_, σ1, μ1, T1, rfl, rfl, hcf, (passes_mf e2).mw, h33, fun i hi => (k2 i hi).trans (h33 i), Or.inl rfl⟩
theorem best_L {B c f ph n rk g : Nat} {x3 : Int32} {S : Nat → Int32} (hW : WF B c f S) (hp : S 1 = nI ph) (hph : ph < 5) (hn : n < c) (hin : S (139 + 17 * n + 1) ≠ -1) (hrk : rk < 1000) (hrk0 : rk ≠ 0) (hg : g < 64) (hB : B < 100000) : ∀ (e m fu fu2 : Nat) (u6 u7 w5 w6 : Int32) (T : Nat → Int32) (σ μ : mm_M), m + e = 7 → e < fu → e < fu2 → RS c f σ 0 S → (∀ i, i < 207 → T i = S i) → (∀ i, i < 207 → μ 10 33 0 i = S i) → ((u6 = -1 ∧ u7 = -1 ∧ w5 = -1) ∨ ∃ x t, x < 7 ∧ t < 2000 ∧ u6 = nI x ∧ w5 = nI x ∧ u7 = nI t ∧ w6 = nI t) → ∃ v σ1 μ1 T1, fx_X10_best_L116 (nI n) (nI rk) x3 fu (nI g) u6 u7 (nI m) σ = some (v, σ1) ∧ fx_X11_best_L81 (nI n) (nI rk) x3 fu2 (nI g) w5 w6 (nI m) (mw μ T) = some (v, mw μ1 T1) ∧ CF σ σ1 ∧ MF μ μ1 ∧ ∀ i, i < 207 → T1 i = S i := by
  have hc4 := hW.c4
  have hf4 := hW.f4
  intro e
  induction e with
  | zero =>
    intro m fu fu2 u6 u7 w5 w6 T σ μ hk hf hf2 hR hT h33 hinv
    obtain ⟨g1, rfl⟩ : ∃ g, fu = g + 1 := ⟨fu - 1, by omega⟩
    obtain ⟨g2, rfl⟩ : ∃ g, fu2 = g + 1 := ⟨fu2 - 1, by omega⟩
    have : m = 7 := by omega
    subst this
    rw [fx_X10_best_L116, if_pos (show (6 : Int32) < nI 7 by decide), fx_X11_best_L81, if_pos (show (7 : Int32) ≤ nI 7 by decide)]
    rcases hinv with ⟨rfl, rfl, rfl⟩ | ⟨x, t, hx, ht, rfl, rfl, rfl, rfl⟩
    · rw [if_pos rfl, if_neg (show ¬ (0 : Int32) ≤ -1 by decide)]
      exact ⟨_, σ, μ, T, rfl, rfl, fun _ _ _ _ _ => rfl, MF.rf, hT⟩
    · rw [if_neg (nI_m1 (by omega)), if_pos (nI_pos' (by omega))]
      by_cases h0 : x3 = 0
      · rw [if_pos h0, if_pos h0]
        exact ⟨_, σ, μ, T, rfl, rfl, fun _ _ _ _ _ => rfl, MF.rf, hT⟩
      · rw [if_neg h0, if_neg h0]
        exact ⟨_, σ, μ, T, rfl, rfl, fun _ _ _ _ _ => rfl, MF.rf, hT⟩
  | succ e ih =>
    intro m fu fu2 u6 u7 w5 w6 T σ μ hk hf hf2 hR hT h33 hinv
    obtain ⟨g1, rfl⟩ : ∃ g, fu = g + 1 := ⟨fu - 1, by omega⟩
    obtain ⟨g2, rfl⟩ : ∃ g, fu2 = g + 1 := ⟨fu2 - 1, by omega⟩
    obtain ⟨v, σ1, μ1, T1, d1, d2, dC, dM, d33, dT, dv⟩ := far_both (μ := μ) (m := m) (hW.same hT) (hR.same hc4 hf4 hT) ((hT 1 (by omega)).trans hp) hph hn (by rw [hT _ (by omega)]; exact hin) (by omega) hrk hrk0 hg hB
    have hR1 : RS c f σ1 0 S := hR.congr (fun t n i _ => dC _ _ _ _ (by omega))
    have hT1 : ∀ i, i < 207 → T1 i = S i := fun i hi => (dT i hi).trans (h33 i hi)
    have h331 : ∀ i, i < 207 → μ1 10 33 0 i = S i := fun i hi => (d33 i).trans (h33 i hi)
    have go : ∀ u6' u7' w5' w6', ((u6' = -1 ∧ u7' = -1 ∧ w5' = -1) ∨ ∃ x t, x < 7 ∧ t < 2000 ∧ u6' = nI x ∧ w5' = nI x ∧ u7' = nI t ∧ w6' = nI t) → ∃ v σ2 μ2 T2, fx_X10_best_L116 (nI n) (nI rk) x3 g1 (nI g) u6' u7' (nI (m + 1)) σ1 = some (v, σ2) ∧ fx_X11_best_L81 (nI n) (nI rk) x3 g2 (nI g) w5' w6' (nI (m + 1)) (mw μ1 T1) = some (v, mw μ2 T2) ∧ CF σ σ2 ∧ MF μ μ2 ∧ ∀ i, i < 207 → T2 i = S i := by
      intro u6' u7' w5' w6' hi
      obtain ⟨v, σ2, μ2, T2, x1, x2, x3', x4, x5⟩ := ih (m + 1) g1 g2 u6' u7' w5' w6' T1 σ1 μ1 (by omega) (by omega) (by omega) hR1 hT1 h331 hi
      exact ⟨v, σ2, μ2, T2, x1, x2, dC.trans x3', dM.trans x4, x5⟩
    rw [fx_X10_best_L116, if_neg (show ¬ (6 : Int32) < nI m from nlt_lit (a := 6) (b := m) rfl (by omega) (by omega)), d1, mm_bd_some, fx_X11_best_L81, if_neg (show ¬ (7 : Int32) ≤ nI m from nle_lit (x := 7) (b := 7) rfl (by omega) (by omega)), d2, mm_bd_some]
    have no : fx_X11_best_J121 (nI n) (nI rk) x3 (fun z0 z1 z2 z3 z => fx_X11_best_L81 (nI n) (nI rk) x3 g2 z0 z1 z2 z3 z) (nI g) w5 w6 (nI m) v (mw μ1 T1) = fx_X11_best_L81 (nI n) (nI rk) x3 g2 (nI g) w5 w6 (nI (m + 1)) (mw μ1 T1) := by
      rw [fx_X11_best_J121, fx_X11_best_J122, if_pos rfl, fx_X11_best_J136, if_pos rfl, fx_X11_best_J150, mm_li_e, nI_1]
    have yes : fx_X11_best_J122 (nI n) (nI rk) x3 (fun z0 z1 z2 z3 z => fx_X11_best_L81 (nI n) (nI rk) x3 g2 z0 z1 z2 z3 z) (nI g) w5 w6 (nI m) v 1 (mw μ1 T1) = fx_X11_best_L81 (nI n) (nI rk) x3 g2 (nI g) (nI m) v (nI (m + 1)) (mw μ1 T1) := by
      rw [fx_X11_best_J122, if_neg (show ¬ (1 : Int32) = 0 by decide), fx_X11_best_J136, if_neg (show ¬ (1 : Int32) = 0 by decide), fx_X11_best_J150, mm_li_e, nI_1]
    rcases dv with rfl | ⟨t, ht, rfl⟩
    · rw [if_pos rfl, mm_li_e, nI_1, if_pos m1_lt0, no]
      exact go u6 u7 w5 w6 hinv
    · rw [if_neg (nI_m1 (by omega)), if_neg (nI_pos (by omega))]
      rcases hinv with ⟨rfl, rfl, rfl⟩ | ⟨x, t2, hx, ht2, rfl, rfl, rfl, rfl⟩
      · rw [if_pos rfl, fx_X10_best_J154, mm_li_e, nI_1, if_pos m1_lt0, yes]
        exact go _ _ _ _ (Or.inr ⟨m, t, by omega, ht, rfl, rfl, rfl, rfl⟩)
      · rw [if_neg (nI_m1 (by omega)), if_neg (nI_pos (by omega))]
        by_cases hle : nI t2 ≤ nI t
        · rw [if_pos hle, if_pos hle, mm_li_e, nI_1, no]
          exact go _ _ _ _ (Or.inr ⟨x, t2, hx, ht2, rfl, rfl, rfl, rfl⟩)
        · rw [if_neg hle, if_neg hle, fx_X10_best_J154, mm_li_e, nI_1, yes]
          exact go _ _ _ _ (Or.inr ⟨m, t, by omega, ht, rfl, rfl, rfl, rfl⟩)
theorem J_best {k : Nat} (hk : k < 512) {σ : mm_M} (hJ : JJ k σ) (a b x : Int32) : ∃ v σ1 σ2, fx_X10_best a b x σ = some (v, σ1) ∧ fx_X11_best a b x σ1 = some (v, σ2) ∧ JJ (k + 1) σ2 := by
  refine ask_gen (cl := fx_X10_best a b x) (mo := fx_X11_best a b x) hJ (fun μ _ => ?_)
  obtain ⟨_, ⟨c, f, ph, hW, hR, hp, hph⟩, _⟩ := hJ
  generalize σ 10 31 0 = S at *
  have hc4 := hW.c4
  have hf4 := hW.f4
  have same : ∀ v : Int32, ∃ v2 σ1 μ1 T, some (v, σ) = some (v2, σ1) ∧ some (v, mw μ S) = some (v2, mw μ1 T) ∧ CF σ σ1 ∧ MG μ μ1 ∧ ∀ i, i < 207 → T i = S i := fun v => ⟨v, σ, μ, S, rfl, rfl, fun _ _ _ _ _ => rfl, MG.rf, fun _ _ => rfl⟩
  rw [fx_X10_best, cc_hasCart 0 a σ (hR.s0.trans hW.s0), mm_bd_some, fx_X11_best, md_isCart a (mw μ S) (by rw [mw_row]; exact hW.s0) hc4, mm_bd_some]
  by_cases ha : (0 : Int32) ≤ a ∧ a < nI c
  · rw [if_pos ha, if_neg (show ¬ (1 : Int32) = 0 by decide), if_neg (show ¬ (1 : Int32) = 0 by decide), cc_isWithin, mm_bd_some, md_in, mm_bd_some]
    by_cases hb : (1 : Int32) ≤ b ∧ b ≤ 999
    · rw [if_pos hb, if_neg (show ¬ (1 : Int32) = 0 by decide), if_neg (show ¬ (1 : Int32) = 0 by decide), cc_isWithin, mm_bd_some, md_in, mm_bd_some]
      by_cases hx : (0 : Int32) ≤ x ∧ x ≤ 1
      · rw [if_pos hx, if_neg (show ¬ (1 : Int32) = 0 by decide), if_neg (show ¬ (1 : Int32) = 0 by decide)]
        obtain ⟨n, hn, rfl⟩ := i32_isN (N := c) (Int32.not_lt.mpr ha.1) ha.2 (by omega)
        obtain ⟨rk, hrk, rfl⟩ := in_nat (x := b) (N := 999) (by omega) ⟨Int32.le_trans (by decide) hb.1, hb.2⟩
        have hrk0 : rk ≠ 0 := fun z => by subst z; exact absurd hb.1 (by decide)
        obtain ⟨d, hd, ed⟩ : isN (S (139 + 17 * n + 3)) 10 := (hW.ct hn).2.2.2.1
        obtain ⟨t, ht, et⟩ : isN (S (139 + 17 * n + 4)) (f + 1) := (hW.ct hn).2.2.2.2.1
        have e5 : σ 0 6 n 5 = nI d := (hR.ct hn (k := 3) (by omega)).trans ed
        have e6 : σ 0 6 n 6 = nI t := (hR.ct hn (k := 4) (by omega)).trans et
        have ec : σ 0 6 n 3 = S (139 + 17 * n + 1) := hR.ct hn (k := 1) (by omega)
        have ep : σ 0 0 0 3 = nI ph := hR.ph.trans hp
        have ef : σ 0 1 0 3 = nI f := hR.fc.trans hW.s3
        have m1 : mw μ S 10 31 0 (1 : Int32).toNatClampNeg = nI ph := by rw [mw_row]; exact hp
        have m3 : mw μ S 10 31 0 (3 : Int32).toNatClampNeg = nI f := by rw [mw_row]; exact hW.s3
        have m33 : mw μ S 10 31 0 (139 + 17 * n + 3) = nI d := by rw [mw_row]; exact ed
        have e7 : (7 : Int32) + nI t = nI (7 + t) := by show nI 7 + nI t = _; rw [nI_add]
        have hnf : fx_X11_nextFlag (nI n) (mw μ S) = some (if t < f then S (7 + t) else -1, mw μ S) := by
          rw [fx_X11_nextFlag, mo_of (w := 4) (k := 4) μ S rfl rfl (by omega), mm_bd_some, et, m3]
          by_cases htf : t < f
          · rw [if_neg (nle_lit rfl htf (by omega) : ¬ nI f ≤ nI t), mo_of (w := 4) (k := 4) μ S rfl rfl (by omega), mm_bd_some, et, e7, mm_gd_t (mm_ix_n (by omega) (by omega)), nI_cl (by omega), mw_row, if_pos htf]
          · rw [if_pos (le_lit rfl (by omega) (by omega) : nI f ≤ nI t), if_neg htf]
        have hu := uN_5 d
        have cl : fx_X3_isLocked 0 n (nI ph) σ = some (if uN d ≤ ph then 1 else 0, σ) := by
          rw [fx_X3_isLocked, cc_unlocked hd e5, mm_bd_some]
          by_cases h : uN d ≤ ph
          · rw [if_pos h, if_neg (fun z => absurd ((nI_lt2 (by omega) (by omega)).mp z) (by omega))]
          · rw [if_neg h, if_pos ((nI_lt2 (by omega) (by omega)).mpr (by omega))]
        rw [mm_gd_t (mm_ix_n (by omega) (by omega)), nI_cl (by omega), cc_isOut, mm_bd_some, ec, hnf, mm_bd_some, mo_isOut μ S rfl (by omega), mm_bd_some]
        by_cases ho : S (139 + 17 * n + 1) = -1
        · rw [if_pos ho, if_neg (show ¬ (1 : Int32) = 0 by decide), if_pos ((out_iff (hW.ct hn)).mpr ho), if_neg (show ¬ (1 : Int32) = 0 by decide)]
          exact same _
        · rw [if_neg ho, if_pos rfl, if_neg (fun z => ho ((out_iff (hW.ct hn)).mp z)), if_pos rfl, ep, cl, mm_bd_some, m1, md_isLocked _ _ rfl (by omega), mm_bd_some, m33]
          by_cases hl : uN d ≤ ph
          · rw [if_pos hl, if_neg (show ¬ (1 : Int32) = 0 by decide), if_pos ((lock_iff hd hph).mpr hl), if_neg (show ¬ (1 : Int32) = 0 by decide)]
            exact same _
          · rw [if_neg hl, if_pos rfl, if_neg (fun z => hl ((lock_iff hd hph).mp z)), if_pos rfl, e6, ef]
            by_cases htf : t < f
            · obtain ⟨g, hg, eg⟩ := hW.2.2.2.2.2.1 t htf
              obtain ⟨μ1, p1, p2, p3⟩ := mo_put μ S
              obtain ⟨v, σ1, μ2, T, y1, y2, y3, y4, y5⟩ := best_L (x3 := x) hW hp hph hn ho (by omega) hrk0 hg (by unfold JB; omega) 7 0 mm_FU mm_FU (-1) (-1) (-1) 0 S σ μ1 (by omega) (by unfold mm_FU; omega) (by unfold mm_FU; omega) hR (fun _ _ => rfl) p2 (Or.inl ⟨rfl, rfl, rfl⟩)
              rw [if_pos ((nI_lt2 (by omega) (by omega)).mpr htf), mm_gd_t (mm_ix_n (by omega) (by omega)), mm_li_e, nI_cl (by omega), hR.fl htf, if_pos htf, eg, if_pos (nI_pos' (by omega)), p1, mm_bd_some]
              exact ⟨v, σ1, μ2, T, y1, y2, y3, MG.trans (fun q t n i hh => p3 q t n i (by omega)) y4.mg, y5⟩
            · rw [if_neg (fun z => htf ((nI_lt2 (by omega) (by omega)).mp z)), if_neg htf, if_neg (show ¬ (0 : Int32) ≤ -1 by decide)]
              exact same _
      · rw [if_neg hx, if_pos rfl, if_pos rfl]
        exact same _
    · rw [if_neg hb, if_pos rfl, if_pos rfl]
      exact same _
  · rw [if_neg ha, if_pos rfl, if_pos rfl]
    exact same _
