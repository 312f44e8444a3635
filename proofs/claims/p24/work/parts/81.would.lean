/-! where a cart would be, the best move, steps -/
theorem fresh_cf {σ : mm_M} : ∃ σa, fx_X10_freshTrial σ = some (0, σa) ∧ C0 1 0 σ σa ∧ (∀ q t n i, q ≠ 1 → σa q t n i = σ q t n i) ∧ CF σ σa := by
  obtain ⟨σa, ea, ca, fa⟩ := copy0 (r0 := 1) (r1 := 0) (σ := σ) (by omega)
  exact ⟨σa, by rw [fx_X10_freshTrial, ea, mm_bd_some], ca, fa, fun q t n i hh => fa q t n i (by omega)⟩
theorem would_x {c f n X j : Nat} (hn : n < c) (hj : j ≤ 3) (hX : X ≤ 20) : ∀ (e i fu B ph : Nat) (S : Nat → Int32) (σ : mm_M), i + e = X → e < fu → B + e < 100000 → WF B c f S → RS c f σ 1 S → S 1 = nI ph → ph < 5 → XS B c ph S → ∃ σ1 S1 B1, fx_X10_would_L42 (nI n) (nI X) (nI j) fu (nI i) σ = some (vCartOf S1 n j, σ1) ∧ CF σ σ1 ∧ TM c S S1 ∧ WF B1 c f S1 := by
  intro e
  induction e with
  | zero =>
    intro i fu B ph S σ hk hf hB hW hR hp hph hXS
    obtain ⟨g, rfl⟩ : ∃ g, fu = g + 1 := ⟨fu - 1, by omega⟩
    have : i = X := by omega
    subst this
    have hc4 := hW.c4
    rw [fx_X10_would_L42, if_pos (le_lit rfl (Nat.le_refl _) (by omega)), mm_gd_t (mm_ix_n (by omega) (by omega)), nI_cl (by omega), q_val hW hR hn (by omega), mm_bd_some]
    exact ⟨σ, S, B, rfl, CF.rf, fun _ _ => Or.inl rfl, hW⟩
  | succ e ih =>
    intro i fu B ph S σ hk hf hB hW hR hp hph hXS
    obtain ⟨g, rfl⟩ : ∃ g, fu = g + 1 := ⟨fu - 1, by omega⟩
    obtain ⟨t, S1, σ1, μ1, ht, e1, e2, hW1, hR1, hp1, hX1, _, hT⟩ := phase_x (μ := σ) hW (show 1 < 6 by omega) hp hph hR (by omega) (by omega) hXS
    have hiX : ¬ nI X ≤ nI i := nle_lit rfl (by omega) (by omega)
    obtain ⟨σ2, S2, B2, y1, y2, y3, y4⟩ := ih (i + 1) g (B + 1) (if ph < 4 then ph + 1 else 0) S1 σ1 (by omega) (by omega) (by omega) hW1 hR1 hp1 (by split <;> omega) hX1
    rw [fx_X10_would_L42, if_neg hiX, e1, mm_bd_some, mm_li_e, nI_1]
    exact ⟨σ2, S2, B2, y1, (run_cf e1).trans y2, hT.trans y3, y4⟩
theorem q_would {B n X j : Nat} {σ : mm_M} {S : Nat → Int32} (hB : B < 90000) (hG : GS B σ 0 S) (hn : n < cN S) (hX : X ≤ 20) (hj : j ≤ 3) : ∃ σ1 S1 B1 f, fx_X10_would (nI n) (nI X) (nI j) σ = some (vCartOf S1 n j, σ1) ∧ CF σ σ1 ∧ TM (cN S) S S1 ∧ WF B1 (cN S) f S1 := by
  obtain ⟨c, f, ph, hW, hR, hp, hph, hXS⟩ := hG
  rw [cN_eq hW] at hn ⊢
  have hc4 := hW.c4
  have hn3 : (0 : Int32) ≤ nI n ∧ nI n < nI c := ⟨nI_pos' (by omega), (nI_lt2 (by omega) (by omega)).mpr hn⟩
  have hX3 : (0 : Int32) ≤ nI X ∧ nI X ≤ 20 := ⟨nI_pos' (by omega), (nI_g (b := 20) (by omega) (by omega)).mpr hX⟩
  have hj3 : (0 : Int32) ≤ nI j ∧ nI j ≤ 3 := ⟨nI_pos' (by omega), (nI_g (b := 3) (by omega) (by omega)).mpr hj⟩
  obtain ⟨σa, ea, ca, fa, cfa⟩ := fresh_cf (σ := σ)
  obtain ⟨σ1, S1, B1, y1, y2, y3, y4⟩ := would_x hn hj hX X 0 mm_FU B ph S σa (by omega) (by unfold mm_FU; omega) (by omega) hW (hR.copy hc4 hW.f4 ca) hp hph hXS
  rw [fx_X10_would, cc_hasCart 0 _ σ (hR.s0.trans hW.s0), mm_bd_some, if_pos hn3, if_neg (show ¬ (1 : Int32) = 0 by decide), cc_isWithin, mm_bd_some, if_pos hX3, if_neg (show ¬ (1 : Int32) = 0 by decide), cc_isWithin, mm_bd_some, if_pos hj3, if_neg (show ¬ (1 : Int32) = 0 by decide), ea, mm_bd_some]
  exact ⟨σ1, S1, B1, f, y1, cfa.trans y2, y3, y4⟩
/-! the best move -/
theorem dif_eq {a b : Nat} (ha : a < 1000) (hb : b < 1000) (σ μ : mm_M) : ∃ t, t < 1000 ∧ fx_J9_abs_0f7a4 (nI a - nI b) σ = some (nI t, σ) ∧ fx_X11_difference (nI a) (nI b) μ = some (nI t, μ) := by
  by_cases h : b ≤ a
  · refine ⟨a - b, by omega, ?_, ?_⟩
    · rw [fx_J9_abs_0f7a4, pk_sub h, if_pos (nI_pos' (by omega))]
    · rw [fx_X11_difference, if_pos (le_lit rfl h (by omega)), pk_sub h]
  · refine ⟨b - a, by omega, ?_, ?_⟩
    · have hn : ¬ (0 : Int32) ≤ nI a - nI b := by
        intro z
        rw [Int32.le_iff_toInt_le, pk_sub_toInt (by omega) (by omega)] at z
        have : (0 : Int32).toInt = 0 := by decide
        omega
      rw [fx_J9_abs_0f7a4, if_neg hn, Int32.neg_sub, pk_sub (by omega)]
    · rw [fx_X11_difference, if_neg (show ¬ nI b ≤ nI a from nle_lit rfl (by omega) (by omega)), pk_sub (by omega)]
theorem dist_eq {q g : Nat} (hq : q < 64) (hg : g < 64) (σ μ : mm_M) : ∃ t, t < 2000 ∧ fx_X1_distance (nI q) (nI g) σ = some (nI t, σ) ∧ fx_X11_far (nI q) (nI g) μ = some (nI t, μ) := by
  obtain ⟨t1, h1, a1, b1⟩ := dif_eq (a := q % 8) (b := g % 8) (by omega) (by omega) σ μ
  obtain ⟨t2, h2, a2, b2⟩ := dif_eq (a := q / 8) (b := g / 8) (by omega) (by omega) σ μ
  refine ⟨t1 + t2, by omega, ?_, ?_⟩
  · rw [fx_X1_distance, nI_rem8 hq, nI_rem8 hg, a1, mm_bd_some, nI_div8 hq, nI_div8 hg, a2, mm_bd_some, nI_add]
  · rw [fx_X11_far, nI_rem8 hq, nI_rem8 hg, b1, mm_bd_some, nI_div8 hq, nI_div8 hg, b2, mm_bd_some, nI_add]
theorem p33 {σ σ1 : mm_M} {S S1 : Nat → Int32} {v : Int32} (e : fx_X11_passes (mw σ S) = some (v, mw σ1 S1)) (i : Nat) : σ1 10 33 0 i = σ 10 33 0 i := by
  have h := fr_X11_passes _ v _ e 10 33 0 i (by unfold fw_X11_passes; omega)
  rw [mw_oth σ S (by omega), mw_oth σ1 S1 (by omega)] at h
  exact h
theorem far_x {B c f ph n m rk g : Nat} {S : Nat → Int32} {σ : mm_M} (hW : WF B c f S) (hR : RS c f σ 0 S) (hp : S 1 = nI ph) (hph : ph < 5) (hn : n < c) (hin : S (139 + 17 * n + 1) ≠ -1) (hm : m < 7) (hrk : rk < 1000) (hrk0 : rk ≠ 0) (hg : g < 64) (hB : B < 100000) : ∃ v σ1, fx_X10_distanceBehind (nI n) (nI m) (nI rk) (nI g) σ = some (v, σ1) ∧ CF σ σ1 ∧ (v = -1 ∨ ∃ t, t < 2000 ∧ v = nI t) := by
  have hc4 := hW.c4
  have hf4 := hW.f4
  obtain ⟨σa, ea, ca, fa, cfa⟩ := fresh_cf (σ := σ)
  have hRa : RS c f σa 1 S := hR.copy hc4 hf4 ca
  have epa : σa 1 0 0 3 = nI ph := hRa.ph.trans hp
  have hR2 : RS c f (mm_u (mm_u σa 1 7 n ph (nI m)) 1 8 n ph (nI rk)) 1 (upd (upd S (139 + 17 * n + (7 + 2 * ph)) (nI m)) (139 + 17 * n + (8 + 2 * ph)) (nI rk)) := by
    refine hRa.reg hc4 hf4 hn hph (fun t m i hh => ?_) ?_ (fun _ => ?_)
    · rw [mm_u_ap, if_neg (by omega), mm_u_ap, if_neg (by omega)]
    · rw [mm_u_ap, if_pos ⟨rfl, rfl, rfl, rfl⟩]
    · rw [mm_u_ap, if_neg (by omega), mm_u_ap, if_pos ⟨rfl, rfl, rfl, rfl⟩]
  have hW2 := hW.reg (mv := nI m) (rk := nI rk) hn hph ⟨rk, by omega, rfl⟩ (Or.inr ⟨m, by omega, rfl⟩)
  have hp2 : upd (upd S (139 + 17 * n + (7 + 2 * ph)) (nI m)) (139 + 17 * n + (8 + 2 * ph)) (nI rk) 1 = nI ph := (pk_un (by omega)).trans ((pk_un (by omega)).trans hp)
  have o2 : upd (upd S (139 + 17 * n + (7 + 2 * ph)) (nI m)) (139 + 17 * n + (8 + 2 * ph)) (nI rk) (139 + 17 * n + 5) = S (139 + 17 * n + 5) := (pk_un (by omega)).trans (pk_un (by omega))
  have c2 : upd (upd S (139 + 17 * n + (7 + 2 * ph)) (nI m)) (139 + 17 * n + (8 + 2 * ph)) (nI rk) (139 + 17 * n + 1) = S (139 + 17 * n + 1) := (pk_un (by omega)).trans (pk_un (by omega))
  obtain ⟨t, S1, σ1, μ1, ht, e1, e2, hW1, hR1, hp1, hMO⟩ := phase_both (μ := σ) hW2 (show 1 < 6 by omega) hp2 hph hR2 (by omega) (by omega)
  obtain ⟨a, ha, ea5⟩ : isN (S (139 + 17 * n + 5)) (B + 1) := (hW.ct hn).2.2.2.2.2.1
  obtain ⟨b, hab, hb2, eb, hstay⟩ := hMO n hn a (o2.trans ea5)
  have w7 : mm_u (mm_u σa 1 7 n ph (nI m)) 1 8 n ph (nI rk) 1 6 n 7 = nI a := (hR2.ct hn (k := 5) (by omega)).trans (o2.trans ea5)
  have w17 : σ1 1 6 n 7 = nI b := (hR1.ct hn (k := 5) (by omega)).trans eb
  have hcf : CF σ σ1 := cfa.trans (CF.trans (fun q t n i hh => by rw [mm_u_ap, if_neg (by omega), mm_u_ap, if_neg (by omega)]) (run_cf e1))
  rw [fx_X10_distanceBehind, ea, mm_bd_some, mm_gd_t (mm_ix_n (by omega) (by omega)), nI_cl (by omega), epa, fx_X3_lay, mm_gd_t (mm_ix_n (by omega) (by omega)), mm_lt_e, mm_gd_t (mm_ix_n (by omega) (by omega)), mm_lt_e, mm_bd_some, nI_cl (by omega), mm_li_e, w7, e1, mm_bd_some, w17]
  by_cases hbe : b = a
  · have hc1 := hstay hbe (by rw [c2]; exact hin)
    obtain ⟨q, hq, eq⟩ := (hW1.ct hn).cell.elim (fun z => absurd z hc1) id
    have wc : σ1 1 6 n 3 = nI q := (hR1.ct hn (k := 1) (by omega)).trans eq
    obtain ⟨d, hd, d1, d2⟩ := dist_eq hq hg σ1 (mw μ1 S1)
    rw [if_pos (by rw [hbe]), cc_isOut, mm_bd_some, wc, if_neg (nI_m1 (by omega)), if_pos rfl, d1, mm_bd_some]
    exact ⟨_, σ1, rfl, hcf, Or.inr ⟨d, hd, rfl⟩⟩
  · rw [if_neg (fun z => hbe ((nI_e (by omega) (by omega)).mp z))]
    exact ⟨_, σ1, rfl, hcf, Or.inl rfl⟩
theorem best_x {B c f ph n rk g : Nat} {S : Nat → Int32} (hW : WF B c f S) (hp : S 1 = nI ph) (hph : ph < 5) (hn : n < c) (hin : S (139 + 17 * n + 1) ≠ -1) (hrk : rk < 1000) (hrk0 : rk ≠ 0) (hg : g < 64) (hB : B < 100000) : ∀ (e m fu : Nat) (u6 u7 : Int32) (σ : mm_M), m + e = 7 → e < fu → RS c f σ 0 S → ((u6 = -1 ∧ u7 = -1) ∨ ∃ x t, x < 7 ∧ t < 2000 ∧ u6 = nI x ∧ u7 = nI t) → ∃ v σ1, fx_X10_best_L116 (nI n) (nI rk) 0 fu (nI g) u6 u7 (nI m) σ = some (v, σ1) ∧ CF σ σ1 ∧ (v = -1000004 ∨ ∃ x, x < 7 ∧ v = nI x) := by
  have hc4 := hW.c4
  have hf4 := hW.f4
  intro e
  induction e with
  | zero =>
    intro m fu u6 u7 σ hk hf hR hinv
    obtain ⟨g1, rfl⟩ : ∃ g, fu = g + 1 := ⟨fu - 1, by omega⟩
    have : m = 7 := by omega
    subst this
    rw [fx_X10_best_L116, if_pos (show (6 : Int32) < nI 7 by decide)]
    rcases hinv with ⟨rfl, rfl⟩ | ⟨x, t, hx, ht, rfl, rfl⟩
    · rw [if_pos rfl]
      exact ⟨_, σ, rfl, CF.rf, Or.inl rfl⟩
    · rw [if_neg (nI_m1 (by omega)), if_pos rfl]
      exact ⟨_, σ, rfl, CF.rf, Or.inr ⟨x, hx, rfl⟩⟩
  | succ e ih =>
    intro m fu u6 u7 σ hk hf hR hinv
    obtain ⟨g1, rfl⟩ : ∃ g, fu = g + 1 := ⟨fu - 1, by omega⟩
    obtain ⟨v, σ1, d1, dC, dv⟩ := far_x (m := m) hW hR hp hph hn hin (by omega) hrk hrk0 hg hB
    have hR1 : RS c f σ1 0 S := hR.congr (fun t n i _ => dC _ _ _ _ (by omega))
    have go : ∀ u6' u7', ((u6' = -1 ∧ u7' = -1) ∨ ∃ x t, x < 7 ∧ t < 2000 ∧ u6' = nI x ∧ u7' = nI t) → ∃ v σ2, fx_X10_best_L116 (nI n) (nI rk) 0 g1 (nI g) u6' u7' (nI (m + 1)) σ1 = some (v, σ2) ∧ CF σ σ2 ∧ (v = -1000004 ∨ ∃ x, x < 7 ∧ v = nI x) := by
      intro u6' u7' hi
      obtain ⟨v, σ2, x1, x2, x3⟩ := ih (m + 1) g1 u6' u7' σ1 (by omega) (by omega) hR1 hi
      exact ⟨v, σ2, x1, dC.trans x2, x3⟩
    rw [fx_X10_best_L116, if_neg (show ¬ (6 : Int32) < nI m from nlt_lit (a := 6) (b := m) rfl (by omega) (by omega)), d1, mm_bd_some]
    rcases dv with rfl | ⟨t, ht, rfl⟩
    · rw [if_pos rfl, mm_li_e, nI_1]
      exact go u6 u7 hinv
    · rw [if_neg (nI_m1 (by omega))]
      rcases hinv with ⟨rfl, rfl⟩ | ⟨x, t2, hx, ht2, rfl, rfl⟩
      · rw [if_pos rfl, fx_X10_best_J154, mm_li_e, nI_1]
        exact go _ _ (Or.inr ⟨m, t, by omega, ht, rfl, rfl⟩)
      · rw [if_neg (nI_m1 (by omega))]
        by_cases hle : nI t2 ≤ nI t
        · rw [if_pos hle, mm_li_e, nI_1]
          exact go _ _ (Or.inr ⟨x, t2, hx, ht2, rfl, rfl⟩)
        · rw [if_neg hle, fx_X10_best_J154, mm_li_e, nI_1]
          exact go _ _ (Or.inr ⟨m, t, by omega, ht, rfl, rfl⟩)
theorem q_best {B n rk : Nat} {σ : mm_M} {S : Nat → Int32} (hB : B < 90000) (hG : GS B σ 0 S) (hrk : rk < 1000) (hrk0 : rk ≠ 0) (hbig : n < 1000) : ∃ v σ1, fx_X10_best (nI n) (nI rk) 0 σ = some (v, σ1) ∧ CF σ σ1 ∧ ((cN S ≤ n ∧ v = -1000001) ∨ (n < cN S ∧ (v = -1000002 ∨ v = -1000004 ∨ ∃ x, x < 7 ∧ v = nI x))) := by
  obtain ⟨c, f, ph, hW, hR, hp, hph, hXS⟩ := hG
  rw [cN_eq hW]
  have hc4 := hW.c4
  have hf4 := hW.f4
  rw [fx_X10_best, cc_hasCart 0 _ σ (hR.s0.trans hW.s0), mm_bd_some]
  by_cases hn : n < c
  · have hn3 : (0 : Int32) ≤ nI n ∧ nI n < nI c := ⟨nI_pos' (by omega), (nI_lt2 (by omega) (by omega)).mpr hn⟩
    have hr3 : (1 : Int32) ≤ nI rk ∧ nI rk ≤ 999 := ⟨(nI_g (a := 1) (by omega) (by omega)).mpr (by omega), (nI_g (b := 999) (by omega) (by omega)).mpr (by omega)⟩
    rw [if_pos hn3, if_neg (show ¬ (1 : Int32) = 0 by decide), cc_isWithin, mm_bd_some, if_pos hr3, if_neg (show ¬ (1 : Int32) = 0 by decide), cc_isWithin, mm_bd_some, if_pos (show (0 : Int32) ≤ 0 ∧ (0 : Int32) ≤ 1 by decide), if_neg (show ¬ (1 : Int32) = 0 by decide)]
    obtain ⟨d, hd, ed⟩ : isN (S (139 + 17 * n + 3)) 10 := (hW.ct hn).2.2.2.1
    obtain ⟨t, ht, et⟩ : isN (S (139 + 17 * n + 4)) (f + 1) := (hW.ct hn).2.2.2.2.1
    have e5 : σ 0 6 n 5 = nI d := (hR.ct hn (k := 3) (by omega)).trans ed
    have e6 : σ 0 6 n 6 = nI t := (hR.ct hn (k := 4) (by omega)).trans et
    have ec : σ 0 6 n 3 = S (139 + 17 * n + 1) := hR.ct hn (k := 1) (by omega)
    have ep : σ 0 0 0 3 = nI ph := hR.ph.trans hp
    have ef : σ 0 1 0 3 = nI f := hR.fc.trans hW.s3
    have hu := uN_5 d
    have cl : fx_X3_isLocked 0 n (nI ph) σ = some (if uN d ≤ ph then 1 else 0, σ) := by
      rw [fx_X3_isLocked, cc_unlocked hd e5, mm_bd_some]
      by_cases h : uN d ≤ ph
      · rw [if_pos h, if_neg (fun z => absurd ((nI_lt2 (by omega) (by omega)).mp z) (by omega))]
      · rw [if_neg h, if_pos ((nI_lt2 (by omega) (by omega)).mpr (by omega))]
    rw [mm_gd_t (mm_ix_n (by omega) (by omega)), nI_cl (by omega), cc_isOut, mm_bd_some, ec]
    by_cases ho : S (139 + 17 * n + 1) = -1
    · rw [if_pos ho, if_neg (show ¬ (1 : Int32) = 0 by decide)]
      exact ⟨_, σ, rfl, CF.rf, Or.inr ⟨hn, Or.inl rfl⟩⟩
    · rw [if_neg ho, if_pos rfl, ep, cl, mm_bd_some]
      by_cases hl : uN d ≤ ph
      · rw [if_pos hl, if_neg (show ¬ (1 : Int32) = 0 by decide)]
        exact ⟨_, σ, rfl, CF.rf, Or.inr ⟨hn, Or.inl rfl⟩⟩
      · rw [if_neg hl, if_pos rfl, e6, ef]
        by_cases htf : t < f
        · obtain ⟨g, hg, eg⟩ := hW.2.2.2.2.2.1 t htf
          obtain ⟨v, σ1, y1, y2, y3⟩ := best_x hW hp hph hn ho (by omega) hrk0 hg (by omega) 7 0 mm_FU (-1) (-1) σ (by omega) (by unfold mm_FU; omega) hR (Or.inl ⟨rfl, rfl⟩)
          rw [if_pos ((nI_lt2 (by omega) (by omega)).mpr htf), mm_gd_t (mm_ix_n (by omega) (by omega)), mm_li_e, nI_cl (by omega), hR.fl htf, eg]
          exact ⟨v, σ1, y1, y2, Or.inr ⟨hn, Or.inr y3⟩⟩
        · rw [if_neg (fun z => htf ((nI_lt2 (by omega) (by omega)).mp z))]
          exact ⟨_, σ, rfl, CF.rf, Or.inr ⟨hn, Or.inl rfl⟩⟩
  · rw [if_neg (show ¬ ((0 : Int32) ≤ nI n ∧ nI n < nI c) from fun z => hn ((nI_lt2 (by omega) (by omega)).mp z.2)), if_pos rfl]
    exact ⟨_, σ, rfl, CF.rf, Or.inl ⟨by omega, rfl⟩⟩
theorem fil_L : ∀ (e k fu : Nat) (σ : mm_M), k + e = 64 → e < fu → (∀ q, q < k → σ 7 21 0 q = -1) → ∃ σ1, fx_J7_fill_53178_k21_L5 (-1) fu (nI k) 64 σ = some (0, σ1) ∧ (∀ q, q < 64 → σ1 7 21 0 q = -1) ∧ ∀ q t m i, q ≠ 7 → σ1 q t m i = σ q t m i := by
  intro e
  induction e with
  | zero =>
    intro k fu σ hk hf h
    obtain ⟨g, rfl⟩ : ∃ g, fu = g + 1 := ⟨fu - 1, by omega⟩
    have : k = 64 := by omega
    subst this
    rw [fx_J7_fill_53178_k21_L5, if_pos (show (64 : Int32) ≤ nI 64 by decide)]
    exact ⟨σ, rfl, h, fun _ _ _ _ _ => rfl⟩
  | succ e ih =>
    intro k fu σ hk hf h
    obtain ⟨g, rfl⟩ : ∃ g, fu = g + 1 := ⟨fu - 1, by omega⟩
    obtain ⟨σ1, e1, h1, f1⟩ := ih (k + 1) g (mm_u σ 7 21 0 k (-1)) (by omega) (by omega) (fun q hq => by
      by_cases hqk : q = k
      · subst hqk; rw [mm_u_ap, if_pos ⟨rfl, rfl, rfl, rfl⟩]
      · rw [mm_u_ap, if_neg (by omega)]; exact h q (by omega))
    rw [fx_J7_fill_53178_k21_L5, if_neg (cell_nI (show k < 64 by omega)).2, mm_gd_t (mm_ix_n (by omega) (by omega)), mm_lt_e, mm_li_e, nI_cl (by omega), nI_1]
    exact ⟨σ1, e1, h1, fun q t m i hh => (f1 q t m i hh).trans (by rw [mm_u_ap, if_neg (by omega)])⟩
theorem q_steps {q : Nat} {σ : mm_M} (hq : q < 64) : ∃ σ1, fx_X10_steps (nI q) (nI q) σ = some (0, σ1) ∧ CF σ σ1 := by
  obtain ⟨σ1, e1, h1, f1⟩ := fil_L 64 0 mm_FU σ (by omega) (by unfold mm_FU; omega) (fun q hq => absurd hq (by omega))
  have u0 : mm_u σ1 7 20 0 2 0 7 21 0 q = -1 := by rw [mm_u_ap, if_neg (by omega)]; exact h1 q hq
  have u1 : mm_u σ1 7 20 0 2 0 7 20 0 2 = 0 := by rw [mm_u_ap, if_pos ⟨rfl, rfl, rfl, rfl⟩]
  have u2 : mm_u (mm_u σ1 7 20 0 2 0) 7 21 0 q 0 7 20 0 2 = 0 := by rw [mm_u_ap, if_neg (by omega)]; exact u1
  have u3 : mm_u (mm_u (mm_u σ1 7 20 0 2 0) 7 21 0 q 0) 7 22 0 0 (nI q) 7 20 0 2 = 0 := by rw [mm_u_ap, if_neg (by omega)]; exact u2
  have er : fx_X9_reach (nI q) 0 (mm_u σ1 7 20 0 2 0) = some (0, mm_u (mm_u (mm_u (mm_u σ1 7 20 0 2 0) 7 21 0 q 0) 7 22 0 0 (nI q)) 7 20 0 2 (nI 1)) := by
    rw [fx_X9_reach, mm_gd_t (mm_ix_n hq (by omega)), nI_cl (by omega), u0, if_pos rfl, u1, if_neg (show ¬ (64 : Int32) ≤ 0 by decide), mm_gd_t (mm_ix_n hq (by omega)), mm_lt_e, u2, mm_gd_t (by decide), mm_lt_e]
    show mm_lt (mm_u (mm_u (mm_u (mm_u σ1 7 20 0 2 0) 7 21 0 q 0) 7 22 0 0 (nI q)) 7 20 0 2 (mm_u (mm_u (mm_u σ1 7 20 0 2 0) 7 21 0 q 0) 7 22 0 0 (nI q) 7 20 0 2 + 1)) _ = _
    rw [u3, mm_lt_e]
    rfl
  have eD : mm_u (mm_u (mm_u (mm_u σ1 7 20 0 2 0) 7 21 0 q 0) 7 22 0 0 (nI q)) 7 20 0 2 (nI 1) 7 21 0 q = 0 := by
    rw [mm_u_ap, if_neg (by omega), mm_u_ap, if_neg (by omega), mm_u_ap, if_pos ⟨rfl, rfl, rfl, rfl⟩]
  have en : mm_u (mm_u (mm_u (mm_u σ1 7 20 0 2 0) 7 21 0 q 0) 7 22 0 0 (nI q)) 7 20 0 2 (nI 1) 7 20 0 2 = nI 1 := by rw [mm_u_ap, if_pos ⟨rfl, rfl, rfl, rfl⟩]
  have eF : CF σ (mm_u (mm_u (mm_u (mm_u σ1 7 20 0 2 0) 7 21 0 q 0) 7 22 0 0 (nI q)) 7 20 0 2 (nI 1)) := fun q2 t m i hh => by
    rw [mm_u_ap, if_neg (by omega), mm_u_ap, if_neg (by omega), mm_u_ap, if_neg (by omega), mm_u_ap, if_neg (by omega)]
    exact f1 _ _ _ _ (by omega)
  refine ⟨_, ?_, eF⟩
  rw [fx_X10_steps, cc_isCell, mm_bd_some, if_pos (cell64 (show q ≤ 63 by omega)), if_neg (show ¬ (1 : Int32) = 0 by decide), cc_isCell, mm_bd_some, if_pos (cell64 (show q ≤ 63 by omega)), if_neg (show ¬ (1 : Int32) = 0 by decide), bd_id, fx_X9_shortest, fx_J7_fill_53178_k21, show fx_J7_fill_53178_k21_L5 (-1) mm_FU 0 64 σ = _ from e1, mm_bd_some, mm_lt_e, er, mm_bd_some, show mm_FU = 1999 + 1 from rfl, fx_X9_shortest_L22, if_neg (show ¬ (64 : Int32) ≤ 0 by decide), en, if_neg (show ¬ nI 1 ≤ (0 : Int32) by decide), mm_gd_t (mm_ix_n hq (by omega)), nI_cl (by omega), eD, if_neg (show ¬ (0 : Int32) = -1 by decide), fx_X9_shortest_J66, mm_gd_t (mm_ix_n hq (by omega)), nI_cl (by omega), eD, if_neg (show ¬ (0 : Int32) = -1 by decide), mm_gd_t (mm_ix_n hq (by omega))]
