/-! carts come back; a phase on both sides -/
theorem mo_isGood {B c f q : Nat} {S : Nat → Int32} (μ : mm_M) (hW : WF B c f S) (hq : q < 64) : fx_X11_isGood (nI q) (mw μ S) = some (if S (11 + q) ≠ 7 ∧ sp_on S q c = -1 then 1 else 0, mw μ S) := by
  have hc4 := hW.c4
  have e11 : (11 : Int32) + nI q = nI (11 + q) := by show nI 11 + nI q = _; rw [nI_add]
  rw [fx_X11_isGood, e11, mm_gd_t (mm_ix_n (by omega) (by omega)), nI_cl (by omega), mw_row]
  by_cases h7 : S (11 + q) = 7
  · rw [if_pos h7, if_neg (fun z => z.1 h7)]
  · rw [if_neg h7, mo_cartOn μ S rfl hW.s0 hc4, mm_bd_some]
    rcases sp_on_spec S q c hc4 with ⟨a, b⟩ | ⟨m, hm, b, e2⟩
    · rw [a, if_neg (show ¬ (0 : Int32) ≤ -1 by decide), if_pos ⟨h7, rfl⟩]
    · rw [b, if_pos (nI_pos' (by omega)), if_neg (fun z => nI_m1 (by omega) z.2)]
theorem free_of {S : Nat → Int32} {q c : Nat} (hc : c ≤ 4) (hq : q < 64) (h : sp_on S q c = -1) : FREE S c (nI q) := by
  rcases sp_on_spec S q c hc with ⟨a, b⟩ | ⟨m, hm, b, e2⟩
  · exact Or.inr ⟨q, hq, rfl, b⟩
  · exact absurd (h.symm.trans b) (m1_nI (by omega))
theorem cc_good {B c f r q : Nat} {a b : Int32} {S : Nat → Int32} {σ : mm_M} (hW : WF B c f S) (hR : RS c f σ r (gl a b S)) (hq : q < 64) : fx_X1_isPit r (nI q) σ = some (if S (11 + q) = 7 then 1 else 0, σ) ∧ fx_X8_cartOn r (nI q) σ = some (sp_on S q c, σ) := by
  constructor
  · rw [cc_isPit r σ rfl hq, hR.kd hq, gl_un _ _ _ (by omega) (by omega)]
  · rw [cc_cartOn (hW.gl a b) hR rfl hq, sp_on_cg q c (fun n hn => gl_un _ _ _ (by omega) (by omega))]
theorem scan_L {B c f r n : Nat} {a b x1 : Int32} {S : Nat → Int32} {σ μ : mm_M} (hW : WF B c f S) (hR : RS c f σ r (gl a b S)) : ∀ (e q fu fu2 : Nat), q + e = 64 → e < fu → e < fu2 → ∃ v, fx_X8_cellToComeBack_L24 r x1 fu (nI q) σ = some (v, σ) ∧ fx_X11_comesBack_L17 (nI n) fu2 (nI q) (mw μ S) = fx_X11_comesBack_J51 (nI n) (nI n) 1 v (mw μ S) ∧ FREE S c v := by
  have hc4 := hW.c4
  intro e
  induction e with
  | zero =>
    intro q fu fu2 hk hf hf2
    obtain ⟨g, rfl⟩ : ∃ g, fu = g + 1 := ⟨fu - 1, by omega⟩
    obtain ⟨g2, rfl⟩ : ∃ g, fu2 = g + 1 := ⟨fu2 - 1, by omega⟩
    have : q = 64 := by omega
    subst this
    rw [fx_X8_cellToComeBack_L24, if_pos (show (64 : Int32) ≤ nI 64 by decide), fx_X11_comesBack_L17, if_pos (show (64 : Int32) ≤ nI 64 by decide), fx_X11_comesBack_J37, if_pos (show nI 64 = (64 : Int32) by decide)]
    exact ⟨-1, rfl, rfl, Or.inl rfl⟩
  | succ e ih =>
    intro q fu fu2 hk hf hf2
    obtain ⟨g, rfl⟩ : ∃ g, fu = g + 1 := ⟨fu - 1, by omega⟩
    obtain ⟨g2, rfl⟩ : ∃ g, fu2 = g + 1 := ⟨fu2 - 1, by omega⟩
    have hq : q < 64 := by omega
    have h64 : ¬ (64 : Int32) ≤ nI q := (cell_nI hq).2
    rw [fx_X8_cellToComeBack_L24, if_neg h64, (cc_good hW hR hq).1, mm_bd_some, fx_X11_comesBack_L17, if_neg h64, mo_isGood μ hW hq, mm_bd_some]
    by_cases h7 : S (11 + q) = 7
    · rw [if_pos h7, if_neg (show ¬ (1 : Int32) = 0 by decide), mm_li_e, nI_1, if_neg (show ¬ (S (11 + q) ≠ 7 ∧ sp_on S q c = -1) from fun z => z.1 h7), if_pos rfl, mm_li_e]
      exact ih (q + 1) g g2 (by omega) (by omega) (by omega)
    · rw [if_neg h7, if_pos rfl, (cc_good hW hR hq).2, mm_bd_some]
      by_cases ho : sp_on S q c = -1
      · rw [if_pos ho, if_pos (show S (11 + q) ≠ 7 ∧ sp_on S q c = -1 from ⟨h7, ho⟩), if_neg (show ¬ (1 : Int32) = 0 by decide), fx_X11_comesBack_J37, if_neg (ne_lit (a := q) (b := 64) (x := 64) rfl (by omega) (by omega) (by omega))]
        exact ⟨nI q, rfl, rfl, free_of hc4 hq ho⟩
      · rw [if_neg ho, mm_li_e, nI_1, if_neg (show ¬ (S (11 + q) ≠ 7 ∧ sp_on S q c = -1) from fun z => ho z.2), if_pos rfl, mm_li_e]
        exact ih (q + 1) g g2 (by omega) (by omega) (by omega)
theorem find_back {B c f r n : Nat} {a b : Int32} {S : Nat → Int32} {σ μ : mm_M} (hW : WF B c f S) (hR : RS c f σ r (gl a b S)) (hn : n < c) : ∃ v, fx_X8_cellToComeBack r (S (139 + 17 * n + 0)) σ = some (v, σ) ∧ fx_X11_comesBack (nI n) (mw μ S) = fx_X11_comesBack_J51 (nI n) (nI n) 1 v (mw μ S) ∧ FREE S c v := by
  have hc4 := hW.c4
  obtain ⟨q, hq, eq⟩ : isN (S (139 + 17 * n + 0)) 64 := (hW.ct hn).1
  have sc := scan_L (n := n) (x1 := nI q) (μ := μ) hW hR 64 0 mm_FU mm_FU (by omega) (by unfold mm_FU; omega) (by unfold mm_FU; omega)
  rw [fx_X8_cellToComeBack, eq, (cc_good hW hR hq).1, mm_bd_some, fx_X11_comesBack, mo_of (w := 0) (k := 0) μ S rfl rfl (by omega), mm_bd_some, eq, mo_isGood μ hW hq, mm_bd_some]
  by_cases h7 : S (11 + q) = 7
  · rw [if_pos h7, if_neg (show ¬ (1 : Int32) = 0 by decide), if_neg (show ¬ (S (11 + q) ≠ 7 ∧ sp_on S q c = -1) from fun z => z.1 h7), if_pos rfl]
    exact sc
  · rw [if_neg h7, if_pos rfl, (cc_good hW hR hq).2, mm_bd_some]
    by_cases ho : sp_on S q c = -1
    · rw [if_pos ho, if_pos (show S (11 + q) ≠ 7 ∧ sp_on S q c = -1 from ⟨h7, ho⟩), if_neg (show ¬ (1 : Int32) = 0 by decide), fx_X11_comesBack_J37, if_neg (ne_lit (a := q) (b := 64) (x := 64) rfl (by omega) (by omega) (by omega))]
      exact ⟨nI q, rfl, rfl, free_of hc4 hq ho⟩
    · rw [if_neg ho, if_neg (show ¬ (S (11 + q) ≠ 7 ∧ sp_on S q c = -1) from fun z => ho z.2), if_pos rfl]
      exact sc
theorem back_L {B c f r : Nat} {a : Int32} {μ : mm_M} (hr : r < 6) : ∀ (e k fu fu2 : Nat) (S : Nat → Int32) (σ : mm_M), k + e = c → e < fu → e < fu2 → WF B c f S → (∀ n, n < c → isN (S (139 + 17 * n + 5)) B) → RS c f σ r (gl a (S 2 + 1) S) → ∃ S1 σ1, fx_X8_bringBack_L2 r fu (nI k) σ = some (0, σ1) ∧ fx_X11_ends_L90 fu2 (nI k) (mw μ S) = some (0, mw μ (gl 0 (S1 2 + 1) S1)) ∧ WF B c f S1 ∧ RS c f σ1 r (gl a (S1 2 + 1) S1) ∧ ∀ m, m < c → S (139 + 17 * m + 1) ≠ -1 → S1 (139 + 17 * m + 1) = S (139 + 17 * m + 1) := by
  intro e
  induction e with
  | zero =>
    intro k fu fu2 S σ hk hf hf2 hW hO hR
    obtain ⟨g, rfl⟩ : ∃ g, fu = g + 1 := ⟨fu - 1, by omega⟩
    obtain ⟨g2, rfl⟩ : ∃ g, fu2 = g + 1 := ⟨fu2 - 1, by omega⟩
    have : k = c := by omega
    subst this
    have hc4 := hW.c4
    have hc0 : σ r 0 0 2 = nI k := hR.s0.trans hW.s0
    have hc1 : mw μ S 10 31 0 (0 : Int32).toNatClampNeg = nI k := by rw [mw_row]; exact hW.s0
    rw [fx_X8_bringBack_L2, hc0, if_pos (le_lit rfl (Nat.le_refl _) (by omega)), fx_X11_ends_L90, hc1, if_pos (le_lit rfl (Nat.le_refl _) (by omega)), mm_lt_e, mm_lt_e]
    refine ⟨S, σ, rfl, ?_, hW, hR, fun _ _ _ => rfl⟩
    show some ((0 : Int32), mm_u (mm_u (mw μ S) 10 31 0 1 0) 10 31 0 2 (mm_u (mw μ S) 10 31 0 1 0 10 31 0 2 + 1)) = _
    rw [mw_u, mw_u, mw_row, pk_un (f := S) (by omega)]
    rfl
  | succ e ih =>
    intro k fu fu2 S σ hk hf hf2 hW hO hR
    obtain ⟨g, rfl⟩ : ∃ g, fu = g + 1 := ⟨fu - 1, by omega⟩
    obtain ⟨g2, rfl⟩ : ∃ g, fu2 = g + 1 := ⟨fu2 - 1, by omega⟩
    have hc4 := hW.c4
    have hf4 := hW.f4
    have hkc : k < c := by omega
    have hc0 : σ r 0 0 2 = nI c := hR.s0.trans hW.s0
    have hc1 : mw μ S 10 31 0 (0 : Int32).toNatClampNeg = nI c := by rw [mw_row]; exact hW.s0
    have ec : σ r 6 k 3 = S (139 + 17 * k + 1) := (hR.ct hkc (k := 1) (by omega)).trans (gl_un _ _ _ (by omega) (by omega))
    have e0 : σ r 6 k 2 = S (139 + 17 * k + 0) := (hR.ct hkc (k := 0) (by omega)).trans (gl_un _ _ _ (by omega) (by omega))
    rw [fx_X8_bringBack_L2, hc0, if_neg (nle_lit rfl (by omega) (by omega) : ¬ nI c ≤ nI k), mm_gd_t (mm_ix_n (by omega) (by omega)), nI_cl (by omega), cc_isOut, mm_bd_some, ec, fx_X11_ends_L90, hc1, if_neg (nle_lit rfl (by omega) (by omega) : ¬ nI c ≤ nI k), mo_isOut μ S rfl (by omega), mm_bd_some]
    by_cases ho : S (139 + 17 * k + 1) = -1
    · obtain ⟨v, e1, e2, hF⟩ := find_back (μ := μ) hW hR hkc
      rw [if_pos ho, if_neg (show ¬ (1 : Int32) = 0 by decide), if_pos ((out_iff (hW.ct hkc)).mpr ho), if_neg (show ¬ (1 : Int32) = 0 by decide), e0, e1, mm_bd_some, mm_lt_e, mm_lt_e, mm_lt_e, e2]
      have hR3 : RS c f (mm_u (mm_u (mm_u σ r 6 k 3 v) r 6 k 4 0) r 6 k 5 2) r (gl a (S 2 + 1) (upd (upd (upd S (139 + 17 * k + 1) v) (139 + 17 * k + 2) 0) (139 + 17 * k + 3) 2)) := by
        have := ((hR.cart hc4 hf4 hkc (k := 1) (by omega) v).cart hc4 hf4 hkc (k := 2) (by omega) 0).cart hc4 hf4 hkc (k := 3) (by omega) 2
        rw [gl_sw _ _ _ (by omega), gl_sw _ _ _ (by omega), gl_sw _ _ _ (by omega)] at this
        exact this
      obtain ⟨σ4, h4, hR4⟩ := cc_empty (u := 5) hc4 hf4 hkc (by omega) hR3
      have hv : v = -1 ∨ (isN v 64 ∧ isN (S (139 + 17 * k + 5)) B ∧ ∀ m, m < c → m ≠ k → S (139 + 17 * m + 1) ≠ v) := by
        rcases hF with hF | ⟨q, hq, hv, hf⟩
        · exact Or.inl hF
        · exact Or.inr ⟨⟨q, hq, hv⟩, hO k hkc, fun m hm _ => by rw [hv]; exact hf m hm⟩
      have hW3 : WF B c f (upd (upd (upd S (139 + 17 * k + 1) v) (139 + 17 * k + 2) 0) (139 + 17 * k + 3) 2) := ((hW.cell hkc hv).cart hkc (k := 2) (by omega) (by omega) (fun z => absurd z (by omega)) (fun _ => ⟨0, by omega, rfl⟩) (fun z => absurd z (by omega)) (fun z => absurd z (by omega)) (fun z => absurd z (by omega))).cart hkc (k := 3) (by omega) (by omega) (fun z => absurd z (by omega)) (fun z => absurd z (by omega)) (fun _ => ⟨2, by omega, rfl⟩) (fun z => absurd z (by omega)) (fun z => absurd z (by omega))
      have hE := mo_emp1_L (n := k) (S := upd (upd (upd S (139 + 17 * k + 1) v) (139 + 17 * k + 2) 0) (139 + 17 * k + 3) 2) μ (by omega) 5 0 mm_FU (by omega) (by unfold mm_FU; omega)
      have s2 : emp (upd (upd (upd S (139 + 17 * k + 1) v) (139 + 17 * k + 2) 0) (139 + 17 * k + 3) 2) k 5 2 = S 2 := (emp_gl (by omega) 5).trans ((pk_un (by omega)).trans ((pk_un (by omega)).trans (pk_un (by omega))))
      obtain ⟨S1, σ1, b1, b2, b3, b4, b5⟩ := ih (k + 1) g g2 (emp (upd (upd (upd S (139 + 17 * k + 1) v) (139 + 17 * k + 2) 0) (139 + 17 * k + 3) 2) k 5) σ4 (by omega) (by omega) (by omega) (emp_wf hW3 hkc 5 (by omega)) (fun n hn => by
        rw [emp_lo (by omega) 5 (by omega), pk_un (ix_ne (by omega) (by omega) (by omega)), pk_un (ix_ne (by omega) (by omega) (by omega)), pk_un (ix_ne (by omega) (by omega) (by omega))]
        exact hO n hn) (by rw [s2]; exact hR4)
      have cl : ∀ m, m < c → m ≠ k → emp (upd (upd (upd S (139 + 17 * k + 1) v) (139 + 17 * k + 2) 0) (139 + 17 * k + 3) 2) k 5 (139 + 17 * m + 1) = S (139 + 17 * m + 1) := fun m hm hmk => by
        rw [emp_lo (by omega) 5 (by omega), pk_un (ix_ne (by omega) (by omega) (by omega)), pk_un (ix_ne (by omega) (by omega) (by omega)), pk_un (ix_ne (by omega) (by omega) (by omega))]
      refine ⟨S1, σ1, ?_, ?_, b3, b4, fun m hm hz => ?_⟩
      · rw [show fx_X3_emptyRegisters r k 5 (mm_u (mm_u (mm_u σ r 6 k 3 v) r 6 k 4 0) r 6 k 5 2) = some (0, σ4) from h4, mm_bd_some, mm_li_e, nI_1]
        exact b1
      · rw [fx_X11_comesBack_J51, mo_lays (w := 1) (k := 1) μ S rfl rfl (by omega), mm_bd_some, mo_lays (w := 2) (k := 2) μ _ rfl rfl (by omega), mm_bd_some, mo_lays (w := 3) (k := 3) μ _ rfl rfl (by omega), mm_bd_some, fx_X11_empties, show fx_X11_empties_L2 (nI k) 1 mm_FU 0 (mw μ (upd (upd (upd S (139 + 17 * k + 1) v) (139 + 17 * k + 2) 0) (139 + 17 * k + 3) 2)) = _ from hE, mm_bd_some, mm_bd_some, mm_li_e, nI_1]
        exact b2
      · have hmk : m ≠ k := fun z => hz (z ▸ ho)
        have e := cl m hm hmk
        rw [b5 m hm (by rw [e]; exact hz), e]
    · rw [if_neg ho, if_pos rfl, mm_li_e, nI_1, if_neg (fun z => ho ((out_iff (hW.ct hkc)).mp z)), if_pos rfl, mm_li_e]
      exact ih (k + 1) g g2 S σ (by omega) (by omega) (by omega) hW hO hR
theorem rest_both {B c f r ph : Nat} {v1 : Int32} {S : Nat → Int32} {σ μ : mm_M} (hW : WF B c f S) (hr : r < 6) (hp : S 1 = nI ph) (hph : ph < 5) (hR : RS c f σ r S) (hB : B < 800000) : ∃ S1 σ1 μ1, cls_rest r v1 σ = some (nI (osum S1 c) - v1, σ1) ∧ mod_rest v1 (mw μ S) = some (nI (osum S1 c) - v1, mw μ1 S1) ∧ WF (B + 1) c f S1 ∧ RS c f σ1 r S1 ∧ ((ph < 4 ∧ S1 1 = nI (ph + 1)) ∨ (ph = 4 ∧ S1 1 = 0)) ∧ MO 4 c S S1 := by
  have hc4 := hW.c4
  have hf4 := hW.f4
  obtain ⟨S1, σ1, μ1, a1, a2, hW1, hR1, p1, hM1⟩ := belt_both (μ := μ) hW hr hR
  obtain ⟨S2, σ2, b1, b2, hW2, hR2, p2⟩ := gear_L hr c 0 mm_FU mm_FU S1 σ1 μ1 (by omega) (by unfold mm_FU; omega) (by unfold mm_FU; omega) hW1 hR1
  obtain ⟨S3, σ3, c1, c2, hW3, hR3, p3⟩ := touch_L hr c 0 mm_FU mm_FU S2 σ2 μ1 (by omega) (by unfold mm_FU; omega) (by unfold mm_FU; omega) hW2 hR2
  have fo2 : ∀ n, n < c → S2 (139 + 17 * n + 5) = S1 (139 + 17 * n + 5) := fun n hn => (hR2.ct hn (k := 5) (by omega)).symm.trans ((fr_X8_turnOnGears_L2 r 0 σ2 mm_FU 0 σ1 b1 r 6 n 7 (by unfold fw_X8_turnOnGears; omega)).trans (hR1.ct hn (k := 5) (by omega)))
  have fo3 : ∀ n, n < c → S3 (139 + 17 * n + 5) = S2 (139 + 17 * n + 5) := fun n hn => (hR3.ct hn (k := 5) (by omega)).symm.trans ((fr_X8_touchFlags_L2 r 0 σ3 mm_FU 0 σ2 c1 r 6 n 7 (by unfold fw_X8_touchFlags; omega)).trans (hR2.ct hn (k := 5) (by omega)))
  have fc2 : ∀ n, n < c → S2 (139 + 17 * n + 1) = S1 (139 + 17 * n + 1) := fun n hn => (hR2.ct hn (k := 1) (by omega)).symm.trans ((fr_X8_turnOnGears_L2 r 0 σ2 mm_FU 0 σ1 b1 r 6 n 3 (by unfold fw_X8_turnOnGears; omega)).trans (hR1.ct hn (k := 1) (by omega)))
  have fc3 : ∀ n, n < c → S3 (139 + 17 * n + 1) = S2 (139 + 17 * n + 1) := fun n hn => (hR3.ct hn (k := 1) (by omega)).symm.trans ((fr_X8_touchFlags_L2 r 0 σ3 mm_FU 0 σ2 c1 r 6 n 3 (by unfold fw_X8_touchFlags; omega)).trans (hR2.ct hn (k := 1) (by omega)))
  have hM3 : MO 4 c S S3 := (hM1.trans (MO.eq (j := 0) (fun n hn => (fo3 n hn).trans (fo2 n hn)) (fun n hn => (fc3 n hn).trans (fc2 n hn)))).le (by omega)
  have q3 : S3 1 = nI ph := p3.trans (p2.trans (p1.trans hp))
  have e5 : σ3 r 0 0 5 = S3 5 := hR3.2.2.2.1
  have hR4 := hR3.glob hc4 hf4 (a := 5) (b := 5) (by omega) (S3 5 + 1)
  have hR5 := hR4.glob hc4 hf4 (a := 1) (b := 3) (by omega) (nI (ph + 1))
  have hW5 : WF B c f (upd (upd S3 5 (S3 5 + 1)) 1 (nI (ph + 1))) := (hW3.glob (a := 5) (by omega) _).glob (a := 1) (by omega) _
  have e3 : mm_u σ3 r 0 0 5 (S3 5 + 1) r 0 0 3 = nI ph := by
    rw [mm_u_ap, if_neg (by omega)]
    exact hR3.ph.trans q3
  have e33 : mm_u (mm_u σ3 r 0 0 5 (S3 5 + 1)) r 0 0 3 (nI (ph + 1)) r 0 0 3 = nI (ph + 1) := by
    rw [mm_u_ap, if_pos ⟨rfl, rfl, rfl, rfl⟩]
  have hcp : fx_X8_countPhase r σ3 = if ph = 4 then some (0, mm_u (mm_u (mm_u (mm_u σ3 r 0 0 5 (S3 5 + 1)) r 0 0 3 (nI (ph + 1))) r 0 0 3 0) r 0 0 4 (S3 2 + 1)) else some (0, mm_u (mm_u σ3 r 0 0 5 (S3 5 + 1)) r 0 0 3 (nI (ph + 1))) := by
    rw [fx_X8_countPhase, mm_lt_e, e5, mm_lt_e, e3, nI_1, e33]
    by_cases h4 : ph = 4
    · subst h4
      rw [if_pos (show nI (4 + 1) = (5 : Int32) by decide), if_pos rfl, mm_lt_e, mm_lt_e]
      have e4 : mm_u (mm_u (mm_u σ3 r 0 0 5 (S3 5 + 1)) r 0 0 3 (nI (4 + 1))) r 0 0 3 0 r 0 0 4 = S3 2 := by
        rw [mm_u_ap, if_neg (by omega), mm_u_ap, if_neg (by omega), mm_u_ap, if_neg (by omega)]
        exact hR3.2.2.1
      rw [e4]
    · rw [if_neg (ne_lit (a := ph + 1) (b := 5) (x := 5) rfl (by omega) (by omega) (by omega)), if_neg h4]
  have hm1 : ∀ X : mm_M → mm_R, (mm_lt (mm_u (mw μ1 S3) 10 31 0 (5 : Int32).toNatClampNeg ((mw μ1 S3 10 31 0 (5 : Int32).toNatClampNeg) + (1 : Int32))) fun s_8 => (mm_lt (mm_u s_8 10 31 0 (1 : Int32).toNatClampNeg ((s_8 10 31 0 (1 : Int32).toNatClampNeg) + (1 : Int32))) fun s_9 => X s_9)) = X (mw μ1 (upd (upd S3 5 (S3 5 + 1)) 1 (nI (ph + 1)))) := by
    intro X
    rw [mm_lt_e, mm_lt_e]
    show X (mm_u (mm_u (mw μ1 S3) 10 31 0 5 (mw μ1 S3 10 31 0 5 + 1)) 10 31 0 1 (mm_u (mw μ1 S3) 10 31 0 5 (mw μ1 S3 10 31 0 5 + 1) 10 31 0 1 + 1)) = _
    rw [mw_u, mw_row, mw_u, mw_row, pk_un (f := S3) (by omega), q3, nI_1]
  unfold cls_rest mod_rest
  rw [a1, mm_bd_some, fx_X8_turnOnGears, show fx_X8_turnOnGears_L2 r mm_FU 0 σ1 = some (0, σ2) from b1, mm_bd_some, fx_X8_touchFlags, show fx_X8_touchFlags_L2 r mm_FU 0 σ2 = some (0, σ3) from c1, mm_bd_some, hcp, a2, mm_bd_some, fx_X11_gears, show fx_X11_gears_L2 mm_FU 0 (mw μ1 S1) = some (0, mw μ1 S2) from b2, mm_bd_some, fx_X11_touches, show fx_X11_touches_L2 mm_FU 0 (mw μ1 S2) = some (0, mw μ1 S3) from c2, mm_bd_some, hm1 (fun s_9 => (if (s_9 10 31 0 (1 : Int32).toNatClampNeg) = (5 : Int32) then mm_bd (fx_X11_ends  s_9) fun _ s_11 => (fx_X11_passes_J117 v1 s_11) else fx_X11_passes_J117 v1 s_9))]
  have m1 : mw μ1 (upd (upd S3 5 (S3 5 + 1)) 1 (nI (ph + 1))) 10 31 0 (1 : Int32).toNatClampNeg = nI (ph + 1) := by
    rw [mw_row]
    exact pk_us
  simp only [m1]
  by_cases h4 : ph = 4
  · subst h4
    rw [if_pos rfl, mm_bd_some, if_pos (show nI (4 + 1) = (5 : Int32) by decide)]
    have e30 : (mm_u (mm_u (mm_u (mm_u σ3 r 0 0 5 (S3 5 + 1)) r 0 0 3 (nI (4 + 1))) r 0 0 3 0) r 0 0 4 (S3 2 + 1)) r 0 0 3 = 0 := by
      rw [mm_u_ap, if_neg (by omega), mm_u_ap, if_pos ⟨rfl, rfl, rfl, rfl⟩]
    rw [e30, if_pos rfl]
    have hR6 := (hR5.glob hc4 hf4 (a := 1) (b := 3) (by omega) 0).glob hc4 hf4 (a := 2) (b := 4) (by omega) (S3 2 + 1)
    have hR6' : RS c f (mm_u (mm_u (mm_u (mm_u σ3 r 0 0 5 (S3 5 + 1)) r 0 0 3 (nI (4 + 1))) r 0 0 3 0) r 0 0 4 (S3 2 + 1)) r (gl 0 (S3 2 + 1) (upd (upd S3 5 (S3 5 + 1)) 1 (nI (4 + 1)))) := hR6
    obtain ⟨S4, σ4, d1, d2, hW4, hR7, p4⟩ := rep_L (μ := μ1) hr c 0 mm_FU mm_FU _ _ (by omega) (by unfold mm_FU; omega) (by unfold mm_FU; omega) hW5 hR6'
    have p4' : S4 2 = S3 2 := p4.trans ((pk_un (by omega)).trans (pk_un (by omega)))
    rw [← p4'] at hR7
    have hO : ∀ n, n < c → isN (S4 (139 + 17 * n + 5)) (B + 1) := fun n hn => (hW4.ct hn).2.2.2.2.2.1
    obtain ⟨S5, σ5, g1, g2, hW6, hR8, b8⟩ := back_L (μ := μ1) (a := 0) hr c 0 mm_FU mm_FU S4 σ4 (by omega) (by unfold mm_FU; omega) (by unfold mm_FU; omega) (hW4.mono (Nat.le_succ B)) hO hR7
    have hW7 := hW6.gl 0 (S5 2 + 1)
    obtain ⟨o1, o2⟩ := outs_both μ1 hW7 hR8 (by omega)
    rw [fx_X8_repairAndClear, show fx_X8_repairAndClear_L2 r mm_FU 0 _ = some (0, σ4) from d1, mm_bd_some, fx_X8_bringBack, show fx_X8_bringBack_L2 r mm_FU 0 _ = some (0, σ5) from g1, mm_bd_some, fx_X7_runNext_J92, o1, mm_bd_some, fx_X11_ends, show fx_X11_ends_L2 mm_FU 0 _ = _ from d2, show fx_X11_ends_L90 mm_FU 0 _ = _ from g2, mm_bd_some, fx_X11_passes_J117, o2, mm_bd_some]
    have fo : ∀ n, n < c → gl 0 (S5 2 + 1) S5 (139 + 17 * n + 5) = S3 (139 + 17 * n + 5) := fun n hn => (hR8.ct hn (k := 5) (by omega)).symm.trans ((fr_X8_bringBack_L2 r 0 σ5 mm_FU 0 σ4 g1 r 6 n 7 (by unfold fw_X8_bringBack; omega)).trans ((fr_X8_repairAndClear_L2 r 0 σ4 mm_FU 0 _ d1 r 6 n 7 (by unfold fw_X8_repairAndClear; omega)).trans ((hR6'.ct hn (k := 5) (by omega)).trans ((gl_un _ _ _ (by omega) (by omega)).trans ((pk_un (by omega)).trans (pk_un (by omega)))))))
    have fc : ∀ n, n < c → S4 (139 + 17 * n + 1) = S3 (139 + 17 * n + 1) := fun n hn => (gl_un _ _ _ (by omega) (by omega)).symm.trans ((hR7.ct hn (k := 1) (by omega)).symm.trans ((fr_X8_repairAndClear_L2 r 0 σ4 mm_FU 0 _ d1 r 6 n 3 (by unfold fw_X8_repairAndClear; omega)).trans ((hR6'.ct hn (k := 1) (by omega)).trans ((gl_un _ _ _ (by omega) (by omega)).trans ((pk_un (by omega)).trans (pk_un (by omega)))))))
    exact ⟨_, σ5, μ1, rfl, rfl, hW7, hR8, Or.inr ⟨rfl, (pk_un (by omega)).trans pk_us⟩, (hM3.trans (MO.of (j := 0) fo (fun n hn z => by rw [gl_un _ _ _ (by omega) (by omega), b8 n hn (by rw [fc n hn]; exact z), fc n hn]; exact z))).le (by omega)⟩
  · rw [if_neg h4, mm_bd_some, if_neg (ne_lit (a := ph + 1) (b := 5) (x := 5) rfl (by omega) (by omega) (by omega)), e33, if_neg (show ¬ nI (ph + 1) = (0 : Int32) from ne_lit (b := 0) rfl (by omega) (by omega) (by omega))]
    obtain ⟨o1, o2⟩ := outs_both μ1 hW5 hR5 (by omega)
    rw [fx_X7_runNext_J92, o1, mm_bd_some, fx_X11_passes_J117, o2, mm_bd_some]
    exact ⟨_, _, μ1, rfl, rfl, hW5.mono (Nat.le_succ B), hR5, Or.inl ⟨by omega, pk_us⟩, (hM3.trans (MO.eq (j := 0) (fun n hn => (pk_un (by omega)).trans (pk_un (by omega))) (fun n hn => (pk_un (by omega)).trans (pk_un (by omega))))).le (by omega)⟩
/-- a phase: the class's runNext, the model's passes -/
theorem phase_both {B c f r ph : Nat} {S : Nat → Int32} {σ μ : mm_M} (hW : WF B c f S) (hr : r < 6) (hp : S 1 = nI ph) (hph : ph < 5) (hR : RS c f σ r S) (h0 : 0 < c) (hB : B < 800000) : ∃ t S1 σ1 μ1, t ≤ 4 * (B + 2) ∧ fx_X7_runNext r σ = some (nI t, σ1) ∧ fx_X11_passes (mw μ S) = some (nI t, mw μ1 S1) ∧ WF (B + 1) c f S1 ∧ RS c f σ1 r S1 ∧ ((ph < 4 ∧ S1 1 = nI (ph + 1)) ∨ (ph = 4 ∧ S1 1 = 0)) ∧ MO 16004 c S S1 := by
  have hc4 := hW.c4
  have hc0 : σ r 0 0 2 = nI c := hR.s0.trans hW.s0
  obtain ⟨o1, o2⟩ := outs_both μ hW hR (by omega)
  obtain ⟨K, σ1, μ1, hK, a1, a2, hO, hR1, h9⟩ := arr_both (μ := μ) hW hr hp hph hR
  obtain ⟨S2, σ2, μ2, b1, b2, hW2, hR2, p2, hM2⟩ := run_L (v1 := nI (osum S c)) hr hph (K := K) (by omega) K 0 mm_FU mm_FU S σ1 μ1 (by omega) (by unfold mm_FU; omega) (by unfold mm_FU; omega) hW hR1 hp hO h9
  obtain ⟨S3, σ3, μ3, c1, c2, hW3, hR3, p3, hM3⟩ := rest_both (v1 := nI (osum S c)) (μ := μ2) hW2 hr p2 hph hR2 hB
  have m1 : mw μ S 10 31 0 (1 : Int32).toNatClampNeg = nI ph := by
    rw [mw_row]
    exact hp
  have hle := osum_mo (B := B + 2) (by omega) (by omega) (hM2.trans hM3) (fun n hn => by
    obtain ⟨k, hk, e⟩ := (hW.ct hn).2.2.2.2.2.1
    exact ⟨k, by omega, e⟩) (fun n hn => (hW3.ct hn).2.2.2.2.2.1) c (Nat.le_refl _)
  have hbd := osum_le (B := B + 2) (S := S3) (by omega) c (fun n hn => (hW3.ct hn).2.2.2.2.2.1)
  have hbd2 : c * (B + 2) ≤ 4 * (B + 2) := Nat.mul_le_mul_right _ hc4
  have ev : nI (osum S3 c) - nI (osum S c) = nI (osum S3 c - osum S c) := pk_sub hle
  rw [ev] at c1 c2
  rw [fx_X7_runNext, hc0, if_neg (show ¬ nI c = (0 : Int32) from ne_lit (b := 0) rfl (by omega) (by omega) (by omega)), o1, mm_bd_some, a1, mm_bd_some, show fx_X7_runNext_L27 r mm_FU (nI (osum S c)) (nI K) 0 σ1 = _ from b1, c1, fx_X11_passes, o2, mm_bd_some, mm_li_e, m1, a2, mm_bd_some, show fx_X11_passes_L18 mm_FU (nI (osum S c)) (nI ph) 0 (mw μ1 S) = _ from b2, c2]
  exact ⟨_, S3, σ3, μ3, by omega, rfl, rfl, hW3, hR3, p3, (hM2.trans hM3).le (by omega)⟩
