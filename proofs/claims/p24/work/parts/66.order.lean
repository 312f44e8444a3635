/-! the order of the carts in a phase -/
def OE (c r ph : Nat) (σ μ : mm_M) (i : Nat) : Prop := ∃ n, n < c ∧ σ 7 14 0 i = nI n ∧ μ 10 37 0 i = nI n ∧ σ r 8 n ph ≠ 0
theorem OE.mv {c r ph i : Nat} {σ μ σ1 μ1 : mm_M} (h : OE c r ph σ μ i) (e1 : σ1 7 14 0 i = σ 7 14 0 i) (e2 : μ1 10 37 0 i = μ 10 37 0 i) (e3 : ∀ n, σ1 r 8 n = σ r 8 n) : OE c r ph σ1 μ1 i := by
  obtain ⟨n, a, b, d, e⟩ := h
  exact ⟨n, a, e1.trans b, e2.trans d, by rw [e3]; exact e⟩
theorem ins_L {B c f r ph n K : Nat} {S : Nat → Int32} {x3 : Int32} {k14 : Int32 → Int32 → mm_M → mm_R} (hW : WF B c f S) (hr : r < 6) (hph : ph < 5) (hn : n < c) (hK : K < 4) (hnz : S (139 + 17 * n + (8 + 2 * ph)) ≠ 0) : ∀ (j fu fu2 : Nat) (σ μ : mm_M), j < fu → j < fu2 → j ≤ K → RS c f σ r S → (∀ i, i ≤ K → i ≠ j → OE c r ph σ μ i) → ∃ σ1 μ1, fx_X2_insert_L23 r (nI n) x3 fu (nI ph) (S (139 + 17 * n + (8 + 2 * ph))) (nI j) σ = some (0, σ1) ∧ fx_X11_orders_L46 k14 fu2 (nI ph) (nI n) (nI j) (mw μ S) = k14 (nI ph) (nI (n + 1)) (mw μ1 S) ∧ (∀ i, i ≤ K → OE c r ph σ1 μ1 i) ∧ RS c f σ1 r S ∧ μ1 10 30 0 9 = μ 10 30 0 9 + 1 := by
  have hc4 := hW.c4
  have store : ∀ (j : Nat) (σ μ : mm_M), j ≤ K → RS c f σ r S → (∀ i, i ≤ K → i ≠ j → OE c r ph σ μ i) → ∃ σ1 μ1, fx_X2_insert_J75 r (nI n) x3 (nI j) σ = some (0, σ1) ∧ fx_X11_orders_J92 k14 (nI ph) (nI n) (nI j) (mw μ S) = k14 (nI ph) (nI (n + 1)) (mw μ1 S) ∧ (∀ i, i ≤ K → OE c r ph σ1 μ1 i) ∧ RS c f σ1 r S ∧ μ1 10 30 0 9 = μ 10 30 0 9 + 1 := by
    intro j σ μ hj hR hO
    refine ⟨mm_u σ 7 14 0 j (nI n), mm_u (mm_u μ 10 37 0 j (nI n)) 10 30 0 9 (μ 10 30 0 9 + 1), ?_, ?_, fun i hi => ?_, hR.congr (fun t m i ht => by rw [mm_u_ap, if_neg (by omega)]), ?_⟩
    · rw [fx_X2_insert_J75, mm_gd_t (mm_ix_n (by omega) (by omega)), mm_lt_e, nI_cl (by omega)]
    · rw [fx_X11_orders_J92, mm_gd_t (mm_ix_n (by omega) (by omega)), mm_lt_e, nI_cl (by omega), mw_s μ S _ (by omega), mm_lt_e, mw_s _ S _ (by omega), mm_li_e, nI_1, mw_oth _ S (by omega), mm_u_ap, if_neg (by omega)]
    · by_cases hij : i = j
      · subst hij
        refine ⟨n, hn, ?_, ?_, ?_⟩
        · rw [mm_u_ap, if_pos ⟨rfl, rfl, rfl, rfl⟩]
        · rw [mm_u_ap, if_neg (by omega), mm_u_ap, if_pos ⟨rfl, rfl, rfl, rfl⟩]
        · rw [mm_u_ap, if_neg (by omega), hR.rk hn hph]
          exact hnz
      · refine (hO i hi hij).mv ?_ ?_ ?_
        · rw [mm_u_ap, if_neg (by omega)]
        · rw [mm_u_ap, if_neg (by omega), mm_u_ap, if_neg (by omega)]
        · intro m
          funext k
          rw [mm_u_ap, if_neg (by omega)]
    · rw [mm_u_ap, if_pos ⟨rfl, rfl, rfl, rfl⟩]
  intro j
  induction j with
  | zero =>
    intro fu fu2 σ μ hf hf2 hj hR hO
    obtain ⟨g, rfl⟩ : ∃ g, fu = g + 1 := ⟨fu - 1, by omega⟩
    obtain ⟨g2, rfl⟩ : ∃ g, fu2 = g + 1 := ⟨fu2 - 1, by omega⟩
    rw [fx_X2_insert_L23, if_pos (show nI 0 ≤ (0 : Int32) by decide), fx_X11_orders_L46, if_pos (show nI 0 ≤ (0 : Int32) by decide)]
    exact store 0 σ μ hj hR hO
  | succ j ih =>
    intro fu fu2 σ μ hf hf2 hj hR hO
    obtain ⟨g, rfl⟩ : ∃ g, fu = g + 1 := ⟨fu - 1, by omega⟩
    obtain ⟨g2, rfl⟩ : ∃ g, fu2 = g + 1 := ⟨fu2 - 1, by omega⟩
    have hz : ¬ nI (j + 1) ≤ (0 : Int32) := nle_lit (x := nI (j + 1)) (b := j + 1) (a := 0) rfl (by omega) (by omega)
    have ej : nI (j + 1) - 1 = nI j := pk_sub (a := j + 1) (b := 1) (by omega)
    obtain ⟨m, hm, em, em2, hmz⟩ := hO j (by omega) (by omega)
    have G1 : ∀ x, mm_gd (mm_ix (nI j) 4 = true) x = x := fun x => mm_gd_t (mm_ix_n (by omega) (by omega)) x
    have G2 : ∀ x, mm_gd (mm_ix (nI (j + 1)) 4 = true) x = x := fun x => mm_gd_t (mm_ix_n (by omega) (by omega)) x
    have G3 : ∀ x, mm_gd (mm_ix (nI m) 4 = true) x = x := fun x => mm_gd_t (mm_ix_n (by omega) (by omega)) x
    have G4 : ∀ x, mm_gd (mm_ix (nI ph) 5 = true) x = x := fun x => mm_gd_t (mm_ix_n (by omega) (by omega)) x
    have c1 : (nI j).toNatClampNeg = j := nI_cl (by omega)
    have c2 : (nI (j + 1)).toNatClampNeg = j + 1 := nI_cl (by omega)
    have c3 : (nI m).toNatClampNeg = m := nI_cl (by omega)
    have c4 : (nI ph).toNatClampNeg = ph := nI_cl (by omega)
    rw [fx_X2_insert_L23, if_neg hz, fx_X11_orders_L46, if_neg hz]
    simp only [ej, G1, G2, c1, c2, em, G3, G4, c3, c4, hR.rk hm hph, mw_oth μ S (show ¬ (10 = 10 ∧ 37 = 31 ∧ 0 = 0) by omega), em2, mm_lt_e, mm_li_e, pk_m1]
    rw [mo_rank μ S rfl rfl (by omega) hph, mm_bd_some, mo_rank μ S rfl rfl (by omega) hph, mm_bd_some]
    by_cases hle : S (139 + 17 * n + (8 + 2 * ph)) ≤ S (139 + 17 * m + (8 + 2 * ph))
    · rw [if_pos hle, if_pos hle]
      exact store (j + 1) σ μ hj hR hO
    · rw [if_neg hle, if_neg hle, mw_oth μ S (by omega), em2, mw_s μ S _ (by omega)]
      obtain ⟨σ1, μ1, h1, h2, h3, h4, h5⟩ := ih g g2 (mm_u σ 7 14 0 (j + 1) (nI m)) (mm_u μ 10 37 0 (j + 1) (nI m)) (by omega) (by omega) (by omega) (hR.congr (fun t m i ht => by rw [mm_u_ap, if_neg (by omega)])) (fun i hi hij => by
        by_cases hi1 : i = j + 1
        · subst hi1
          refine ⟨m, hm, ?_, ?_, ?_⟩
          · rw [mm_u_ap, if_pos ⟨rfl, rfl, rfl, rfl⟩]
          · rw [mm_u_ap, if_pos ⟨rfl, rfl, rfl, rfl⟩]
          · rw [mm_u_ap, if_neg (by omega)]
            exact hmz
        · refine (hO i hi hi1).mv ?_ ?_ ?_
          · rw [mm_u_ap, if_neg (by omega)]
          · rw [mm_u_ap, if_neg (by omega)]
          · intro m
            funext k
            rw [mm_u_ap, if_neg (by omega)])
      refine ⟨σ1, μ1, h1, h2, h3, h4, h5.trans ?_⟩
      rw [mm_u_ap, if_neg (by omega)]
theorem arr_L {B c f r ph : Nat} {S : Nat → Int32} (hW : WF B c f S) (hr : r < 6) (hp : S 1 = nI ph) (hph : ph < 5) : ∀ (e k K fu fu2 : Nat) (σ μ : mm_M), k + e = c → e < fu → e < fu2 → K ≤ k → RS c f σ r S → (∀ i, i < K → OE c r ph σ μ i) → μ 10 30 0 9 = nI K → ∃ K2 σ1 μ1, K2 ≤ c ∧ fx_X2_arrange_L4 r fu (nI K) (nI k) σ = some (nI K2, σ1) ∧ fx_X11_orders_L14 fu2 (nI ph) (nI k) (mw μ S) = some (0, mw μ1 S) ∧ (∀ i, i < K2 → OE c r ph σ1 μ1 i) ∧ RS c f σ1 r S ∧ μ1 10 30 0 9 = nI K2 := by
  have hc4 := hW.c4
  intro e
  induction e with
  | zero =>
    intro k K fu fu2 σ μ hk hf hf2 hKk hR hO h9
    obtain ⟨g, rfl⟩ : ∃ g, fu = g + 1 := ⟨fu - 1, by omega⟩
    obtain ⟨g2, rfl⟩ : ∃ g, fu2 = g + 1 := ⟨fu2 - 1, by omega⟩
    have : k = c := by omega
    subst this
    have hc0 : σ r 0 0 2 = nI k := hR.s0.trans hW.s0
    have hc1 : mw μ S 10 31 0 (0 : Int32).toNatClampNeg = nI k := by rw [mw_row]; exact hW.s0
    rw [fx_X2_arrange_L4, hc0, if_pos (le_lit rfl (Nat.le_refl _) (by omega)), fx_X11_orders_L14, hc1, if_pos (le_lit rfl (Nat.le_refl _) (by omega))]
    exact ⟨K, σ, μ, hKk, rfl, rfl, hO, hR, h9⟩
  | succ e ih =>
    intro k K fu fu2 σ μ hk hf hf2 hKk hR hO h9
    obtain ⟨g, rfl⟩ : ∃ g, fu = g + 1 := ⟨fu - 1, by omega⟩
    obtain ⟨g2, rfl⟩ : ∃ g, fu2 = g + 1 := ⟨fu2 - 1, by omega⟩
    have hc0 : σ r 0 0 2 = nI c := hR.s0.trans hW.s0
    have hc1 : mw μ S 10 31 0 (0 : Int32).toNatClampNeg = nI c := by rw [mw_row]; exact hW.s0
    have hkc : ¬ nI c ≤ nI k := nle_lit rfl (by omega) (by omega)
    have ec : σ r 6 k 3 = S (139 + 17 * k + 1) := hR.ct (by omega) (k := 1) (by omega)
    have ep : σ r 0 0 3 = nI ph := hR.ph.trans hp
    have er : σ r 8 k ph = S (139 + 17 * k + (8 + 2 * ph)) := hR.rk (by omega) hph
    rw [fx_X2_arrange_L4, hc0, if_neg hkc, mm_gd_t (mm_ix_n (by omega) (by omega)), nI_cl (by omega), cc_isOut, mm_bd_some, ec, fx_X11_orders_L14, hc1, if_neg hkc, mo_isOut μ S rfl (by omega), mm_bd_some]
    by_cases ho : S (139 + 17 * k + 1) = -1
    · rw [if_pos ho, if_neg (show ¬ (1 : Int32) = 0 by decide), mm_li_e, nI_1, if_pos ((out_iff (hW.ct (by omega))).mpr ho), if_neg (show ¬ (1 : Int32) = 0 by decide), mm_li_e]
      exact ih (k + 1) K g g2 σ μ (by omega) (by omega) (by omega) (by omega) hR hO h9
    · rw [if_neg ho, if_pos rfl, if_neg (fun z => ho ((out_iff (hW.ct (by omega))).mp z)), if_pos rfl, ep, fx_X3_hasCard, mm_gd_t (mm_ix_n (by omega) (by omega)), nI_cl (by omega), er, mo_rank μ S rfl rfl (by omega) hph, mm_bd_some]
      obtain ⟨rk, hrk, erk⟩ : isN (S (139 + 17 * k + (8 + 2 * ph))) 1000 := ((hW.ct (n := k) (by omega)).2.2.2.2.2.2.2 ph hph).1
      by_cases hz : S (139 + 17 * k + (8 + 2 * ph)) ≤ 0
      · rw [if_pos hz, mm_bd_some, if_pos rfl, mm_li_e, nI_1, if_pos hz, mm_li_e]
        exact ih (k + 1) K g g2 σ μ (by omega) (by omega) (by omega) (by omega) hR hO h9
      · rw [if_neg hz, mm_bd_some, if_neg (show ¬ (1 : Int32) = 0 by decide), if_neg hz, mm_li_e, mw_oth μ S (by omega), h9]
        have hnz : S (139 + 17 * k + (8 + 2 * ph)) ≠ 0 := fun z => hz (by rw [z]; decide)
        obtain ⟨σ1, μ1, h1, h2, h3, h4, h5⟩ := ins_L (x3 := nI K) (k14 := fun z0 z1 z => fx_X11_orders_L14 g2 z0 z1 z) hW hr hph (n := k) (K := K) (by omega) (by omega) hnz K mm_FU mm_FU σ μ (by unfold mm_FU; omega) (by unfold mm_FU; omega) (Nat.le_refl _) hR (fun i hi hij => hO i (by omega))
        have h1' : fx_X2_insert r (nI k) (nI K) σ = some (0, σ1) := by
          rw [fx_X2_insert, mm_li_e, ep, mm_gd_t (mm_ix_n (by omega) (by omega)), mm_gd_t (mm_ix_n (by omega) (by omega)), mm_li_e, nI_cl (by omega), nI_cl (by omega), er]
          exact h1
        rw [h1', h2, mm_bd_some, mm_li_e, mm_li_e, nI_1, nI_1]
        exact ih (k + 1) (K + 1) g g2 σ1 μ1 (by omega) (by omega) (by omega) (by omega) h4 (fun i hi => h3 i (by omega)) (h5.trans (by rw [h9, nI_1]))
theorem arr_both {B c f r ph : Nat} {S : Nat → Int32} {σ μ : mm_M} (hW : WF B c f S) (hr : r < 6) (hp : S 1 = nI ph) (hph : ph < 5) (hR : RS c f σ r S) : ∃ K2 σ1 μ1, K2 ≤ c ∧ fx_X2_arrange r σ = some (nI K2, σ1) ∧ fx_X11_orders (mw μ S) = some (0, mw μ1 S) ∧ (∀ i, i < K2 → OE c r ph σ1 μ1 i) ∧ RS c f σ1 r S ∧ μ1 10 30 0 9 = nI K2 := by
  have hc4 := hW.c4
  rw [fx_X2_arrange, fx_X11_orders, mm_lt_e, mw_s μ S _ (by omega), mm_li_e]
  have e1 : mw (mm_u μ 10 30 0 9 0) S 10 31 0 (1 : Int32).toNatClampNeg = nI ph := by rw [mw_row]; exact hp
  rw [e1]
  exact arr_L hW hr hp hph c 0 0 mm_FU mm_FU σ _ (by omega) (by unfold mm_FU; omega) (by unfold mm_FU; omega) (by omega) hR (fun i hi => absurd hi (by omega)) (by rw [mm_u_ap, if_pos ⟨rfl, rfl, rfl, rfl⟩]; rfl)
/-- all registers of the phase, one cart after the other; then the rest of the phase -/
def cls_rest (r : Nat) (v2 : Int32) (σ : mm_M) : mm_R := mm_bd (fx_X0_carry r σ) fun _ s_5 => (mm_bd (fx_X8_turnOnGears r s_5) fun _ s_6 => (mm_bd (fx_X8_touchFlags r s_6) fun _ s_7 => (mm_bd (fx_X8_countPhase r s_7) fun _ s_8 => (if (s_8 r 0 0 3) = (0 : Int32) then mm_bd (fx_X8_repairAndClear r s_8) fun _ s_10 => (mm_bd (fx_X8_bringBack r s_10) fun _ s_11 => (fx_X7_runNext_J92 r v2 s_11)) else fx_X7_runNext_J92 r v2 s_8))))
def mod_rest (v1 : Int32) (σ : mm_M) : mm_R := mm_bd (fx_X11_belts  σ) fun _ s_5 => (mm_bd (fx_X11_gears  s_5) fun _ s_6 => (mm_bd (fx_X11_touches  s_6) fun _ s_7 => (mm_lt (mm_u s_7 10 31 0 (5 : Int32).toNatClampNeg ((s_7 10 31 0 (5 : Int32).toNatClampNeg) + (1 : Int32))) fun s_8 => (mm_lt (mm_u s_8 10 31 0 (1 : Int32).toNatClampNeg ((s_8 10 31 0 (1 : Int32).toNatClampNeg) + (1 : Int32))) fun s_9 => (if (s_9 10 31 0 (1 : Int32).toNatClampNeg) = (5 : Int32) then mm_bd (fx_X11_ends  s_9) fun _ s_11 => (fx_X11_passes_J117 v1 s_11) else fx_X11_passes_J117 v1 s_9)))))
theorem run_L {B c f r ph K : Nat} {v1 : Int32} (hr : r < 6) (hph : ph < 5) (hK : K ≤ 4) : ∀ (e i fu fu2 : Nat) (S : Nat → Int32) (σ μ : mm_M), i + e = K → e < fu → e < fu2 → WF B c f S → RS c f σ r S → S 1 = nI ph → (∀ i, i < K → OE c r ph σ μ i) → μ 10 30 0 9 = nI K → ∃ S1 σ1 μ1, fx_X7_runNext_L27 r fu v1 (nI K) (nI i) σ = cls_rest r v1 σ1 ∧ fx_X11_passes_L18 fu2 v1 (nI ph) (nI i) (mw μ S) = mod_rest v1 (mw μ1 S1) ∧ WF B c f S1 ∧ RS c f σ1 r S1 ∧ S1 1 = nI ph ∧ MO (4000 * e) c S S1 := by
  intro e
  induction e with
  | zero =>
    intro i fu fu2 S σ μ hk hf hf2 hW hR hp hO h9
    obtain ⟨g, rfl⟩ : ∃ g, fu = g + 1 := ⟨fu - 1, by omega⟩
    obtain ⟨g2, rfl⟩ : ∃ g, fu2 = g + 1 := ⟨fu2 - 1, by omega⟩
    have : i = K := by omega
    subst this
    refine ⟨S, σ, μ, ?_, ?_, hW, hR, hp, MO.rf⟩
    · rw [fx_X7_runNext_L27, if_pos (le_lit rfl (Nat.le_refl _) (by omega))]
      rfl
    · rw [fx_X11_passes_L18, mw_oth μ S (by omega), h9, if_pos (le_lit rfl (Nat.le_refl _) (by omega))]
      rfl
  | succ e ih =>
    intro i fu fu2 S σ μ hk hf hf2 hW hR hp hO h9
    obtain ⟨g, rfl⟩ : ∃ g, fu = g + 1 := ⟨fu - 1, by omega⟩
    obtain ⟨g2, rfl⟩ : ∃ g, fu2 = g + 1 := ⟨fu2 - 1, by omega⟩
    have hc4 := hW.c4
    obtain ⟨n, hn, en, en2, hz⟩ := hO i (by omega)
    have hiK : ¬ nI K ≤ nI i := nle_lit rfl (by omega) (by omega)
    rw [fx_X7_runNext_L27, if_neg hiK, mm_gd_t (mm_ix_n (by omega) (by omega)), nI_cl (by omega), en, fx_X11_passes_L18, mw_oth μ S (by omega), h9, if_neg hiK, mm_gd_t (mm_ix_n (by omega) (by omega)), nI_cl (by omega), mw_oth μ S (by omega), en2, mo_isOut μ S rfl (by omega), mm_bd_some]
    by_cases ho : S (139 + 17 * n + 1) = -1
    · rw [follow_out hW hR hn ho, mm_bd_some, mm_li_e, nI_1, if_pos ((out_iff (hW.ct hn)).mpr ho), if_neg (show ¬ (1 : Int32) = 0 by decide), mm_li_e]
      obtain ⟨S2, σ2, μ2, b1, b2, b3, b4, b5, b6⟩ := ih (i + 1) g g2 S σ μ (by omega) (by omega) (by omega) hW hR hp hO h9
      exact ⟨S2, σ2, μ2, b1, b2, b3, b4, b5, b6.le (by omega)⟩
    · have hz2 : S (139 + 17 * n + (8 + 2 * ph)) ≠ 0 := by rw [← hR.rk hn hph]; exact hz
      obtain ⟨S1, σ1, μ1, e1, e2, hW1, hR1, hM1⟩ := follow_both (μ := μ) hW hR hr hn hp hph hz2 ho
      have eix : (7 : Int32) + 2 * nI ph = nI (7 + 2 * ph) := by
        show nI 7 + nI 2 * nI ph = _
        rw [pk_mul, nI_add]
      rw [e1, mm_bd_some, mm_li_e, nI_1, if_neg (fun z => ho ((out_iff (hW.ct hn)).mp z)), if_pos rfl, mm_gd_t (mm_ix_n (by omega) (by omega)), mm_gd_t (mm_ix_n (by omega) (by omega)), eix, mw_oth μ S (by omega), en2, mo_of μ S rfl rfl (by omega), mm_bd_some, e2, mm_bd_some, mm_li_e]
      have F1 := fr_X2_follow r (nI n) σ 0 σ1 e1
      have F2 := fr_X11_does _ _ _ _ _ e2
      have hro : ∀ t n, (q : Nat) → q = 10 ∧ (t = 37 ∨ t = 30) → mm_fr (fw_X11_does (nI n) (S (139 + 17 * n + (7 + 2 * ph)))) (mw μ S) (mw μ1 S1) → True := fun _ _ _ _ _ => trivial
      have f37 : μ1 10 37 0 = μ 10 37 0 := by
        have := F2.row (q := 10) (t := 37) (n := 0) (fun j hj => by unfold fw_X11_does at hj; omega)
        rw [mw_oth μ1 S1 (by omega), mw_oth μ S (by omega)] at this
        exact this
      have f30 : μ1 10 30 0 = μ 10 30 0 := by
        have := F2.row (q := 10) (t := 30) (n := 0) (fun j hj => by unfold fw_X11_does at hj; omega)
        rw [mw_oth μ1 S1 (by omega), mw_oth μ S (by omega)] at this
        exact this
      have g14 : σ1 7 14 0 = σ 7 14 0 := F1.row (fun j hj => by unfold fw_X2_follow at hj; omega)
      have g8 : ∀ n, σ1 r 8 n = σ r 8 n := fun n => F1.row (fun j hj => by unfold fw_X2_follow at hj; omega)
      have g1 : σ1 r 0 0 3 = σ r 0 0 3 := F1 _ _ _ _ (by unfold fw_X2_follow; omega)
      obtain ⟨S2, σ2, μ2, b1, b2, b3, b4, b5, b6⟩ := ih (i + 1) g g2 S1 σ1 μ1 (by omega) (by omega) (by omega) hW1 hR1 (hR1.ph.symm.trans (g1.trans (hR.ph.trans hp))) (fun k hk => (hO k hk).mv (by rw [g14]) (by rw [f37]) g8) (by rw [f30]; exact h9)
      exact ⟨S2, σ2, μ2, b1, b2, b3, b4, b5, (hM1.trans b6).le (by omega)⟩
