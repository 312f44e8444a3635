/-! undo, the text's letters, and the plain questions -/
theorem undo_L {N : Nat} {μ : mm_M} (hN : N < 4) (h4 : μ 10 30 0 4 = nI N) : ∀ (e k fu : Nat) (T : Nat → Int32), k + e = 207 → e < fu → (∀ i, i < k → T i = μ 10 34 0 (207 * N + i)) → ∃ T1, fx_X11_undo_L22 fu (nI k) (mw μ T) = some (nI N, mw μ T1) ∧ ∀ i, i < 207 → T1 i = μ 10 34 0 (207 * N + i) := by
  intro e
  induction e with
  | zero =>
    intro k fu T hk hf h
    obtain ⟨g, rfl⟩ : ∃ g, fu = g + 1 := ⟨fu - 1, by omega⟩
    have : k = 207 := by omega
    subst this
    rw [fx_X11_undo_L22, if_pos (show (207 : Int32) ≤ nI 207 by decide), mw_oth μ T (by omega), h4]
    exact ⟨T, rfl, h⟩
  | succ e ih =>
    intro k fu T hk hf h
    obtain ⟨g, rfl⟩ : ∃ g, fu = g + 1 := ⟨fu - 1, by omega⟩
    have ei : ((207 : Int32) * nI N) + nI k = nI (207 * N + k) := by
      show nI 207 * nI N + nI k = _
      rw [pk_mul, nI_add]
    rw [fx_X11_undo_L22, if_neg (show ¬ (207 : Int32) ≤ nI k from nle_lit (x := 207) (b := 207) rfl (by omega) (by omega)), mw_oth μ T (by omega), h4, ei, mm_gd_t (mm_ix_n (by omega) (by omega)), mm_gd_t (mm_ix_n (by omega) (by omega)), mm_lt_e, mm_li_e, nI_cl (k := k) (by omega), nI_cl (by omega), nI_1, mw_u, mw_oth μ T (by omega)]
    refine ih (k + 1) g _ (by omega) (by omega) (fun i hi => ?_)
    by_cases hik : i = k
    · subst hik; rw [pk_us]
    · rw [pk_un hik]; exact h i (by omega)
theorem J_undo {k : Nat} {σ : mm_M} (hJ : JJ k σ) : ∃ v σ1 σ2, fx_X10_undo σ = some (v, σ1) ∧ fx_X11_undo σ1 = some (v, σ2) ∧ JJ (k + 1) σ2 := by
  obtain ⟨⟨N, R, ⟨hN4, h61, p, hp, hR⟩, hM⟩, hG, hT⟩ := id hJ
  by_cases hN : N = 0
  · subst hN
    refine ⟨-1000002, σ, σ, ?_, ?_, hJ.up⟩
    · rw [fx_X10_undo, h61, if_pos (show nI 0 = (0 : Int32) from rfl)]
    · rw [fx_X11_undo, hM.2.1, if_pos (show nI 0 = (0 : Int32) from rfl)]
  · obtain ⟨n, rfl⟩ : ∃ n, N = n + 1 := ⟨N - 1, by omega⟩
    have e1 : nI (n + 1) - 1 = nI n := pk_sub (a := n + 1) (b := 1) (by omega)
    have hz : ¬ nI (n + 1) = (0 : Int32) := ne_lit (b := 0) rfl (by omega) (by omega) (by omega)
    have hz2 : ¬ nI (n + 1) ≤ (0 : Int32) := nle_lit (a := 0) (b := n + 1) rfl (by omega) (by omega)
    have hpn := (hp.1 n (by omega)).1
    have u1 : mm_u σ 6 10 0 1 (nI n) 6 10 0 1 = nI n := by rw [mm_u_ap, if_pos ⟨rfl, rfl, rfl, rfl⟩]
    have u2 : mm_u σ 6 10 0 1 (nI n) 6 11 0 n = nI (2 + p n) := by rw [mm_u_ap, if_neg (by omega)]; exact (hp.1 n (by omega)).2
    obtain ⟨σ1, c1, c2, c3⟩ := copy0 (r0 := 0) (r1 := 2 + p n) (σ := mm_u σ 6 10 0 1 (nI n)) (by omega)
    have s61 : σ1 6 10 0 1 = nI n := (c3 _ _ _ _ (by omega)).trans u1
    have F : ∀ q t m i, q ≠ 0 → ¬ (q = 6 ∧ t = 10 ∧ i = 1) → σ1 q t m i = σ q t m i := fun q t m i a b => (c3 q t m i a).trans (by rw [mm_u_ap, if_neg (by omega)])
    have Gn : GS (JB k) σ1 0 (R n) := ((hR n (by omega)).congr (σ2 := mm_u σ 6 10 0 1 (nI n)) (fun t m i ht => by rw [mm_u_ap, if_neg (by omega)]) (fun _ _ => rfl)).copy c2
    have s4 : σ1 10 30 0 4 = nI (n + 1) := (F _ _ _ _ (by omega) (by omega)).trans hM.2.1
    obtain ⟨T1, m1, m2⟩ := undo_L (μ := mm_u σ1 10 30 0 4 (nI n)) (N := n) (by omega) (by rw [mm_u_ap, if_pos ⟨rfl, rfl, rfl, rfl⟩]) 207 0 mm_FU (σ1 10 31 0) (by omega) (by unfold mm_FU; omega) (fun i hi => absurd hi (by omega))
    have es : mw (mm_u σ1 10 30 0 4 (nI n)) (σ1 10 31 0) = mm_u σ1 10 30 0 4 (nI n) := by
      rw [← mw_s σ1 _ _ (by omega), mw_self]
    rw [es] at m1
    refine ⟨nI n, σ1, mw (mm_u σ1 10 30 0 4 (nI n)) T1, ?_, ?_, JJ.up ⟨⟨n, R, ⟨by omega, ?_, p, ⟨fun i hi => ⟨(hp.1 i hi).1, ?_⟩, hp.2⟩, fun i hi => ?_⟩, ⟨by omega, ?_, fun i hi v hv => ?_⟩⟩, ?_, ?_⟩⟩
    · rw [fx_X10_undo, h61, if_neg hz, fx_X4_restore, h61, if_neg hz2, mm_lt_e, e1, u1, mm_gd_t (mm_ix_n (by omega) (by omega)), nI_cl (by omega), u2, nI_cl (by omega), mm_gd_t (by omega), c1, mm_bd_some, mm_bd_some, s61]
    · rw [fx_X11_undo, s4, if_neg hz, mm_lt_e, e1]
      exact m1
    · rw [mw_oth _ T1 (by omega), mm_u_ap, if_neg (by omega)]; exact s61
    · rw [mw_oth _ T1 (by omega), mm_u_ap, if_neg (by omega), F _ _ _ _ (by omega) (by omega)]; exact (hp.1 i hi).2
    · have hpi := (hp.1 i (by omega)).1
      exact (hR i (by omega)).congr (fun t m j ht => by rw [mw_oth _ T1 (by omega), mm_u_ap, if_neg (by omega), F _ _ _ _ (by omega) (by omega)]) (fun _ _ => rfl)
    · rw [mw_oth _ T1 (by omega), mm_u_ap, if_pos ⟨rfl, rfl, rfl, rfl⟩]
    · rw [mw_oth _ T1 (by omega), mm_u_ap, if_neg (by omega), F _ _ _ _ (by omega) (by omega)]; exact hM.2.2 i (by omega) v hv
    · rw [mw_row]
      refine Gn.congr (fun t m j ht => by rw [mw_oth _ T1 (by omega), mm_u_ap, if_neg (by omega)]) (fun i hi => ?_)
      rw [m2 i hi, mm_u_ap, if_neg (by omega), F _ _ _ _ (by omega) (by omega)]
      exact hM.2.2 n (by omega) i hi
    · refine hT.congr ?_ (fun i => ?_) ?_ (fun i => ?_)
      · rw [mw_oth _ T1 (by omega), mm_u_ap, if_neg (by omega), F _ _ _ _ (by omega) (by omega)]
      · rw [mw_oth _ T1 (by omega), mm_u_ap, if_neg (by omega), F _ _ _ _ (by omega) (by omega)]
      · rw [mw_oth _ T1 (by omega), mm_u_ap, if_neg (by omega), F _ _ _ _ (by omega) (by omega)]
      · rw [mw_oth _ T1 (by omega), mm_u_ap, if_neg (by omega), F _ _ _ _ (by omega) (by omega)]
theorem ch_id : ∀ m : Fin 127, ((nI m.val).toUInt32 % 65536).toInt32 = nI m.val := by decide +kernel
theorem J_type {k : Nat} {σ : mm_M} (hJ : JJ k σ) (a : Int32) : ∃ v σ1 σ2, fx_X10_type a σ = some (v, σ1) ∧ fx_X11_type a σ1 = some (v, σ2) ∧ JJ (k + 1) σ2 := by
  obtain ⟨⟨N, R, hC, hM⟩, hG, ⟨L, hL, hl1, hl2, hl3⟩⟩ := id hJ
  by_cases ha : (32 : Int32) ≤ a ∧ a ≤ 126
  · obtain ⟨ch, hch, rfl⟩ := in_nat (x := a) (N := 126) (by omega) ⟨Int32.le_trans (by decide) ha.1, ha.2⟩
    have hch32 : 32 ≤ ch := (nI_g (a := 32) (b := ch) (by omega) (by omega)).mp ha.1
    have eid : ((nI ch).toUInt32 % 65536).toInt32 = nI ch := ch_id ⟨ch, by omega⟩
    by_cases h60 : L = 60
    · subst h60
      refine ⟨-1000003, σ, σ, ?_, ?_, hJ.up⟩
      · rw [fx_X10_type, cc_isWithin, mm_bd_some, if_pos ha, if_neg (show ¬ (1 : Int32) = 0 by decide), fx_X6_append, hl1, if_neg (show ¬ nI 60 < (60 : Int32) by decide), mm_bd_some]
      · rw [fx_X11_type, md_in, mm_bd_some, if_pos ha, if_neg (show ¬ (1 : Int32) = 0 by decide), hl2, if_pos (show nI 60 = (60 : Int32) by decide)]
    · have hlt : nI L < (60 : Int32) := (nI_lt2 (a := L) (b := 60) (by omega) (by omega)).mpr (by omega)
      have hg : (0 : Int32) ≤ nI ch ∧ nI ch < 65536 := ⟨nI_pos' (by omega), (nI_lt2 (a := ch) (b := 65536) (by omega) (by omega)).mpr (by omega)⟩
      have u1 : mm_u σ 8 24 0 L (nI ch) 8 23 0 1 = nI L := by rw [mm_u_ap, if_neg (by omega)]; exact hl1
      have w1 : mm_u (mm_u σ 8 24 0 L (nI ch)) 8 23 0 1 (nI (L + 1)) 10 30 0 6 = nI L := by rw [mm_u_ap, if_neg (by omega), mm_u_ap, if_neg (by omega)]; exact hl2
      refine ⟨nI (L + 1), mm_u (mm_u σ 8 24 0 L (nI ch)) 8 23 0 1 (nI (L + 1)), mm_u (mm_u (mm_u (mm_u σ 8 24 0 L (nI ch)) 8 23 0 1 (nI (L + 1))) 10 35 0 L (nI ch)) 10 30 0 6 (nI (L + 1)), ?_, ?_, JJ.up ⟨⟨N, R, hC.congr (fun q t n i a b => ?_), hM.congr ?_ (fun i => ?_)⟩, ?_, L + 1, by omega, ?_, ?_, fun i hi => ?_⟩⟩
      · rw [fx_X10_type, cc_isWithin, mm_bd_some, if_pos ha, if_neg (show ¬ (1 : Int32) = 0 by decide), eid, fx_X6_append, hl1, if_pos hlt, mm_gd_t (mm_ix_n (by omega) (by omega)), mm_gd_t hg, mm_lt_e, nI_cl (by omega), mm_lt_e, u1, nI_1, mm_bd_some, mm_u_ap, if_pos ⟨rfl, rfl, rfl, rfl⟩]
      · rw [fx_X11_type, md_in, mm_bd_some, if_pos ha, if_neg (show ¬ (1 : Int32) = 0 by decide), w1, if_neg (show ¬ nI L = (60 : Int32) from ne_lit (a := L) (b := 60) rfl h60 (by omega) (by omega)), mm_gd_t (mm_ix_n (by omega) (by omega)), mm_lt_e, nI_cl (by omega), mm_lt_e]
        have w2 : mm_u (mm_u (mm_u σ 8 24 0 L (nI ch)) 8 23 0 1 (nI (L + 1))) 10 35 0 L (nI ch) 10 30 0 6 = nI L := by rw [mm_u_ap, if_neg (by omega)]; exact w1
        rw [w2, nI_1, mm_u_ap, if_pos ⟨rfl, rfl, rfl, rfl⟩]
      · rw [mm_u_ap, if_neg (by omega), mm_u_ap, if_neg (by omega), mm_u_ap, if_neg (by omega), mm_u_ap, if_neg (by omega)]
      · rw [mm_u_ap, if_neg (by omega), mm_u_ap, if_neg (by omega), mm_u_ap, if_neg (by omega), mm_u_ap, if_neg (by omega)]
      · rw [mm_u_ap, if_neg (by omega), mm_u_ap, if_neg (by omega), mm_u_ap, if_neg (by omega), mm_u_ap, if_neg (by omega)]
      · exact hG.congr (fun t n i _ => by rw [mm_u_ap, if_neg (by omega), mm_u_ap, if_neg (by omega), mm_u_ap, if_neg (by omega), mm_u_ap, if_neg (by omega)]) (fun i _ => by rw [mm_u_ap, if_neg (by omega), mm_u_ap, if_neg (by omega), mm_u_ap, if_neg (by omega), mm_u_ap, if_neg (by omega)])
      · rw [mm_u_ap, if_neg (by omega), mm_u_ap, if_neg (by omega), mm_u_ap, if_pos ⟨rfl, rfl, rfl, rfl⟩]
      · rw [mm_u_ap, if_pos ⟨rfl, rfl, rfl, rfl⟩]
      · have ec : ∀ j, mm_u (mm_u (mm_u (mm_u σ 8 24 0 L (nI ch)) 8 23 0 1 (nI (L + 1))) 10 35 0 L (nI ch)) 10 30 0 6 (nI (L + 1)) 8 24 0 j = if j = L then nI ch else σ 8 24 0 j := by
          intro j
          rw [mm_u_ap, if_neg (by omega), mm_u_ap, if_neg (by omega), mm_u_ap, if_neg (by omega), mm_u_ap]
          by_cases hj : j = L
          · rw [if_pos ⟨rfl, rfl, rfl, hj⟩, if_pos hj]
          · rw [if_neg (fun z => hj z.2.2.2), if_neg hj]
        have em : ∀ j, mm_u (mm_u (mm_u (mm_u σ 8 24 0 L (nI ch)) 8 23 0 1 (nI (L + 1))) 10 35 0 L (nI ch)) 10 30 0 6 (nI (L + 1)) 10 35 0 j = if j = L then nI ch else σ 10 35 0 j := by
          intro j
          rw [mm_u_ap, if_neg (by omega), mm_u_ap]
          by_cases hj : j = L
          · rw [if_pos ⟨rfl, rfl, rfl, hj⟩, if_pos hj]
          · rw [if_neg (fun z => hj z.2.2.2), if_neg hj, mm_u_ap, if_neg (by omega), mm_u_ap, if_neg (by omega)]
        rw [ec, em]
        by_cases hiL : i = L
        · rw [if_pos hiL, if_pos hiL]
          exact ⟨rfl, ch, hch32, by omega, rfl⟩
        · rw [if_neg hiL, if_neg hiL]
          exact hl3 i (by omega)
  · refine ⟨-1000001, σ, σ, ?_, ?_, hJ.up⟩
    · rw [fx_X10_type, cc_isWithin, mm_bd_some, if_neg ha, if_pos rfl]
    · rw [fx_X11_type, md_in, mm_bd_some, if_neg ha, if_pos rfl]
theorem J_clear {k : Nat} {σ : mm_M} (hJ : JJ k σ) : ∃ v σ1 σ2, fx_X10_clearText σ = some (v, σ1) ∧ fx_X11_clearText σ1 = some (v, σ2) ∧ JJ (k + 1) σ2 := by
  obtain ⟨⟨N, R, hC, hM⟩, hG, ⟨L, hL, hl1, hl2, hl3⟩⟩ := id hJ
  have w1 : mm_u σ 8 23 0 1 0 10 30 0 6 = nI L := by rw [mm_u_ap, if_neg (by omega)]; exact hl2
  refine ⟨nI L, mm_u σ 8 23 0 1 0, mm_u (mm_u σ 8 23 0 1 0) 10 30 0 6 0, ?_, ?_, JJ.up ⟨⟨N, R, hC.congr (fun q t n i a b => ?_), hM.congr ?_ (fun i => ?_)⟩, ?_, 0, by omega, ?_, ?_, fun i hi => absurd hi (by omega)⟩⟩
  · rw [fx_X10_clearText, mm_li_e, mm_lt_e, hl1]
  · rw [fx_X11_clearText, mm_li_e, mm_lt_e, w1]
  · rw [mm_u_ap, if_neg (by omega), mm_u_ap, if_neg (by omega)]
  · rw [mm_u_ap, if_neg (by omega), mm_u_ap, if_neg (by omega)]
  · rw [mm_u_ap, if_neg (by omega), mm_u_ap, if_neg (by omega)]
  · exact hG.congr (fun t n i _ => by rw [mm_u_ap, if_neg (by omega), mm_u_ap, if_neg (by omega)]) (fun i _ => by rw [mm_u_ap, if_neg (by omega), mm_u_ap, if_neg (by omega)])
  · rw [mm_u_ap, if_neg (by omega), mm_u_ap, if_pos ⟨rfl, rfl, rfl, rfl⟩]
    rfl
  · rw [mm_u_ap, if_pos ⟨rfl, rfl, rfl, rfl⟩]
    rfl
/-! questions that change nothing -/
theorem J_same {k : Nat} {σ : mm_M} {cl mo : mm_M → mm_R} (hJ : JJ k σ) (h : ∃ v, cl σ = some (v, σ) ∧ mo (mw σ (σ 10 31 0)) = some (v, mw σ (σ 10 31 0))) : ∃ v σ1 σ2, cl σ = some (v, σ1) ∧ mo σ1 = some (v, σ2) ∧ JJ (k + 1) σ2 := by
  obtain ⟨v, e1, e2⟩ := h
  rw [mw_self] at e2
  exact ⟨v, σ, σ, e1, e2, hJ.up⟩
theorem fl_cc {B c f r q : Nat} {S : Nat → Int32} {σ : mm_M} (hW : WF B c f S) (hR : RS c f σ r S) : ∀ (e k fu : Nat), k + e = f → e < fu → (∀ i, i < k → S (7 + i) ≠ nI q) → ∃ w, fx_X1_lowestFlagOn_L2 r (nI q) fu (nI k) σ = some (w, σ) ∧ ((w = -1000004 ∧ ∀ i, i < f → S (7 + i) ≠ nI q) ∨ ∃ i, i < f ∧ w = nI i ∧ S (7 + i) = nI q ∧ ∀ j, j < i → S (7 + j) ≠ nI q) := by
  have hf4 := hW.f4
  have ef : σ r 1 0 3 = nI f := hR.fc.trans hW.s3
  intro e
  induction e with
  | zero =>
    intro k fu hk hf h
    obtain ⟨g, rfl⟩ : ∃ g, fu = g + 1 := ⟨fu - 1, by omega⟩
    have : k = f := by omega
    subst this
    rw [fx_X1_lowestFlagOn_L2, ef, if_pos (le_lit rfl (Nat.le_refl _) (by omega))]
    exact ⟨_, rfl, Or.inl ⟨rfl, h⟩⟩
  | succ e ih =>
    intro k fu hk hf h
    obtain ⟨g, rfl⟩ : ∃ g, fu = g + 1 := ⟨fu - 1, by omega⟩
    rw [fx_X1_lowestFlagOn_L2, ef, if_neg (nle_lit rfl (by omega) (by omega) : ¬ nI f ≤ nI k), mm_gd_t (mm_ix_n (by omega) (by omega)), nI_cl (by omega), hR.fl (by omega)]
    by_cases hh : S (7 + k) = nI q
    · rw [if_pos hh]
      exact ⟨_, rfl, Or.inr ⟨k, by omega, rfl, hh, h⟩⟩
    · rw [if_neg hh, mm_li_e, nI_1]
      refine ih (k + 1) g (by omega) (by omega) (fun i hi => ?_)
      by_cases hik : i = k
      · subst hik; exact hh
      · exact h i (by omega)
theorem fl_mo {q f : Nat} {S : Nat → Int32} (μ : mm_M) (hf4 : f ≤ 4) : ∀ (k fu : Nat) (v : Int32), k < fu → k ≤ f → ((v = -1 ∧ ∀ i, k ≤ i → i < f → S (7 + i) ≠ nI q) ∨ ∃ i, k ≤ i ∧ i < f ∧ v = nI i ∧ S (7 + i) = nI q ∧ ∀ j, k ≤ j → j < i → S (7 + j) ≠ nI q) → ∃ w, fx_X11_flagOn_L11 (nI q) fu v (nI k - 1) (mw μ S) = some (w, mw μ S) ∧ ((w = -1 ∧ ∀ i, i < f → S (7 + i) ≠ nI q) ∨ ∃ i, i < f ∧ w = nI i ∧ S (7 + i) = nI q ∧ ∀ j, j < i → S (7 + j) ≠ nI q) := by
  intro k
  induction k with
  | zero =>
    intro fu v hf hk h
    obtain ⟨g, rfl⟩ : ∃ g, fu = g + 1 := ⟨fu - 1, by omega⟩
    rw [fx_X11_flagOn_L11, if_pos (show nI 0 - 1 < (0 : Int32) by decide)]
    refine ⟨v, rfl, ?_⟩
    rcases h with ⟨a, b⟩ | ⟨i, a, b, d, e, w⟩
    · exact Or.inl ⟨a, fun i hi => b i (by omega) hi⟩
    · exact Or.inr ⟨i, b, d, e, fun j hj => w j (by omega) hj⟩
  | succ k ih =>
    intro fu v hf hk h
    obtain ⟨g, rfl⟩ : ∃ g, fu = g + 1 := ⟨fu - 1, by omega⟩
    have ej : nI (k + 1) - 1 = nI k := pk_sub (a := k + 1) (b := 1) (by omega)
    have e7 : (7 : Int32) + nI k = nI (7 + k) := by show nI 7 + nI k = _; rw [nI_add]
    have em : nI k + (-1 : Int32) = nI k - 1 := by rw [Int32.sub_eq_add_neg]
    rw [fx_X11_flagOn_L11, ej, if_neg (nI_pos (by omega)), e7, mm_gd_t (mm_ix_n (by omega) (by omega)), nI_cl (by omega), mw_row]
    by_cases hh : S (7 + k) = nI q
    · rw [if_pos hh, fx_X11_flagOn_J33, mm_li_e, em]
      exact ih g (nI k) (by omega) (by omega) (Or.inr ⟨k, Nat.le_refl _, by omega, rfl, hh, fun j a b => absurd a (by omega)⟩)
    · rw [if_neg hh, fx_X11_flagOn_J33, mm_li_e, em]
      refine ih g v (by omega) (by omega) ?_
      rcases h with ⟨a, b⟩ | ⟨i, a, b, d, e, w⟩
      · refine Or.inl ⟨a, fun i x y => ?_⟩
        by_cases hik : i = k
        · subst hik; exact hh
        · exact b i (by omega) y
      · refine Or.inr ⟨i, by omega, b, d, e, fun j x y => ?_⟩
        by_cases hjk : j = k
        · subst hjk; exact hh
        · exact w j (by omega) y
theorem mo_orNone_n {n : Nat} (μ : mm_M) (h : n < 1000000) : fx_X11_orNone (nI n) μ = some (nI n, μ) := by
  rw [fx_X11_orNone, if_pos (nI_pos' (by omega))]
theorem mo_orNone_m (μ : mm_M) : fx_X11_orNone (-1) μ = some (-1000004, μ) := by
  rw [fx_X11_orNone, if_neg (by decide)]
theorem J_cellOf {k : Nat} {σ : mm_M} (hJ : JJ k σ) (a b : Int32) : ∃ v σ1 σ2, fx_X10_cellOf a b σ = some (v, σ1) ∧ fx_X11_cellOf a b σ1 = some (v, σ2) ∧ JJ (k + 1) σ2 := by
  refine J_same (cl := fx_X10_cellOf a b) (mo := fx_X11_cellOf a b) hJ ?_
  obtain ⟨_, ⟨c, f, ph, hW, hR, hp, hph⟩, _⟩ := hJ
  generalize σ 10 31 0 = S at *
  have hc4 := hW.c4
  have hf4 := hW.f4
  rw [fx_X10_cellOf, cc_isCell, mm_bd_some, fx_X11_cellOf, md_isCell, mm_bd_some]
  by_cases ha : (0 : Int32) ≤ a ∧ a ≤ 63
  · rw [if_pos ha, if_neg (show ¬ (1 : Int32) = 0 by decide), if_neg (show ¬ (1 : Int32) = 0 by decide), cc_isWithin, mm_bd_some, md_in, mm_bd_some]
    by_cases hb : (0 : Int32) ≤ b ∧ b ≤ 3
    · rw [if_pos hb, if_neg (show ¬ (1 : Int32) = 0 by decide), if_neg (show ¬ (1 : Int32) = 0 by decide)]
      obtain ⟨q, hq, rfl⟩ := in_nat (N := 63) (by omega) ha
      have e11 : (11 : Int32) + nI q = nI (11 + q) := by show nI 11 + nI q = _; rw [nI_add]
      have e75 : (75 : Int32) + nI q = nI (75 + q) := by show nI 75 + nI q = _; rw [nI_add]
      rw [fx_X8_cellValue]
      by_cases h0 : b = 0
      · rw [if_pos h0, if_pos h0, cc_kindOn 0 σ rfl (by omega), mm_bd_some, mm_bd_some, hR.kd (by omega), e11, mm_gd_t (mm_ix_n (by omega) (by omega)), nI_cl (by omega), mw_row]
        exact ⟨_, rfl, rfl⟩
      · rw [if_neg h0, if_neg h0]
        by_cases h1 : b = 1
        · rw [if_pos h1, if_pos h1, fx_X1_wallsOf, if_neg (cell_nI (by omega)).1, if_neg (cell_nI (by omega)).2, mm_gd_t (mm_ix_n (by omega) (by omega)), nI_cl (by omega), hR.wl (by omega), mm_bd_some, mm_bd_some, e75, mm_gd_t (mm_ix_n (by omega) (by omega)), nI_cl (by omega), mw_row]
          exact ⟨_, rfl, rfl⟩
        · rw [if_neg h1, if_neg h1]
          by_cases h2 : b = 2
          · rw [if_pos h2, if_pos h2, cc_cartOn hW hR rfl (by omega), mm_bd_some, mo_cartOn σ S rfl hW.s0 hc4, mm_bd_some]
            rcases sp_on_spec S q c hc4 with ⟨x, y⟩ | ⟨m, hm, x, y⟩
            · rw [x, if_pos rfl, mm_bd_some, mo_orNone_m, mm_bd_some]
              exact ⟨_, rfl, rfl⟩
            · rw [x, if_neg (nI_m1 (by omega)), cc_cartOn hW hR rfl (by omega), mm_bd_some, mm_bd_some, x, mo_orNone_n _ (by omega), mm_bd_some]
              exact ⟨_, rfl, rfl⟩
          · obtain ⟨w, x1, x2⟩ := fl_cc (q := q) hW hR f 0 mm_FU (by omega) (by unfold mm_FU; omega) (fun i hi => absurd hi (by omega))
            obtain ⟨w2, y1, y2⟩ := fl_mo (q := q) (S := S) σ hf4 f mm_FU (-1) (by unfold mm_FU; omega) (Nat.le_refl _) (Or.inl ⟨rfl, fun i a b => absurd b (by omega)⟩)
            have e3 : mw σ S 10 31 0 (3 : Int32).toNatClampNeg = nI f := by rw [mw_row]; exact hW.s3
            rw [if_neg h2, if_neg h2, fx_X1_lowestFlagOn, show fx_X1_lowestFlagOn_L2 0 (nI q) mm_FU 0 σ = _ from x1, mm_bd_some, mm_bd_some, fx_X11_flagOn, e3, mm_li_e, y1, mm_bd_some]
            rcases x2 with ⟨rfl, xn⟩ | ⟨i, hi, rfl, xi, xj⟩
            · rcases y2 with ⟨rfl, yn⟩ | ⟨i2, hi2, rfl, yi, yj⟩
              · rw [mo_orNone_m, mm_bd_some]
                exact ⟨_, rfl, rfl⟩
              · exact absurd yi (xn i2 hi2)
            · rcases y2 with ⟨rfl, yn⟩ | ⟨i2, hi2, rfl, yi, yj⟩
              · exact absurd xi (yn i hi)
              · have : i = i2 := by
                  rcases Nat.lt_trichotomy i i2 with z | z | z
                  · exact absurd xi (yj i z)
                  · exact z
                  · exact absurd yi (xj i2 z)
                subst this
                rw [mo_orNone_n _ (by omega), mm_bd_some]
                exact ⟨_, rfl, rfl⟩
    · rw [if_neg hb, if_pos rfl, if_pos rfl]
      exact ⟨_, rfl, rfl⟩
  · rw [if_neg ha, if_pos rfl, if_pos rfl]
    exact ⟨_, rfl, rfl⟩
