/-! an order read, on both sides -/
def RO (L p N : Nat) (S : Nat → Int32) (k10 : mm_M → mm_R) (v1 : Int32) (σ μ : mm_M) (x y : mm_R) : Prop := (∃ p2 σ1 μ1, p < p2 ∧ p2 ≤ L ∧ x = some (1, σ1) ∧ y = (mm_bd (fx_X11_called v1 (mw μ1 S)) fun r s => fx_X11_doesAll_J130 k10 r s) ∧ σ1 8 23 0 4 = nI p2 ∧ μ1 10 30 0 13 = nI p2 ∧ μ1 10 30 0 17 = 1 ∧ (∀ i, i < N → σ1 8 25 0 i = μ1 10 41 0 i) ∧ σ1 8 23 0 2 = σ 8 23 0 2 ∧ RF σ σ1 ∧ DF μ μ1) ∨ (∃ p2 σ1 μ1, p ≤ p2 ∧ p2 ≤ L ∧ x = some (0, σ1) ∧ y = some (0, mw μ1 S) ∧ σ1 8 23 0 4 = nI p2 ∧ μ1 10 30 0 13 = nI p2 ∧ μ1 10 30 0 17 = 0 ∧ RF σ σ1 ∧ DF μ μ1)
theorem RO.step {L p p' N : Nat} {S : Nat → Int32} {k10 : mm_M → mm_R} {v1 : Int32} {σ μ σ' μ' : mm_M} {x y : mm_R} (h : RO L p' N S k10 v1 σ' μ' x y) (hp : p ≤ p') (f : RF σ σ') (g : DF μ μ') (e : σ' 8 23 0 2 = σ 8 23 0 2) : RO L p N S k10 v1 σ μ x y := by
  rcases h with ⟨p2, σ1, μ1, a1, a2, a3, a4, a5, a6, a7, a8, a9, a10, a11⟩ | ⟨p2, σ1, μ1, b1, b2, a1, a2, a3, a4, a5, a6, a7⟩
  · exact Or.inl ⟨p2, σ1, μ1, by omega, a2, a3, a4, a5, a6, a7, a8, a9.trans e, f.trans a10, g.trans a11⟩
  · exact Or.inr ⟨p2, σ1, μ1, by omega, b2, a1, a2, a3, a4, a5, f.trans a6, g.trans a7⟩
theorem read_L {S : Nat → Int32} {k10 : mm_M → mm_R} {v1 x1 : Int32} {N L : Nat} {ch : Nat → Nat} (hN : N ≤ 4) (hw : ∀ μ, fx_X11_wantsOf v1 μ = some (nI N, μ)) : ∀ (e j fu fu2 p : Nat) (σ μ : mm_M), j + e = N → e < fu → e < fu2 → TL σ μ L ch → p ≤ L → σ 8 23 0 4 = nI p → μ 10 30 0 13 = nI p → μ 10 30 0 17 = 1 → (∀ i, i < j → σ 8 25 0 i = μ 10 41 0 i) → RO L p N S k10 v1 σ μ (fx_X6_read_L61 x1 fu (nI N) (nI j) σ) (fx_X11_doesAll_L73 k10 fu2 v1 (nI j) (mw μ S)) := by
  intro e
  induction e with
  | zero =>
    intro j fu fu2 p σ μ hk hf hf2 h hp ec em h17 hn
    obtain ⟨g, rfl⟩ : ∃ g, fu = g + 1 := ⟨fu - 1, by omega⟩
    obtain ⟨g2, rfl⟩ : ∃ g, fu2 = g + 1 := ⟨fu2 - 1, by omega⟩
    have : j = N := by omega
    subst this
    have hL := h.1
    rw [fx_X6_read_L61, if_pos (le_lit rfl (Nat.le_refl _) (by omega)), fx_X11_doesAll_L73, hw, mm_bd_some, if_pos (le_lit rfl (Nat.le_refl _) (by omega))]
    rcases sign_both (S := S) (x := 59) h (by omega) (by omega) ec em h17 with ⟨hl, _, σ1, μ1, e1, e2, a1, a2, a3, a4, a5, a6, a7⟩ | ⟨μ1, e1, e2, a2, a3, a7⟩
    · have o : mw μ1 S 10 30 0 17 = 1 := by rw [mw_oth μ1 S (by omega)]; exact a3
      refine Or.inl ⟨p + 1, σ1, μ1, by omega, by omega, ?_, ?_, a1, a2, a3, fun i hi => by rw [a4, a5]; exact hn i hi, ?_, a6, a7⟩
      · rw [show fx_X6_take (59 : Int32) σ = _ from e1, mm_bd_some, mm_gd_t (Or.inr rfl)]
      · rw [show fx_X11_takesSign (59 : Int32) (mw μ S) = _ from e2, mm_bd_some, o, if_neg (show ¬ (1 : Int32) = 0 by decide)]
      · exact fr_X6_take _ _ _ _ e1 8 23 0 2 (by unfold fw_X6_take; omega)
    · have o : mw μ1 S 10 30 0 17 = 0 := by rw [mw_oth μ1 S (by omega)]; exact a3
      have o2 : mw (mm_u μ1 10 30 0 16 0) S 10 30 0 17 = 0 := by rw [mw_oth _ S (by omega), mm_u_ap, if_neg (by omega)]; exact a3
      refine Or.inr ⟨p, σ, mm_u μ1 10 30 0 16 0, Nat.le_refl _, hp, ?_, ?_, ec, ?_, ?_, fun _ _ _ _ _ => rfl, fun q t n i hh => ?_⟩
      · rw [show fx_X6_take (59 : Int32) σ = _ from e1, mm_bd_some, mm_gd_t (Or.inl rfl)]
      · rw [show fx_X11_takesSign (59 : Int32) (mw μ S) = _ from e2, mm_bd_some, o, if_pos rfl, fx_X11_doesAll_J130, mm_lt_e, mw_s μ1 S _ (by omega), o2, if_pos rfl]
      · rw [mm_u_ap, if_neg (by omega)]; exact a2
      · rw [mm_u_ap, if_neg (by omega)]; exact a3
      · rw [mm_u_ap, if_neg (by omega)]; exact a7 q t n i hh
  | succ e ih =>
    intro j fu fu2 p σ μ hk hf hf2 h hp ec em h17 hn
    obtain ⟨g, rfl⟩ : ∃ g, fu = g + 1 := ⟨fu - 1, by omega⟩
    obtain ⟨g2, rfl⟩ : ∃ g, fu2 = g + 1 := ⟨fu2 - 1, by omega⟩
    have hL := h.1
    have J : ∀ (p' : Nat) (σ2 μ2 : mm_M), TL σ2 μ2 L ch → p' ≤ L → σ2 8 23 0 4 = nI p' → μ2 10 30 0 13 = nI p' → μ2 10 30 0 17 = 1 → (∀ i, i < j → σ2 8 25 0 i = μ2 10 41 0 i) → RO L p' N S k10 v1 σ2 μ2 (fx_X6_read_J79 x1 (fun z0 z1 z => fx_X6_read_L61 x1 g z0 z1 z) (nI N) (nI j) σ2) (fx_X11_doesAll_J91 k10 (fun z0 z1 z => fx_X11_doesAll_L73 k10 g2 z0 z1 z) v1 (nI j) (mw μ2 S)) := by
      intro p' σ2 μ2 h' hp' ec' em' h17' hn'
      rw [fx_X6_read_J79, fx_X11_doesAll_J91]
      rcases num_both (S := S) (j := j) h' (by omega) hp' ec' em' h17' with ⟨v, p2, σ3, μ3, b1, b2, e1, e2, b3, b4, b5, b6, b7, b8, b9, b10⟩ | ⟨v, σ3, μ3, e1, e2, b3, b4, b5, b9, b10⟩
      · have D2 : DF μ2 (mm_u μ3 10 41 0 j v) := fun q t n i hh => by rw [mm_u_ap, if_neg (by omega)]; exact b10 q t n i hh
        rw [e1, mm_bd_some, if_neg (show ¬ (1 : Int32) = 0 by decide), mm_li_e, nI_1, e2, mm_bd_some, mm_gd_t (mm_ix_n (by omega) (by omega)), mm_lt_e, mm_li_e, nI_cl (by omega), mw_s _ S _ (by omega)]
        refine (ih (j + 1) g g2 p2 σ3 (mm_u μ3 10 41 0 j v) (by omega) (by omega) (by omega) (h'.mv b9 D2) b2 b3 (by rw [mm_u_ap, if_neg (by omega)]; exact b4) (by rw [mm_u_ap, if_neg (by omega)]; exact b5) (fun i hi => ?_)).step (by omega) b9 D2 (fr_X6_takeNumber _ _ _ _ e1 8 23 0 2 (by unfold fw_X6_takeNumber; omega))
        by_cases hij : i = j
        · subst hij
          rw [mm_u_ap, if_pos ⟨rfl, rfl, rfl, rfl⟩]
          exact b6
        · rw [mm_u_ap, if_neg (by omega), b7 i hij, b8]
          exact hn' i (by omega)
      · obtain ⟨μ4, e4, c1, c2, c3, c4⟩ := dead_L (S := S) (k10 := k10) hN hw e (j + 1) g2 (mm_u μ3 10 41 0 j v) (by omega) (by omega) (by rw [mm_u_ap, if_neg (by omega)]; exact b5)
        rw [e1, mm_bd_some, if_pos rfl, e2, mm_bd_some, mm_gd_t (mm_ix_n (by omega) (by omega)), mm_lt_e, mm_li_e, nI_cl (by omega), nI_1, mw_s _ S _ (by omega)]
        refine Or.inr ⟨p', σ3, μ4, Nat.le_refl _, hp', rfl, e4, b3, c3.trans ?_, c1, b9, fun q t n i hh => (c4 q t n i hh).trans ?_⟩
        · rw [mm_u_ap, if_neg (by omega)]; exact b4
        · rw [mm_u_ap, if_neg (by omega)]; exact b10 q t n i hh
    rw [fx_X6_read_L61, if_neg (show ¬ nI N ≤ nI j from nle_lit rfl (by omega) (by omega)), fx_X11_doesAll_L73, hw, mm_bd_some, if_neg (show ¬ nI N ≤ nI j from nle_lit rfl (by omega) (by omega))]
    by_cases hj : j = 0
    · subst hj
      rw [if_pos (show nI 0 ≤ (0 : Int32) by decide), if_pos (show nI 0 ≤ (0 : Int32) by decide)]
      exact J p σ μ h hp ec em h17 hn
    · rw [if_neg (show ¬ nI j ≤ (0 : Int32) from nle_lit (a := 0) (b := j) rfl (by omega) (by omega)), if_neg (show ¬ nI j ≤ (0 : Int32) from nle_lit (a := 0) (b := j) rfl (by omega) (by omega))]
      rcases sign_both (S := S) (x := 44) h (by omega) (by omega) ec em h17 with ⟨hl, _, σ1, μ1, e1, e2, a1, a2, a3, a4, a5, a6, a7⟩ | ⟨μ1, e1, e2, a2, a3, a7⟩
      · rw [show fx_X6_take (44 : Int32) σ = _ from e1, mm_bd_some, if_neg (show ¬ (1 : Int32) = 0 by decide), show fx_X11_takesSign (44 : Int32) (mw μ S) = _ from e2, mm_bd_some]
        exact (J (p + 1) σ1 μ1 (h.mv a6 a7) (by omega) a1 a2 a3 (fun i hi => by rw [a4, a5]; exact hn i hi)).step (by omega) a6 a7 (fr_X6_take _ _ _ _ e1 8 23 0 2 (by unfold fw_X6_take; omega))
      · rw [show fx_X6_take (44 : Int32) σ = _ from e1, mm_bd_some, if_pos rfl, show fx_X11_takesSign (44 : Int32) (mw μ S) = _ from e2, mm_bd_some]
        have hd : ∃ μ4, fx_X11_doesAll_J91 k10 (fun z0 z1 z => fx_X11_doesAll_L73 k10 g2 z0 z1 z) v1 (nI j) (mw μ1 S) = some (0, mw μ4 S) ∧ μ4 10 30 0 17 = 0 ∧ μ4 10 30 0 13 = μ1 10 30 0 13 ∧ DF μ1 μ4 := by
          obtain ⟨μ4, e4, c1, c2, c3, c4⟩ := dead_L (S := S) (k10 := k10) hN hw e (j + 1) g2 (mm_u (mm_u μ1 10 30 0 17 0) 10 41 0 j 0) (by omega) (by omega) (by rw [mm_u_ap, if_neg (by omega), mm_u_ap, if_pos ⟨rfl, rfl, rfl, rfl⟩])
          refine ⟨μ4, ?_, c1, c3.trans (by rw [mm_u_ap, if_neg (by omega), mm_u_ap, if_neg (by omega)]), fun q t n i hh => (c4 q t n i hh).trans (by rw [mm_u_ap, if_neg (by omega), mm_u_ap, if_neg (by omega)])⟩
          rw [fx_X11_doesAll_J91, dead_num a3, mm_bd_some, mm_gd_t (mm_ix_n (by omega) (by omega)), mm_lt_e, mm_li_e, nI_cl (by omega), nI_1, mw_s _ S _ (by omega)]
          exact e4
        obtain ⟨μ4, e4, c1, c3, c4⟩ := hd
        exact Or.inr ⟨p, σ, μ4, Nat.le_refl _, hp, rfl, e4, ec, c3.trans a2, c1, fun _ _ _ _ _ => rfl, a7.trans c4⟩
