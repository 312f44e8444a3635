def RF (σ σ1 : mm_M) : Prop := ∀ q t n i, ¬ (q = 8 ∧ ((t = 23 ∧ (i = 4 ∨ i = 2)) ∨ t = 25)) → σ1 q t n i = σ q t n i
theorem RF.trans {a b c : mm_M} (h : RF a b) (h2 : RF b c) : RF a c := fun q t n i hh => (h2 q t n i hh).trans (h q t n i hh)
theorem TL.mv {σ μ σ1 μ1 : mm_M} {L : Nat} {ch : Nat → Nat} (h : TL σ μ L ch) (f : RF σ σ1) (g : DF μ μ1) : TL σ1 μ1 L ch := by
  obtain ⟨h1, h2, h3, h4⟩ := h
  exact ⟨h1, (f _ _ _ _ (by omega)).trans h2, (g _ _ _ _ (by omega)).trans h3, fun i hi => ⟨(f _ _ _ _ (by omega)).trans (h4 i hi).1, (g _ _ _ _ (by omega)).trans (h4 i hi).2.1, (h4 i hi).2.2⟩⟩
/-- one sign, on both sides -/
theorem sign_both {σ μ : mm_M} {S : Nat → Int32} {L p x : Nat} {ch : Nat → Nat} (h : TL σ μ L ch) (hx : x < 127) (hp : p < 1000) (ec : σ 8 23 0 4 = nI p) (em : μ 10 30 0 13 = nI p) (h17 : μ 10 30 0 17 = 1) : (p < L ∧ ch p = x ∧ ∃ σ1 μ1, fx_X6_take (nI x) σ = some (1, σ1) ∧ fx_X11_takesSign (nI x) (mw μ S) = some (0, mw μ1 S) ∧ σ1 8 23 0 4 = nI (p + 1) ∧ μ1 10 30 0 13 = nI (p + 1) ∧ μ1 10 30 0 17 = 1 ∧ (∀ i, σ1 8 25 0 i = σ 8 25 0 i) ∧ (∀ i, μ1 10 41 0 i = μ 10 41 0 i) ∧ RF σ σ1 ∧ DF μ μ1) ∨ (∃ μ1, fx_X6_take (nI x) σ = some (0, σ) ∧ fx_X11_takesSign (nI x) (mw μ S) = some (0, mw μ1 S) ∧ μ1 10 30 0 13 = nI p ∧ μ1 10 30 0 17 = 0 ∧ DF μ μ1) := by
  obtain ⟨h1, h2, h3, h4⟩ := id h
  have o17 : mw μ S 10 30 0 17 = 1 := by rw [mw_oth μ S (by omega)]; exact h17
  have no : ∀ (hne : ¬ (p < L ∧ ch p = x)), fx_X11_takesSign (nI x) (mw μ S) = some (0, mw (mm_u (mm_u μ 10 30 0 17 0) 10 30 0 13 (nI p)) S) := by
    intro hne
    have o2 : mw (mm_u μ 10 30 0 17 0) S 10 30 0 17 = 0 := by rw [mw_oth _ S (by omega), mm_u_ap, if_pos ⟨rfl, rfl, rfl, rfl⟩]
    have o3 : mw (mm_u μ 10 30 0 17 0) S 10 30 0 13 = nI p := by rw [mw_oth _ S (by omega), mm_u_ap, if_neg (by omega)]; exact em
    have hh : ¬ (if p < L then nI (ch p) else -1) = nI x := by
      by_cases hl : p < L
      · rw [if_pos hl]
        have := (h4 p hl).2.2
        exact fun z => hne ⟨hl, (nI_e (by omega) (by omega)).mp z⟩
      · rw [if_neg hl]
        exact m1_nI (by omega)
    rw [fx_X11_takesSign, o17, if_neg (show ¬ (1 : Int32) = 0 by decide), mo_here S h (by omega) em, mm_bd_some, if_neg hh, fx_X11_takesSign_J20, fx_X11_takesSign_J21, mm_gd_t (Or.inl rfl), mm_lt_e, mw_s μ S _ (by omega), o2, if_pos rfl, o3, fx_X11_takesSign_J41, Int32.add_zero, mm_lt_e, mw_s _ S _ (by omega)]
  have noR : (¬ (p < L ∧ ch p = x)) → fx_X6_take (nI x) σ = some (0, σ) → (∃ μ1, fx_X6_take (nI x) σ = some (0, σ) ∧ fx_X11_takesSign (nI x) (mw μ S) = some (0, mw μ1 S) ∧ μ1 10 30 0 13 = nI p ∧ μ1 10 30 0 17 = 0 ∧ DF μ μ1) := fun hne e =>
    ⟨_, e, no hne, by rw [mm_u_ap, if_pos ⟨rfl, rfl, rfl, rfl⟩], by rw [mm_u_ap, if_neg (by omega), mm_u_ap, if_pos ⟨rfl, rfl, rfl, rfl⟩], fun q t n i hh => by rw [mm_u_ap, if_neg (by omega), mm_u_ap, if_neg (by omega)]⟩
  by_cases hl : p < L
  · by_cases hc : ch p = x
    · refine Or.inl ⟨hl, hc, mm_u σ 8 23 0 4 (nI (p + 1)), mm_u (mm_u μ 10 30 0 17 1) 10 30 0 13 (nI (p + 1)), ?_, ?_, ?_, ?_, ?_, fun i => ?_, fun i => ?_, fun q t n i hh => ?_, fun q t n i hh => ?_⟩
      · rw [fx_X6_take, h2, ec, if_neg (show ¬ nI L ≤ nI p from nle_lit rfl hl (by omega)), mm_gd_t (mm_ix_n (by omega) (by omega)), nI_cl (by omega), (h4 p hl).1, hc, if_pos rfl, mm_lt_e, nI_1]
      · have o2 : mw (mm_u μ 10 30 0 17 1) S 10 30 0 17 = 1 := by rw [mw_oth _ S (by omega), mm_u_ap, if_pos ⟨rfl, rfl, rfl, rfl⟩]
        have o3 : mw (mm_u μ 10 30 0 17 1) S 10 30 0 13 = nI p := by rw [mw_oth _ S (by omega), mm_u_ap, if_neg (by omega)]; exact em
        rw [fx_X11_takesSign, o17, if_neg (show ¬ (1 : Int32) = 0 by decide), mo_here S h (by omega) em, mm_bd_some, if_pos hl, hc, if_pos rfl, fx_X11_takesSign_J21, mm_gd_t (Or.inr rfl), mm_lt_e, mw_s μ S _ (by omega), o2, if_neg (show ¬ (1 : Int32) = 0 by decide), o3, fx_X11_takesSign_J41, nI_1, mm_lt_e, mw_s _ S _ (by omega)]
      · rw [mm_u_ap, if_pos ⟨rfl, rfl, rfl, rfl⟩]
      · rw [mm_u_ap, if_pos ⟨rfl, rfl, rfl, rfl⟩]
      · rw [mm_u_ap, if_neg (by omega), mm_u_ap, if_pos ⟨rfl, rfl, rfl, rfl⟩]
      · rw [mm_u_ap, if_neg (by omega)]
      · rw [mm_u_ap, if_neg (by omega), mm_u_ap, if_neg (by omega)]
      · rw [mm_u_ap, if_neg (by omega)]
      · rw [mm_u_ap, if_neg (by omega), mm_u_ap, if_neg (by omega)]
    · refine Or.inr (noR (fun z => hc z.2) ?_)
      have := (h4 p hl).2.2
      rw [fx_X6_take, h2, ec, if_neg (show ¬ nI L ≤ nI p from nle_lit rfl hl (by omega)), mm_gd_t (mm_ix_n (by omega) (by omega)), nI_cl (by omega), (h4 p hl).1, if_neg (fun z => hc ((nI_e (by omega) (by omega)).mp z))]
  · refine Or.inr (noR (fun z => hl z.1) ?_)
    rw [fx_X6_take, h2, ec, if_pos (show nI L ≤ nI p from le_lit rfl (by omega) (by omega))]
