/-! once a sign is wrong the model takes nothing more -/
def DF (μ μ1 : mm_M) : Prop := ∀ q t n i, ¬ (q = 10 ∧ ((t = 30 ∧ (i = 13 ∨ i = 16 ∨ i = 17)) ∨ t = 41)) → μ1 q t n i = μ q t n i
theorem DF.trans {a b c : mm_M} (h : DF a b) (h2 : DF b c) : DF a c := fun q t n i hh => (h2 q t n i hh).trans (h q t n i hh)
theorem dead_num {S : Nat → Int32} {μ : mm_M} (h17 : μ 10 30 0 17 = 0) : fx_X11_number (mw μ S) = some (0, mw (mm_u μ 10 30 0 17 0) S) := by
  have o : mw μ S 10 30 0 17 = 0 := by rw [mw_oth μ S (by omega)]; exact h17
  have o2 : mw (mm_u μ 10 30 0 17 0) S 10 30 0 17 = 0 := by rw [mw_oth _ S (by omega), mm_u_ap, if_pos ⟨rfl, rfl, rfl, rfl⟩]
  rw [fx_X11_number, o, if_pos rfl, fx_X11_number_J19, fx_X11_number_J20, mm_gd_t (Or.inl rfl), mm_lt_e, mw_s μ S _ (by omega)]
  unfold mm_FU
  rw [fx_X11_number_L27, if_neg (show ¬ (3 : Int32) ≤ 0 by decide), o2, if_pos rfl]
theorem dead_sign {S : Nat → Int32} {μ : mm_M} {x : Int32} (h17 : μ 10 30 0 17 = 0) : ∃ μ1, fx_X11_takesSign x (mw μ S) = some (0, mw μ1 S) ∧ μ1 10 30 0 17 = 0 ∧ μ1 10 30 0 13 = μ 10 30 0 13 ∧ DF μ μ1 := by
  have o : mw μ S 10 30 0 17 = 0 := by rw [mw_oth μ S (by omega)]; exact h17
  have o2 : mw (mm_u μ 10 30 0 17 0) S 10 30 0 17 = 0 := by rw [mw_oth _ S (by omega), mm_u_ap, if_pos ⟨rfl, rfl, rfl, rfl⟩]
  have o3 : mw (mm_u μ 10 30 0 17 0) S 10 30 0 13 = μ 10 30 0 13 := by rw [mw_oth _ S (by omega), mm_u_ap, if_neg (by omega)]
  refine ⟨mm_u (mm_u μ 10 30 0 17 0) 10 30 0 13 (μ 10 30 0 13 + 0), ?_, ?_, ?_, fun q t n i hh => ?_⟩
  · rw [fx_X11_takesSign, o, if_pos rfl, fx_X11_takesSign_J20, fx_X11_takesSign_J21, mm_gd_t (Or.inl rfl), mm_lt_e, mw_s μ S _ (by omega), o2, if_pos rfl, o3, fx_X11_takesSign_J41, mm_lt_e, mw_s _ S _ (by omega)]
  · rw [mm_u_ap, if_neg (by omega), mm_u_ap, if_pos ⟨rfl, rfl, rfl, rfl⟩]
  · rw [mm_u_ap, if_pos ⟨rfl, rfl, rfl, rfl⟩, Int32.add_zero]
  · rw [mm_u_ap, if_neg (by omega), mm_u_ap, if_neg (by omega)]
theorem dead_L {S : Nat → Int32} {k10 : mm_M → mm_R} {v1 : Int32} {N : Nat} (hN : N ≤ 4) (hw : ∀ μ, fx_X11_wantsOf v1 μ = some (nI N, μ)) : ∀ (e j fu : Nat) (μ : mm_M), j + e = N → e < fu → μ 10 30 0 17 = 0 → ∃ μ1, fx_X11_doesAll_L73 k10 fu v1 (nI j) (mw μ S) = some (0, mw μ1 S) ∧ μ1 10 30 0 17 = 0 ∧ μ1 10 30 0 16 = 0 ∧ μ1 10 30 0 13 = μ 10 30 0 13 ∧ DF μ μ1 := by
  intro e
  induction e with
  | zero =>
    intro j fu μ hk hf h17
    obtain ⟨g, rfl⟩ : ∃ g, fu = g + 1 := ⟨fu - 1, by omega⟩
    have : j = N := by omega
    subst this
    obtain ⟨μ1, e1, a1, a2, a3⟩ := dead_sign (S := S) (x := 59) h17
    have o : mw μ1 S 10 30 0 17 = 0 := by rw [mw_oth μ1 S (by omega)]; exact a1
    have o2 : mw (mm_u μ1 10 30 0 16 0) S 10 30 0 17 = 0 := by rw [mw_oth _ S (by omega), mm_u_ap, if_neg (by omega)]; exact a1
    refine ⟨mm_u μ1 10 30 0 16 0, ?_, ?_, ?_, ?_, fun q t n i hh => ?_⟩
    · rw [fx_X11_doesAll_L73, hw, mm_bd_some, if_pos (le_lit rfl (Nat.le_refl _) (by omega)), e1, mm_bd_some, o, if_pos rfl, fx_X11_doesAll_J130, mm_lt_e, mw_s μ1 S _ (by omega), o2, if_pos rfl]
    · rw [mm_u_ap, if_neg (by omega)]; exact a1
    · rw [mm_u_ap, if_pos ⟨rfl, rfl, rfl, rfl⟩]
    · rw [mm_u_ap, if_neg (by omega)]; exact a2
    · rw [mm_u_ap, if_neg (by omega)]; exact a3 q t n i hh
  | succ e ih =>
    intro j fu μ hk hf h17
    obtain ⟨g, rfl⟩ : ∃ g, fu = g + 1 := ⟨fu - 1, by omega⟩
    have J : ∀ μ2 : mm_M, μ2 10 30 0 17 = 0 → ∃ μ1, fx_X11_doesAll_J91 k10 (fun z0 z1 z => fx_X11_doesAll_L73 k10 g z0 z1 z) v1 (nI j) (mw μ2 S) = some (0, mw μ1 S) ∧ μ1 10 30 0 17 = 0 ∧ μ1 10 30 0 16 = 0 ∧ μ1 10 30 0 13 = μ2 10 30 0 13 ∧ DF μ2 μ1 := by
      intro μ2 h2
      obtain ⟨μ1, e1, a1, a2, a3, a4⟩ := ih (j + 1) g (mm_u (mm_u μ2 10 30 0 17 0) 10 41 0 j 0) (by omega) (by omega) (by rw [mm_u_ap, if_neg (by omega), mm_u_ap, if_pos ⟨rfl, rfl, rfl, rfl⟩])
      refine ⟨μ1, ?_, a1, a2, a3.trans (by rw [mm_u_ap, if_neg (by omega), mm_u_ap, if_neg (by omega)]), fun q t n i hh => (a4 q t n i hh).trans (by rw [mm_u_ap, if_neg (by omega), mm_u_ap, if_neg (by omega)])⟩
      rw [fx_X11_doesAll_J91, dead_num h2, mm_bd_some, mm_gd_t (mm_ix_n (by omega) (by omega)), mm_lt_e, mm_li_e, nI_cl (by omega), nI_1, mw_s _ S _ (by omega)]
      exact e1
    rw [fx_X11_doesAll_L73, hw, mm_bd_some, if_neg (show ¬ nI N ≤ nI j from nle_lit rfl (by omega) (by omega))]
    by_cases hj : j = 0
    · subst hj
      rw [if_pos (show nI 0 ≤ (0 : Int32) by decide)]
      exact J μ h17
    · rw [if_neg (show ¬ nI j ≤ (0 : Int32) from nle_lit (a := 0) (b := j) rfl (by omega) (by omega))]
      obtain ⟨μ2, e2, a1, a2, a3⟩ := dead_sign (S := S) (x := 44) h17
      obtain ⟨μ1, b0, b1, b2, b3, b4⟩ := J μ2 a1
      rw [e2, mm_bd_some]
      exact ⟨μ1, b0, b1, b2, b3.trans a2, a3.trans b4⟩
