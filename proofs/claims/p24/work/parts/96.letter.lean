/-! the letter, and the whole order -/
def lt (c N : Nat) : Prop := (c = 99 ∧ N = 2) ∨ (c = 107 ∧ N = 2) ∨ (c = 112 ∧ N = 4) ∨ (c = 119 ∧ N = 2) ∨ (c = 114 ∧ N = 0)
theorem letter {c : Nat} (hc : c < 127) : (∃ N, lt c N ∧ N ≤ 4 ∧ (∀ μ, fx_X11_wantsOf (nI c) μ = some (nI N, μ)) ∧ ∀ μ, fx_X6_numbersBehind (nI c) μ = some (nI N, μ)) ∨ ((∀ μ, fx_X11_wantsOf (nI c) μ = some (-1, μ)) ∧ ∀ μ, fx_X6_numbersBehind (nI c) μ = some (-1, μ)) := by
  by_cases h1 : c = 99
  · subst h1
    exact Or.inl ⟨2, Or.inl ⟨rfl, rfl⟩, by omega, fun _ => rfl, fun _ => rfl⟩
  by_cases h2 : c = 107
  · subst h2
    exact Or.inl ⟨2, Or.inr (Or.inl ⟨rfl, rfl⟩), by omega, fun _ => rfl, fun _ => rfl⟩
  by_cases h3 : c = 112
  · subst h3
    exact Or.inl ⟨4, Or.inr (Or.inr (Or.inl ⟨rfl, rfl⟩)), by omega, fun _ => rfl, fun _ => rfl⟩
  by_cases h4 : c = 119
  · subst h4
    exact Or.inl ⟨2, Or.inr (Or.inr (Or.inr (Or.inl ⟨rfl, rfl⟩))), by omega, fun _ => rfl, fun _ => rfl⟩
  by_cases h5 : c = 114
  · subst h5
    exact Or.inl ⟨0, Or.inr (Or.inr (Or.inr (Or.inr ⟨rfl, rfl⟩))), by omega, fun _ => rfl, fun _ => rfl⟩
  have n1 : ¬ nI c = (99 : Int32) := ne_lit (b := 99) rfl h1 (by omega) (by omega)
  have n2 : ¬ nI c = (107 : Int32) := ne_lit (b := 107) rfl h2 (by omega) (by omega)
  have n3 : ¬ nI c = (112 : Int32) := ne_lit (b := 112) rfl h3 (by omega) (by omega)
  have n4 : ¬ nI c = (119 : Int32) := ne_lit (b := 119) rfl h4 (by omega) (by omega)
  have n5 : ¬ nI c = (114 : Int32) := ne_lit (b := 114) rfl h5 (by omega) (by omega)
  exact Or.inr ⟨fun μ => by rw [fx_X11_wantsOf, if_neg n1, if_neg n2, if_neg n3, if_neg n4, if_neg n5], fun μ => by rw [fx_X6_numbersBehind, if_neg n1, if_neg n2, if_neg n3, if_neg n5, if_neg n4]⟩
/-- what the model does at a letter -/
def mo_ord (k10 : mm_M → mm_R) (σ : mm_M) : mm_R := mm_bd (fx_X11_here σ) fun r_5 s_5 => (mm_bd (fx_X11_wantsOf r_5 s_5) fun r_6 s_6 => (if r_6 < (0 : Int32) then fx_X11_doesAll_J47 k10 r_5 (0 : Int32) s_6 else fx_X11_doesAll_J47 k10 r_5 (1 : Int32) s_6))
def OO (L p : Nat) (S : Nat → Int32) (k10 : mm_M → mm_R) (σ μ : mm_M) (x y : mm_R) : Prop := (∃ c N p2 σ1 μ1, lt c N ∧ p + 2 ≤ p2 ∧ p2 ≤ L ∧ x = some (1, σ1) ∧ y = (mm_bd (fx_X11_called (nI c) (mw μ1 S)) fun r s => fx_X11_doesAll_J130 k10 r s) ∧ σ1 8 23 0 4 = nI p2 ∧ μ1 10 30 0 13 = nI p2 ∧ μ1 10 30 0 17 = 1 ∧ (∀ i, i < N → σ1 8 25 0 i = μ1 10 41 0 i) ∧ σ1 8 23 0 2 = nI c ∧ RF σ σ1 ∧ DF μ μ1) ∨ (∃ p2 σ1 μ1, p ≤ p2 ∧ p2 ≤ L ∧ x = some (0, σ1) ∧ y = some (0, mw μ1 S) ∧ σ1 8 23 0 4 = nI p2 ∧ μ1 10 30 0 13 = nI p2 ∧ μ1 10 30 0 17 = 0 ∧ RF σ σ1 ∧ DF μ μ1)
theorem read_both {σ μ : mm_M} {S : Nat → Int32} {k10 : mm_M → mm_R} {L p : Nat} {ch : Nat → Nat} (h : TL σ μ L ch) (hp : p < L) (em : μ 10 30 0 13 = nI p) : OO L p S k10 σ μ (fx_X6_read (nI p) σ) (mo_ord k10 (mw μ S)) := by
  obtain ⟨h1, h2, h3, h4⟩ := id h
  have hc := (h4 p hp).2.2
  have s1 : mm_u σ 8 23 0 4 (nI p) 8 23 0 1 = nI L := by rw [mm_u_ap, if_neg (by omega)]; exact h2
  have s4 : mm_u σ 8 23 0 4 (nI p) 8 23 0 4 = nI p := by rw [mm_u_ap, if_pos ⟨rfl, rfl, rfl, rfl⟩]
  have sl : mm_u σ 8 23 0 4 (nI p) 8 24 0 p = nI (ch p) := by rw [mm_u_ap, if_neg (by omega)]; exact (h4 p hp).1
  rw [fx_X6_read, mm_lt_e, s1, s4, if_neg (show ¬ nI L ≤ nI p from nle_lit rfl hp (by omega)), mm_gd_t (mm_ix_n (by omega) (by omega)), nI_cl (by omega), sl, fx_X6_read_J31, mm_gd_t (show 0 ≤ nI (ch p) ∧ nI (ch p) < 65536 from ⟨nI_pos' (by omega), lt_lit (b := 65536) rfl (by omega) (by omega)⟩), mm_lt_e]
  have t2 : mm_u (mm_u σ 8 23 0 4 (nI p)) 8 23 0 2 (nI (ch p)) 8 23 0 2 = nI (ch p) := by rw [mm_u_ap, if_pos ⟨rfl, rfl, rfl, rfl⟩]
  have t4 : mm_u (mm_u σ 8 23 0 4 (nI p)) 8 23 0 2 (nI (ch p)) 8 23 0 4 = nI p := by rw [mm_u_ap, if_neg (by omega)]; exact s4
  rw [t2, mo_ord, mo_here S h (by omega) em, mm_bd_some, if_pos hp]
  rcases letter hc.2 with ⟨N, hl, hN, hw, hb⟩ | ⟨hw, hb⟩
  · have D : DF μ (mm_u (mm_u μ 10 30 0 17 1) 10 30 0 13 (nI (p + 1))) := fun q t n i hh => by rw [mm_u_ap, if_neg (by omega), mm_u_ap, if_neg (by omega)]
    have F : RF σ (mm_u (mm_u (mm_u σ 8 23 0 4 (nI p)) 8 23 0 2 (nI (ch p))) 8 23 0 4 (nI (p + 1))) := fun q t n i hh => by rw [mm_u_ap, if_neg (by omega), mm_u_ap, if_neg (by omega), mm_u_ap, if_neg (by omega)]
    have o17 : mw (mm_u μ 10 30 0 17 1) S 10 30 0 17 = 1 := by rw [mw_oth _ S (by omega), mm_u_ap, if_pos ⟨rfl, rfl, rfl, rfl⟩]
    have o13 : mw (mm_u μ 10 30 0 17 1) S 10 30 0 13 = nI p := by rw [mw_oth _ S (by omega), mm_u_ap, if_neg (by omega)]; exact em
    rw [hb, mm_bd_some, if_neg (nI_m1 (by omega)), mm_lt_e, t4, nI_1, hw, mm_bd_some, if_neg (show ¬ nI N < (0 : Int32) from nlt_lit (b := 0) rfl (by omega) (by omega)), fx_X11_doesAll_J47, mm_gd_t (Or.inr rfl), mm_lt_e, mw_s μ S _ (by omega), o17, if_neg (show ¬ (1 : Int32) = 0 by decide), o13, fx_X11_doesAll_J67, mm_lt_e, nI_1, mw_s _ S _ (by omega)]
    have := read_L (S := S) (k10 := k10) (v1 := nI (ch p)) (x1 := nI p) hN hw N 0 mm_FU mm_FU (p + 1) (mm_u (mm_u (mm_u σ 8 23 0 4 (nI p)) 8 23 0 2 (nI (ch p))) 8 23 0 4 (nI (p + 1))) (mm_u (mm_u μ 10 30 0 17 1) 10 30 0 13 (nI (p + 1))) (by omega) (by unfold mm_FU; omega) (by unfold mm_FU; omega) (h.mv F D) (by omega) (by rw [mm_u_ap, if_pos ⟨rfl, rfl, rfl, rfl⟩]) (by rw [mm_u_ap, if_pos ⟨rfl, rfl, rfl, rfl⟩]) (by rw [mm_u_ap, if_neg (by omega), mm_u_ap, if_pos ⟨rfl, rfl, rfl, rfl⟩]) (fun i hi => absurd hi (by omega))
    rcases this with ⟨p2, σ1, μ1, a1, a2, a3, a4, a5, a6, a7, a8, a9, a10, a11⟩ | ⟨p2, σ1, μ1, b1, b2, a1, a2, a3, a4, a5, a6, a7⟩
    · exact Or.inl ⟨ch p, N, p2, σ1, μ1, hl, by omega, a2, a3, a4, a5, a6, a7, a8, a9.trans (by rw [mm_u_ap, if_neg (by omega)]; exact t2), F.trans a10, D.trans a11⟩
    · exact Or.inr ⟨p2, σ1, μ1, by omega, b2, a1, a2, a3, a4, a5, F.trans a6, D.trans a7⟩
  · have o17 : mw (mm_u μ 10 30 0 17 0) S 10 30 0 17 = 0 := by rw [mw_oth _ S (by omega), mm_u_ap, if_pos ⟨rfl, rfl, rfl, rfl⟩]
    have o13 : mw (mm_u μ 10 30 0 17 0) S 10 30 0 13 = nI p := by rw [mw_oth _ S (by omega), mm_u_ap, if_neg (by omega)]; exact em
    rw [hb, mm_bd_some, if_pos rfl, hw, mm_bd_some, if_pos (show (-1 : Int32) < 0 by decide), fx_X11_doesAll_J47, mm_gd_t (Or.inl rfl), mm_lt_e, mw_s μ S _ (by omega), o17, if_pos rfl, o13, fx_X11_doesAll_J67, mm_lt_e, Int32.add_zero, mw_s _ S _ (by omega)]
    obtain ⟨μ1, e1, a1, a2, a3⟩ := dead_sign (S := S) (x := 59) (μ := mm_u (mm_u μ 10 30 0 17 0) 10 30 0 13 (nI p)) (by rw [mm_u_ap, if_neg (by omega), mm_u_ap, if_pos ⟨rfl, rfl, rfl, rfl⟩])
    have o : mw μ1 S 10 30 0 17 = 0 := by rw [mw_oth μ1 S (by omega)]; exact a1
    have o2 : mw (mm_u μ1 10 30 0 16 0) S 10 30 0 17 = 0 := by rw [mw_oth _ S (by omega), mm_u_ap, if_neg (by omega)]; exact a1
    refine Or.inr ⟨p, mm_u (mm_u σ 8 23 0 4 (nI p)) 8 23 0 2 (nI (ch p)), mm_u μ1 10 30 0 16 0, Nat.le_refl _, by omega, rfl, ?_, t4, ?_, ?_, fun q t n i hh => ?_, fun q t n i hh => ?_⟩
    · unfold mm_FU
      rw [fx_X11_doesAll_L73, hw, mm_bd_some, if_pos (show (-1 : Int32) ≤ 0 by decide), e1, mm_bd_some, o, if_pos rfl, fx_X11_doesAll_J130, mm_lt_e, mw_s μ1 S _ (by omega), o2, if_pos rfl]
    · rw [mm_u_ap, if_neg (by omega)]
      exact a2.trans (by rw [mm_u_ap, if_pos ⟨rfl, rfl, rfl, rfl⟩])
    · rw [mm_u_ap, if_neg (by omega)]; exact a1
    · rw [mm_u_ap, if_neg (by omega), mm_u_ap, if_neg (by omega)]
    · rw [mm_u_ap, if_neg (by omega)]
      exact (a3 q t n i hh).trans (by rw [mm_u_ap, if_neg (by omega), mm_u_ap, if_neg (by omega)])
