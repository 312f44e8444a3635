theorem dg_prop {L : Nat} {ch : Nat → Nat} : ∀ e p v, p ≤ L → (dg L ch e p v).1 = p + (dg L ch e p v).2.2 ∧ (dg L ch e p v).1 ≤ L ∧ (dg L ch e p v).2.2 ≤ e
  | 0, p, v, h => ⟨rfl, h, Nat.le_refl _⟩
  | e + 1, p, v, h => by
    by_cases hd : p < L ∧ 48 ≤ ch p ∧ ch p ≤ 57
    · have er : dg L ch (e + 1) p v = ((dg L ch e (p + 1) (v * 10 + (ch p - 48))).1, (dg L ch e (p + 1) (v * 10 + (ch p - 48))).2.1, (dg L ch e (p + 1) (v * 10 + (ch p - 48))).2.2 + 1) := by
        rw [dg, if_pos hd]
      obtain ⟨a, b, c⟩ := dg_prop (L := L) (ch := ch) e (p + 1) (v * 10 + (ch p - 48)) (by omega)
      rw [er]
      exact ⟨by show (dg L ch e (p + 1) (v * 10 + (ch p - 48))).1 = _; rw [a]; show _ = p + ((dg L ch e (p + 1) (v * 10 + (ch p - 48))).2.2 + 1); omega, b, by show (dg L ch e (p + 1) (v * 10 + (ch p - 48))).2.2 + 1 ≤ _; omega⟩
    · have er : dg L ch (e + 1) p v = (p, v, 0) := by
        rw [dg, if_neg hd]
      rw [er]
      exact ⟨rfl, h, Nat.zero_le _⟩
theorem num_both {σ μ : mm_M} {S : Nat → Int32} {L p j : Nat} {ch : Nat → Nat} (h : TL σ μ L ch) (hj : j < 4) (hp : p ≤ L) (ec : σ 8 23 0 4 = nI p) (em : μ 10 30 0 13 = nI p) (h17 : μ 10 30 0 17 = 1) : (∃ v p2 σ1 μ1, p < p2 ∧ p2 ≤ L ∧ fx_X6_takeNumber (nI j) σ = some (1, σ1) ∧ fx_X11_number (mw μ S) = some (v, mw μ1 S) ∧ σ1 8 23 0 4 = nI p2 ∧ μ1 10 30 0 13 = nI p2 ∧ μ1 10 30 0 17 = 1 ∧ σ1 8 25 0 j = v ∧ (∀ i, i ≠ j → σ1 8 25 0 i = σ 8 25 0 i) ∧ (∀ i, μ1 10 41 0 i = μ 10 41 0 i) ∧ RF σ σ1 ∧ DF μ μ1) ∨ (∃ v σ1 μ1, fx_X6_takeNumber (nI j) σ = some (0, σ1) ∧ fx_X11_number (mw μ S) = some (v, mw μ1 S) ∧ σ1 8 23 0 4 = nI p ∧ μ1 10 30 0 13 = nI p ∧ μ1 10 30 0 17 = 0 ∧ RF σ σ1 ∧ DF μ μ1) := by
  obtain ⟨h1, h2, h3, h4⟩ := id h
  have o17 : mw μ S 10 30 0 17 = 1 := by rw [mw_oth μ S (by omega)]; exact h17
  obtain ⟨d, ed, hd⟩ := mo_isDigit S h (show p < 100000 by omega) em
  have hc := cc_dig (x1 := nI j) 3 0 mm_FU p 0 σ (by omega) (by unfold mm_FU; omega) h (by omega) ec
  obtain ⟨q1, q2, q3⟩ := dg_prop (L := L) (ch := ch) 3 p 0 hp
  rw [Nat.zero_add] at hc
  have hc' : fx_X6_takeNumber (nI j) σ = fx_X6_takeNumber_J82 (nI j) (nI (dg L ch 3 p 0).2.1) (nI (dg L ch 3 p 0).2.2) (mm_u σ 8 23 0 4 (nI (dg L ch 3 p 0).1)) := hc
  rw [fx_X6_takeNumber_J82, mm_gd_t (mm_ix_n hj (by omega)), mm_lt_e, nI_cl (k := j) (by omega)] at hc'
  rcases hd with ⟨rfl, hdi⟩ | ⟨rfl, hn⟩
  · have hm : 0 < (dg L ch 3 p 0).2.2 := by
      rw [dg, if_pos (show p < L ∧ 48 ≤ ch p ∧ ch p ≤ 57 from hdi)]
      exact Nat.succ_pos _
    have hmo := mo_dig (S := S) 3 0 mm_FU p 0 (mm_u μ 10 30 0 17 1) (by omega) (by unfold mm_FU; omega) (h.mv (σ1 := σ) (μ1 := mm_u μ 10 30 0 17 1) (fun _ _ _ _ _ => rfl) (fun q t n i hh => by rw [mm_u_ap, if_neg (by omega)])) (by omega) (by rw [mm_u_ap, if_neg (by omega)]; exact em) (by rw [mm_u_ap, if_pos ⟨rfl, rfl, rfl, rfl⟩])
    rw [if_neg (show ¬ nI (dg L ch 3 p 0).2.2 ≤ (0 : Int32) from nle_lit (a := 0) (b := (dg L ch 3 p 0).2.2) rfl hm (by omega))] at hc'
    refine Or.inl ⟨nI (dg L ch 3 p 0).2.1, (dg L ch 3 p 0).1, mm_u (mm_u σ 8 23 0 4 (nI (dg L ch 3 p 0).1)) 8 25 0 j (nI (dg L ch 3 p 0).2.1), mm_u (mm_u μ 10 30 0 17 1) 10 30 0 13 (nI (dg L ch 3 p 0).1), by omega, q2, hc', ?_, ?_, ?_, ?_, ?_, fun i hi => ?_, fun i => ?_, fun q t n i hh => ?_, fun q t n i hh => ?_⟩
    · rw [fx_X11_number, o17, if_neg (show ¬ (1 : Int32) = 0 by decide), ed, mm_bd_some, if_neg (show ¬ (1 : Int32) = 0 by decide), fx_X11_number_J20, mm_gd_t (Or.inr rfl), mm_lt_e, mw_s μ S _ (by omega)]
      exact hmo
    · rw [mm_u_ap, if_neg (by omega), mm_u_ap, if_pos ⟨rfl, rfl, rfl, rfl⟩]
    · rw [mm_u_ap, if_pos ⟨rfl, rfl, rfl, rfl⟩]
    · rw [mm_u_ap, if_neg (by omega), mm_u_ap, if_pos ⟨rfl, rfl, rfl, rfl⟩]
    · rw [mm_u_ap, if_pos ⟨rfl, rfl, rfl, rfl⟩]
    · rw [mm_u_ap, if_neg (by omega), mm_u_ap, if_neg (by omega)]
    · rw [mm_u_ap, if_neg (by omega), mm_u_ap, if_neg (by omega)]
    · rw [mm_u_ap, if_neg (by omega), mm_u_ap, if_neg (by omega)]
    · rw [mm_u_ap, if_neg (by omega), mm_u_ap, if_neg (by omega)]
  · have hz : dg L ch 3 p 0 = (p, 0, 0) := by
      rw [dg, if_neg (show ¬ (p < L ∧ 48 ≤ ch p ∧ ch p ≤ 57) from hn)]
    rw [hz] at hc'
    rw [if_pos (show nI 0 ≤ (0 : Int32) by decide)] at hc'
    refine Or.inr ⟨0, mm_u (mm_u σ 8 23 0 4 (nI p)) 8 25 0 j (nI 0), mm_u μ 10 30 0 17 0, hc', ?_, ?_, ?_, ?_, fun q t n i hh => ?_, fun q t n i hh => ?_⟩
    · have o2 : mw (mm_u μ 10 30 0 17 0) S 10 30 0 17 = 0 := by rw [mw_oth _ S (by omega), mm_u_ap, if_pos ⟨rfl, rfl, rfl, rfl⟩]
      rw [fx_X11_number, o17, if_neg (show ¬ (1 : Int32) = 0 by decide), ed, mm_bd_some, if_pos rfl, fx_X11_number_J19, fx_X11_number_J20, mm_gd_t (Or.inl rfl), mm_lt_e, mw_s μ S _ (by omega)]
      unfold mm_FU
      rw [fx_X11_number_L27, if_neg (show ¬ (3 : Int32) ≤ 0 by decide), o2, if_pos rfl]
    · rw [mm_u_ap, if_neg (by omega), mm_u_ap, if_pos ⟨rfl, rfl, rfl, rfl⟩]
    · rw [mm_u_ap, if_neg (by omega)]; exact em
    · rw [mm_u_ap, if_pos ⟨rfl, rfl, rfl, rfl⟩]
    · rw [mm_u_ap, if_neg (by omega), mm_u_ap, if_neg (by omega)]
    · rw [mm_u_ap, if_neg (by omega)]
