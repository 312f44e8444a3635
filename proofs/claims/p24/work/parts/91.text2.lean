theorem mo_dig {σ : mm_M} {S : Nat → Int32} {L : Nat} {ch : Nat → Nat} : ∀ (e k fu p v : Nat) (μ : mm_M), k + e = 3 → e < fu → TL σ μ L ch → p + e < 1000 → μ 10 30 0 13 = nI p → μ 10 30 0 17 = 1 → fx_X11_number_L27 fu (nI v) (nI k) (mw μ S) = some (nI (dg L ch e p v).2.1, mw (mm_u μ 10 30 0 13 (nI (dg L ch e p v).1)) S) := by
  have self : ∀ (μ : mm_M) p, μ 10 30 0 13 = nI p → mm_u μ 10 30 0 13 (nI p) = μ := by
    intro μ p h
    funext q t m i
    rw [mm_u_ap]
    by_cases hh : q = 10 ∧ t = 30 ∧ m = 0 ∧ i = 13
    · obtain ⟨rfl, rfl, rfl, rfl⟩ := hh
      rw [if_pos ⟨rfl, rfl, rfl, rfl⟩, h]
    · rw [if_neg hh]
  have twice : ∀ (μ : mm_M) (x y : Int32), mm_u (mm_u μ 10 30 0 13 x) 10 30 0 13 y = mm_u μ 10 30 0 13 y := by
    intro μ x y
    funext q t m i
    rw [mm_u_ap, mm_u_ap, mm_u_ap]
    by_cases hh : q = 10 ∧ t = 30 ∧ m = 0 ∧ i = 13
    · rw [if_pos hh, if_pos hh]
    · rw [if_neg hh, if_neg hh, if_neg hh]
  intro e
  induction e with
  | zero =>
    intro k fu p v μ hk hf h hp ep e17
    obtain ⟨g, rfl⟩ : ∃ g, fu = g + 1 := ⟨fu - 1, by omega⟩
    have : k = 3 := by omega
    subst this
    rw [fx_X11_number_L27, if_pos (show (3 : Int32) ≤ nI 3 by decide)]
    show _ = some (nI v, mw (mm_u μ 10 30 0 13 (nI p)) S)
    rw [self μ p ep]
  | succ e ih =>
    intro k fu p v μ hk hf h hp ep e17
    obtain ⟨g, rfl⟩ : ∃ g, fu = g + 1 := ⟨fu - 1, by omega⟩
    obtain ⟨h1, h2, h3, h4⟩ := id h
    obtain ⟨d, ed, hd⟩ := mo_isDigit S h (show p < 100000 by omega) ep
    have o17 : mw μ S 10 30 0 17 = 1 := by rw [mw_oth μ S (by omega)]; exact e17
    rw [fx_X11_number_L27, if_neg (show ¬ (3 : Int32) ≤ nI k from nle_lit (x := 3) (b := 3) rfl (by omega) (by omega)), o17, if_neg (show ¬ (1 : Int32) = 0 by decide), ed, mm_bd_some]
    rcases hd with ⟨rfl, hl, h48, h57⟩ | ⟨rfl, hn⟩
    · have ev : ((10 : Int32) * nI v + nI (ch p)) - (48 : Int32) = nI (v * 10 + (ch p - 48)) := by
        show (nI 10 * nI v + nI (ch p)) - nI 48 = _
        rw [pk_mul, nI_add, pk_sub (by omega)]
        have : 10 * v + ch p - 48 = v * 10 + (ch p - 48) := by omega
        rw [this]
      have er : dg L ch (e + 1) p v = ((dg L ch e (p + 1) (v * 10 + (ch p - 48))).1, (dg L ch e (p + 1) (v * 10 + (ch p - 48))).2.1, (dg L ch e (p + 1) (v * 10 + (ch p - 48))).2.2 + 1) := by
        rw [dg, if_pos ⟨hl, h48, h57⟩]
      have o13 : mw μ S 10 30 0 13 = nI p := by rw [mw_oth μ S (by omega)]; exact ep
      rw [if_neg (show ¬ (1 : Int32) = 0 by decide), mo_here S h (show p < 100000 by omega) ep, mm_bd_some, if_pos hl, mm_li_e, ev, mm_lt_e, o13, nI_1, mm_li_e, nI_1, mw_s μ S _ (by omega), er]
      have := ih (k + 1) g (p + 1) (v * 10 + (ch p - 48)) (mm_u μ 10 30 0 13 (nI (p + 1))) (by omega) (by omega) ⟨h1, h2, by rw [mm_u_ap, if_neg (by omega)]; exact h3, fun i hi => ⟨(h4 i hi).1, by rw [mm_u_ap, if_neg (by omega)]; exact (h4 i hi).2.1, (h4 i hi).2.2⟩⟩ (by omega) (by rw [mm_u_ap, if_pos ⟨rfl, rfl, rfl, rfl⟩]) (by rw [mm_u_ap, if_neg (by omega)]; exact e17)
      rw [twice] at this
      exact this
    · have : dg L ch (e + 1) p v = (p, v, 0) := by
        rw [dg, if_neg (show ¬ (p < L ∧ 48 ≤ ch p ∧ ch p ≤ 57) from hn)]
      rw [if_pos rfl, this]
      show some (nI v, mw μ S) = some (nI v, mw (mm_u μ 10 30 0 13 (nI p)) S)
      rw [self μ p ep]
