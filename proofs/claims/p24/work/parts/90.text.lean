/-! the text: letters and numbers -/
def TL (σ μ : mm_M) (L : Nat) (ch : Nat → Nat) : Prop := L ≤ 60 ∧ σ 8 23 0 1 = nI L ∧ μ 10 30 0 6 = nI L ∧ ∀ i, i < L → σ 8 24 0 i = nI (ch i) ∧ μ 10 35 0 i = nI (ch i) ∧ 32 ≤ ch i ∧ ch i < 127
theorem mo_here {σ μ : mm_M} {L p : Nat} {ch : Nat → Nat} (S : Nat → Int32) (h : TL σ μ L ch) (hp : p < 100000) (ep : μ 10 30 0 13 = nI p) : fx_X11_here (mw μ S) = some (if p < L then nI (ch p) else -1, mw μ S) := by
  obtain ⟨h1, h2, h3, h4⟩ := h
  rw [fx_X11_here, mw_oth μ S (by omega), h3, ep]
  by_cases hl : p < L
  · rw [if_neg (show ¬ nI L ≤ nI p from nle_lit rfl hl (by omega)), mm_gd_t (mm_ix_n (by omega) (by omega)), nI_cl (by omega), mw_oth μ S (by omega), (h4 p hl).2.1, if_pos hl]
  · rw [if_pos (show nI L ≤ nI p from le_lit rfl (by omega) (by omega)), if_neg hl]
def isD (L : Nat) (ch : Nat → Nat) (p : Nat) : Prop := p < L ∧ 48 ≤ ch p ∧ ch p ≤ 57
theorem mo_isDigit {σ μ : mm_M} {L p : Nat} {ch : Nat → Nat} (S : Nat → Int32) (h : TL σ μ L ch) (hp : p < 100000) (ep : μ 10 30 0 13 = nI p) : ∃ v, fx_X11_isDigit (mw μ S) = some (v, mw μ S) ∧ ((v = 1 ∧ isD L ch p) ∨ (v = 0 ∧ ¬ isD L ch p)) := by
  rw [fx_X11_isDigit, mo_here S h hp ep, mm_bd_some, md_in, mm_bd_some]
  by_cases hl : p < L
  · have hc := (h.2.2.2 p hl).2.2
    rw [if_pos hl]
    by_cases hd : 48 ≤ ch p ∧ ch p ≤ 57
    · rw [if_pos (show (48 : Int32) ≤ nI (ch p) ∧ nI (ch p) ≤ 57 from ⟨le_lit (a := ch p) (b := 48) rfl hd.1 (by omega), le_lit (a := 57) (b := ch p) rfl hd.2 (by omega)⟩), mm_gd_t (Or.inr rfl)]
      exact ⟨1, rfl, Or.inl ⟨rfl, hl, hd⟩⟩
    · have hn : ¬ ((48 : Int32) ≤ nI (ch p) ∧ nI (ch p) ≤ 57) := fun z => hd ⟨(nI_g (a := 48) (b := ch p) (by omega) (by omega)).mp z.1, (nI_g (a := ch p) (b := 57) (by omega) (by omega)).mp z.2⟩
      rw [if_neg hn, mm_gd_t (Or.inl rfl)]
      exact ⟨0, rfl, Or.inr ⟨rfl, fun z => hd z.2⟩⟩
  · rw [if_neg hl, if_neg (show ¬ ((48 : Int32) ≤ -1 ∧ (-1 : Int32) ≤ 57) from fun z => absurd z.1 (by decide)), mm_gd_t (Or.inl rfl)]
    exact ⟨0, rfl, Or.inr ⟨rfl, fun z => hl z.1⟩⟩
def dg (L : Nat) (ch : Nat → Nat) : Nat → Nat → Nat → Nat × Nat × Nat
  | 0, p, v => (p, v, 0)
  | k + 1, p, v => if p < L ∧ 48 ≤ ch p ∧ ch p ≤ 57 then let r := dg L ch k (p + 1) (v * 10 + (ch p - 48)); (r.1, r.2.1, r.2.2 + 1) else (p, v, 0)
theorem cc_dig {x1 : Int32} {μ : mm_M} {L : Nat} {ch : Nat → Nat} : ∀ (e k fu p v : Nat) (σ : mm_M), k + e = 3 → e < fu → TL σ μ L ch → p + e < 1000 → σ 8 23 0 4 = nI p → fx_X6_takeNumber_L4 x1 fu (nI v) (nI k) σ = fx_X6_takeNumber_J82 x1 (nI (dg L ch e p v).2.1) (nI (k + (dg L ch e p v).2.2)) (mm_u σ 8 23 0 4 (nI (dg L ch e p v).1)) := by
  have self : ∀ (σ : mm_M) p, σ 8 23 0 4 = nI p → mm_u σ 8 23 0 4 (nI p) = σ := by
    intro σ p h
    funext q t m i
    rw [mm_u_ap]
    by_cases hh : q = 8 ∧ t = 23 ∧ m = 0 ∧ i = 4
    · obtain ⟨rfl, rfl, rfl, rfl⟩ := hh
      rw [if_pos ⟨rfl, rfl, rfl, rfl⟩, h]
    · rw [if_neg hh]
  have twice : ∀ (σ : mm_M) (x y : Int32), mm_u (mm_u σ 8 23 0 4 x) 8 23 0 4 y = mm_u σ 8 23 0 4 y := by
    intro σ x y
    funext q t m i
    rw [mm_u_ap, mm_u_ap, mm_u_ap]
    by_cases hh : q = 8 ∧ t = 23 ∧ m = 0 ∧ i = 4
    · rw [if_pos hh, if_pos hh]
    · rw [if_neg hh, if_neg hh, if_neg hh]
  intro e
  induction e with
  | zero =>
    intro k fu p v σ hk hf h hp ep
    obtain ⟨g, rfl⟩ : ∃ g, fu = g + 1 := ⟨fu - 1, by omega⟩
    have : k = 3 := by omega
    subst this
    rw [fx_X6_takeNumber_L4, if_pos (show (3 : Int32) ≤ nI 3 by decide)]
    show _ = fx_X6_takeNumber_J82 x1 (nI v) (nI (3 + 0)) (mm_u σ 8 23 0 4 (nI p))
    rw [self σ p ep]
  | succ e ih =>
    intro k fu p v σ hk hf h hp ep
    obtain ⟨g, rfl⟩ : ∃ g, fu = g + 1 := ⟨fu - 1, by omega⟩
    obtain ⟨h1, h2, h3, h4⟩ := id h
    have stop : ¬ (p < L ∧ 48 ≤ ch p ∧ ch p ≤ 57) → fx_X6_takeNumber_J82 x1 (nI v) (nI k) σ = fx_X6_takeNumber_J82 x1 (nI (dg L ch (e + 1) p v).2.1) (nI (k + (dg L ch (e + 1) p v).2.2)) (mm_u σ 8 23 0 4 (nI (dg L ch (e + 1) p v).1)) := by
      intro hn
      have : dg L ch (e + 1) p v = (p, v, 0) := by
        unfold dg
        rw [if_neg hn]
      rw [this]
      show _ = fx_X6_takeNumber_J82 x1 (nI v) (nI (k + 0)) (mm_u σ 8 23 0 4 (nI p))
      rw [self σ p ep, Nat.add_zero]
    rw [fx_X6_takeNumber_L4, if_neg (show ¬ (3 : Int32) ≤ nI k from nle_lit (x := 3) (b := 3) rfl (by omega) (by omega)), h2, ep]
    by_cases hl : p < L
    · have hc := (h4 p hl).2.2
      rw [if_neg (show ¬ nI L ≤ nI p from nle_lit rfl hl (by omega)), mm_gd_t (mm_ix_n (by omega) (by omega)), nI_cl (by omega), (h4 p hl).1]
      by_cases h48 : ch p < 48
      · rw [if_pos (show nI (ch p) < (48 : Int32) from (nI_lt2 (a := ch p) (b := 48) (by omega) (by omega)).mpr h48)]
        exact stop (fun z => by omega)
      · rw [if_neg (show ¬ nI (ch p) < (48 : Int32) from nlt_lit (x := 48) (b := 48) rfl (by omega) (by omega)), mm_gd_t (mm_ix_n (by omega) (by omega))]
        by_cases h57 : 57 < ch p
        · rw [if_pos (show (57 : Int32) < nI (ch p) from lt_lit (a := 57) rfl h57 (by omega))]
          exact stop (fun z => by omega)
        · have hd : p < L ∧ 48 ≤ ch p ∧ ch p ≤ 57 := ⟨hl, by omega, by omega⟩
          have ev : nI v * (10 : Int32) + (nI (ch p) - (48 : Int32)) = nI (v * 10 + (ch p - 48)) := by
            show nI v * nI 10 + (nI (ch p) - nI 48) = _
            rw [pk_mul, pk_sub (by omega), nI_add]
          have er : dg L ch (e + 1) p v = ((dg L ch e (p + 1) (v * 10 + (ch p - 48))).1, (dg L ch e (p + 1) (v * 10 + (ch p - 48))).2.1, (dg L ch e (p + 1) (v * 10 + (ch p - 48))).2.2 + 1) := by
            rw [dg, if_pos hd]
          rw [if_neg (show ¬ (57 : Int32) < nI (ch p) from nlt_lit (a := 57) (b := ch p) rfl (by omega) (by omega)), mm_gd_t (mm_ix_n (by omega) (by omega)), mm_li_e, mm_li_e, mm_lt_e, ev, nI_1, nI_1, er]
          have := ih (k + 1) g (p + 1) (v * 10 + (ch p - 48)) (mm_u σ 8 23 0 4 (nI (p + 1))) (by omega) (by omega) ⟨h1, by rw [mm_u_ap, if_neg (by omega)]; exact h2, h3, fun i hi => by rw [mm_u_ap, if_neg (by omega)]; exact h4 i hi⟩ (by omega) (by rw [mm_u_ap, if_pos ⟨rfl, rfl, rfl, rfl⟩])
          rw [twice] at this
          rw [this, show k + 1 + (dg L ch e (p + 1) (v * 10 + (ch p - 48))).2.2 = k + ((dg L ch e (p + 1) (v * 10 + (ch p - 48))).2.2 + 1) by omega]
    · rw [if_pos (show nI L ≤ nI p from le_lit rfl (by omega) (by omega))]
      exact stop (fun z => hl z.1)
