/-! who is carried: both sides find the same set -/
def hB (S : Nat → Int32) (n m : Nat) : Prop := m ≠ n ∧ bo S m ∧ bw S n ≠ -1 ∧ (bw S m = bw S n ∨ (bw S n = S (139 + 17 * m + 1) ∧ bw S m = S (139 + 17 * n + 1)))
def bl (S : Nat → Int32) (c : Nat) (A : Nat → Int32) (n : Nat) : Prop := ∃ m, m < c ∧ bw S n ≠ -1 ∧ S (139 + 17 * m + 1) = bw S n ∧ A m = 0
def bad (S : Nat → Int32) (c : Nat) (A : Nat → Int32) (n : Nat) : Prop := (∃ m, m < c ∧ hB S n m) ∨ bl S c A n
def mB (S : Nat → Int32) (n m : Nat) (a : Int32) : Prop := m ≠ n ∧ bw S n ≠ -1 ∧ S (139 + 17 * m + 1) ≠ -1 ∧ ((S (139 + 17 * m + 1) = bw S n ∧ (a = 0 ∨ bw S m = S (139 + 17 * n + 1))) ∨ bw S m = bw S n)
theorem mB_bad {B c f n : Nat} {S : Nat → Int32} (A : Nat → Int32) (hW : WF B c f S) (hn : n < c) : (∃ m, m < c ∧ mB S n m (A m)) ↔ bad S c A n := by
  constructor
  · rintro ⟨m, hm, h1, h2, h3, h4⟩
    rcases h4 with ⟨h4, h5 | h5⟩ | h4
    · exact Or.inr ⟨m, hm, h2, h4, h5⟩
    · have hb := bo_in (bw_bo hW hn h2)
      exact Or.inl ⟨m, hm, h1, bw_bo hW hm (by rw [h5]; exact hb), h2, Or.inr ⟨h4.symm, h5⟩⟩
    · exact Or.inl ⟨m, hm, h1, bw_bo hW hm (by rw [h4]; exact h2), h2, Or.inl h4⟩
  · rintro (⟨m, hm, h1, h2, h3, h4⟩ | ⟨m, hm, h1, h2, h3⟩)
    · refine ⟨m, hm, h1, h3, bo_in h2, ?_⟩
      rcases h4 with h4 | ⟨h4, h5⟩
      · exact Or.inr h4
      · exact Or.inl ⟨h4.symm, Or.inr h5⟩
    · refine ⟨m, hm, ?_, h1, by rw [h2]; exact h1, Or.inl ⟨h2, Or.inl h3⟩⟩
      intro e
      subst e
      exact bw_ne hW hn h1 h2
theorem hin_L {B c f r n : Nat} {S : Nat → Int32} {σ : mm_M} (hW : WF B c f S) (hn : n < c) (hB0 : BC c f r S c σ) : ∀ (e k fu : Nat), k + e = c → e < fu → ∃ v, fx_X0_isHindered_L2 r (nI n) fu (nI k) σ = some (v, σ) ∧ ((v = 0 ∧ ∀ m, k ≤ m → m < c → ¬ hB S n m) ∨ (v = 1 ∧ ∃ m, m < c ∧ hB S n m)) := by
  have hc4 := hW.c4
  have hc0 : σ r 0 0 2 = nI c := hB0.1.s0.trans hW.s0
  have G : ∀ m, m < c → ∀ x, mm_gd (mm_ix (nI m) 4 = true) x = x := fun m hm x => mm_gd_t (mm_ix_n (by omega) (by omega)) x
  have c1 : ∀ m, m < c → (nI m).toNatClampNeg = m := fun m hm => nI_cl (by omega)
  have ec : ∀ m, m < c → σ r 6 m 3 = S (139 + 17 * m + 1) := fun m hm => hB0.1.ct hm (k := 1) (by omega)
  intro e
  induction e with
  | zero =>
    intro k fu hk hf
    obtain ⟨g, rfl⟩ : ∃ g, fu = g + 1 := ⟨fu - 1, by omega⟩
    have : k = c := by omega
    subst this
    rw [fx_X0_isHindered_L2, hc0, if_pos (le_lit rfl (Nat.le_refl _) (by omega))]
    exact ⟨0, rfl, Or.inl ⟨rfl, fun m a b => absurd b (by omega)⟩⟩
  | succ e ih =>
    intro k fu hk hf
    obtain ⟨g, rfl⟩ : ∃ g, fu = g + 1 := ⟨fu - 1, by omega⟩
    have hkc : k < c := by omega
    obtain ⟨v, ev, hv⟩ := ih (k + 1) g (by omega) (by omega)
    have skip : ¬ hB S n k → ∃ v, fx_X0_isHindered_L2 r (nI n) g (nI (k + 1)) σ = some (v, σ) ∧ ((v = 0 ∧ ∀ m, k ≤ m → m < c → ¬ hB S n m) ∨ (v = 1 ∧ ∃ m, m < c ∧ hB S n m)) := by
      intro hh
      refine ⟨v, ev, hv.elim (fun z => Or.inl ⟨z.1, fun m a b => ?_⟩) Or.inr⟩
      by_cases hmk : m = k
      · subst hmk; exact hh
      · exact z.2 m (by omega) b
    rw [fx_X0_isHindered_L2, hc0, if_neg (nle_lit rfl (by omega) (by omega) : ¬ nI c ≤ nI k)]
    by_cases hkn : k = n
    · rw [if_pos (by rw [hkn]), mm_li_e, nI_1]
      exact skip (fun z => z.1 hkn)
    · rw [if_neg (fun z => hkn ((nI_e (by omega) (by omega)).mp z)), G k hkc, c1 k hkc]
      by_cases hb : bo S k
      · rw [if_neg (fun z => (hB0.2.1 k hkc).mp z hb), G n hn, c1 n hn, hB0.2.2 n hn, hB0.2.2 k hkc]
        by_cases hw : bw S n = -1
        · rw [if_pos hw, mm_li_e, nI_1]
          exact skip (fun z => z.2.2.1 hw)
        · rw [if_neg hw, G k hkc, G n hn]
          have J : ∀ w0 : Int32, (w0 = 0 ↔ ¬ bw S k = bw S n) → ∃ v, fx_X0_isHindered_J57 r (nI n) (fun z0 z => fx_X0_isHindered_L2 r (nI n) g z0 z) (nI k) w0 σ = some (v, σ) ∧ ((v = 0 ∧ ∀ m, k ≤ m → m < c → ¬ hB S n m) ∨ (v = 1 ∧ ∃ m, m < c ∧ hB S n m)) := by
            intro w0 hw0
            have J99 : ¬ (bw S n = S (139 + 17 * k + 1) ∧ bw S k = S (139 + 17 * n + 1)) → ∃ v, fx_X0_isHindered_J99 r (nI n) (fun z0 z => fx_X0_isHindered_L2 r (nI n) g z0 z) (nI k) w0 σ = some (v, σ) ∧ ((v = 0 ∧ ∀ m, k ≤ m → m < c → ¬ hB S n m) ∨ (v = 1 ∧ ∃ m, m < c ∧ hB S n m)) := by
              intro h2
              rw [fx_X0_isHindered_J99, fx_X0_isHindered_J100]
              by_cases hz : w0 = 0
              · rw [if_pos hz, if_pos rfl, mm_li_e, nI_1]
                exact skip (fun z => z.2.2.2.elim (hw0.mp hz) h2)
              · rw [if_neg hz]
                refine ⟨1, rfl, Or.inr ⟨rfl, k, hkc, hkn, hb, hw, Or.inl ?_⟩⟩
                by_cases h5 : bw S k = bw S n
                · exact h5
                · exact absurd (hw0.mpr h5) hz
            rw [fx_X0_isHindered_J57, G n hn, G k hkc, c1 n hn, c1 k hkc, hB0.2.2 n hn, hB0.2.2 k hkc, ec k hkc, ec n hn]
            by_cases h3 : bw S n = S (139 + 17 * k + 1)
            · rw [if_pos h3, G k hkc, G n hn]
              by_cases h4 : bw S k = S (139 + 17 * n + 1)
              · rw [if_pos h4, fx_X0_isHindered_J100]
                refine ⟨1, ?_, Or.inr ⟨rfl, k, hkc, hkn, hb, hw, Or.inr ⟨h3, h4⟩⟩⟩
                split
                · rfl
                · rfl
              · rw [if_neg h4]
                exact J99 (fun z => h4 z.2)
            · rw [if_neg h3]
              exact J99 (fun z => h3 z.1)
          by_cases h5 : bw S k = bw S n
          · rw [if_pos h5]
            exact J 1 ⟨fun z => absurd z (by decide), fun z => absurd h5 z⟩
          · rw [if_neg h5]
            exact J 0 ⟨fun _ => h5, fun _ => rfl⟩
      · rw [if_pos ((hB0.2.1 k hkc).mpr hb), mm_li_e, nI_1]
        exact skip (fun z => hb z.2.1)
theorem cc_blocked {B c f r n : Nat} {S : Nat → Int32} {σ : mm_M} (hW : WF B c f S) (hn : n < c) (hB0 : BC c f r S c σ) : ∃ v, fx_X0_isBlocked r (nI n) σ = some (v, σ) ∧ ((v = 0 ∧ ¬ bl S c (σ 7 19 0) n) ∨ (v = 1 ∧ bl S c (σ 7 19 0) n)) := by
  have hc4 := hW.c4
  rw [fx_X0_isBlocked, mm_gd_t (mm_ix_n (by omega) (by omega)), nI_cl (by omega), hB0.2.2 n hn]
  rcases bw_in hW hn with e | ⟨q, hq, e⟩
  · rw [e, cc_cartOut hW hB0.1, mm_bd_some, if_pos rfl]
    exact ⟨0, rfl, Or.inl ⟨rfl, fun ⟨m, _, h, _⟩ => h e⟩⟩
  · rw [e, cc_cartOn hW hB0.1 rfl hq, mm_bd_some]
    rcases sp_on_spec S q c hc4 with ⟨a, b⟩ | ⟨m, hm, b, e2⟩
    · rw [a, if_pos rfl]
      exact ⟨0, rfl, Or.inl ⟨rfl, fun ⟨m, hm, _, h, _⟩ => b m hm (h.trans e)⟩⟩
    · rw [b, if_neg (nI_m1 (by omega)), mm_gd_t (mm_ix_n (by omega) (by omega)), nI_cl (by omega)]
      by_cases h0 : σ 7 19 0 m = 0
      · rw [if_pos h0]
        exact ⟨1, rfl, Or.inr ⟨rfl, m, hm, by rw [e]; exact nI_m1 (by omega), e2.trans e.symm, h0⟩⟩
      · rw [if_neg h0]
        refine ⟨0, rfl, Or.inl ⟨rfl, fun ⟨m2, hm2, _, h, h4⟩ => ?_⟩⟩
        by_cases hmm : m2 = m
        · subst hmm; exact h0 h4
        · have := hW.ap hm2 hm hmm (h.trans (e.trans e2.symm))
          exact m1_nI (by omega) (this.symm.trans (h.trans e))
theorem mo_inWay {B c f n m : Nat} {S : Nat → Int32} (a : Int32) (μ : mm_M) (hW : WF B c f S) (hn : n < c) (hm : m < c) : ∃ v, fx_X11_isInTheWay (nI n) (nI m) a (mw μ S) = some (v, mw μ S) ∧ ((v = 0 ∧ ¬ mB S n m a) ∨ (v = 1 ∧ mB S n m a)) := by
  have hc4 := hW.c4
  rw [fx_X11_isInTheWay, mo_wants μ hW hn, mm_bd_some]
  by_cases hmn : m = n
  · rw [if_pos (by rw [hmn])]
    exact ⟨0, rfl, Or.inl ⟨rfl, fun z => z.1 hmn⟩⟩
  · rw [if_neg (fun z => hmn ((nI_e (by omega) (by omega)).mp z))]
    by_cases hw : bw S n = -1
    · rw [if_pos (by rw [hw]; exact m1_lt0)]
      exact ⟨0, rfl, Or.inl ⟨rfl, fun z => z.2.1 hw⟩⟩
    · have hnn : ¬ bw S n < 0 := by
        rcases bw_in hW hn with e | ⟨q, hq, e⟩
        · exact absurd e hw
        · rw [e]; exact nI_pos (by omega)
      rw [if_neg hnn, mo_isOut μ S rfl (by omega), mm_bd_some]
      by_cases ho : S (139 + 17 * m + 1) = -1
      · rw [if_pos ((out_iff (hW.ct hm)).mpr ho), if_neg (show ¬ (1 : Int32) = 0 by decide)]
        exact ⟨0, rfl, Or.inl ⟨rfl, fun z => z.2.2.1 ho⟩⟩
      · rw [if_neg (fun z => ho ((out_iff (hW.ct hm)).mp z)), if_pos rfl, mo_of (w := 1) (k := 1) μ S rfl rfl (by omega), mm_bd_some]
        have J60 : ¬ (S (139 + 17 * m + 1) = bw S n ∧ (a = 0 ∨ bw S m = S (139 + 17 * n + 1))) → ∃ v, fx_X11_isInTheWay_J60 (nI n) (nI m) a (bw S n) (mw μ S) = some (v, mw μ S) ∧ ((v = 0 ∧ ¬ mB S n m a) ∨ (v = 1 ∧ mB S n m a)) := by
          intro h
          rw [fx_X11_isInTheWay_J60, fx_X11_isInTheWay_J61, if_pos rfl, mo_wants μ hW hm, mm_bd_some]
          by_cases h2 : bw S m = bw S n
          · rw [if_pos h2]
            exact ⟨1, rfl, Or.inr ⟨rfl, hmn, hw, ho, Or.inr h2⟩⟩
          · rw [if_neg h2]
            exact ⟨0, rfl, Or.inl ⟨rfl, fun z => z.2.2.2.elim h h2⟩⟩
        by_cases h1 : S (139 + 17 * m + 1) = bw S n
        · rw [if_pos h1]
          by_cases ha : a = 0
          · rw [if_pos ha, fx_X11_isInTheWay_J61, if_neg (show ¬ (1 : Int32) = 0 by decide)]
            exact ⟨1, rfl, Or.inr ⟨rfl, hmn, hw, ho, Or.inl ⟨h1, Or.inl ha⟩⟩⟩
          · rw [if_neg ha, mo_wants μ hW hm, mm_bd_some, mo_of (w := 1) (k := 1) μ S rfl rfl (by omega), mm_bd_some]
            by_cases h3 : bw S m = S (139 + 17 * n + 1)
            · rw [if_pos h3, fx_X11_isInTheWay_J61, if_neg (show ¬ (1 : Int32) = 0 by decide)]
              exact ⟨1, rfl, Or.inr ⟨rfl, hmn, hw, ho, Or.inl ⟨h1, Or.inr h3⟩⟩⟩
            · rw [if_neg h3]
              exact J60 (fun z => z.2.elim ha h3)
        · rw [if_neg h1]
          exact J60 (fun z => h1 z.1)
theorem stay_L {B c f n : Nat} {S : Nat → Int32} {μ : mm_M} (hW : WF B c f S) (hn : n < c) : ∀ (e k fu : Nat) (v2 : Int32), k + e = c → e < fu → ((v2 = 0 ∧ ∀ m, m < k → ¬ mB S n m (μ 10 38 0 m)) ∨ (v2 = 1 ∧ ∃ m, m < c ∧ mB S n m (μ 10 38 0 m))) → ∃ v, fx_X11_stays_L4 (nI n) fu v2 (nI k) (mw μ S) = some (v, mw μ S) ∧ ((v = 0 ∧ ¬ bad S c (μ 10 38 0) n) ∨ (v = 1 ∧ bad S c (μ 10 38 0) n)) := by
  have hc4 := hW.c4
  have hc1 : mw μ S 10 31 0 (0 : Int32).toNatClampNeg = nI c := by rw [mw_row]; exact hW.s0
  intro e
  induction e with
  | zero =>
    intro k fu v2 hk hf hv
    obtain ⟨g, rfl⟩ : ∃ g, fu = g + 1 := ⟨fu - 1, by omega⟩
    have : k = c := by omega
    subst this
    rw [fx_X11_stays_L4, hc1, if_pos (le_lit rfl (Nat.le_refl _) (by omega))]
    rcases hv with ⟨rfl, h⟩ | ⟨rfl, h⟩
    · exact ⟨0, mm_gd_t (Or.inl rfl) _, Or.inl ⟨rfl, fun z => by
        obtain ⟨m, hm, h2⟩ := (mB_bad (μ 10 38 0) hW hn).mpr z
        exact h m hm h2⟩⟩
    · exact ⟨1, mm_gd_t (Or.inr rfl) _, Or.inr ⟨rfl, (mB_bad (μ 10 38 0) hW hn).mp h⟩⟩
  | succ e ih =>
    intro k fu v2 hk hf hv
    obtain ⟨g, rfl⟩ : ∃ g, fu = g + 1 := ⟨fu - 1, by omega⟩
    rw [fx_X11_stays_L4, hc1, if_neg (nle_lit rfl (by omega) (by omega) : ¬ nI c ≤ nI k)]
    rcases hv with ⟨rfl, h⟩ | ⟨rfl, h⟩
    · obtain ⟨v, ev, h2⟩ := mo_inWay (μ 10 38 0 k) μ hW hn (m := k) (by omega)
      rw [if_pos rfl, mm_gd_t (mm_ix_n (by omega) (by omega)), nI_cl (by omega), mw_oth μ S (by omega), ev, mm_bd_some]
      rcases h2 with ⟨rfl, h2⟩ | ⟨rfl, h2⟩
      · rw [if_pos rfl, fx_X11_stays_J38, mm_li_e, nI_1]
        refine ih (k + 1) g 0 (by omega) (by omega) (Or.inl ⟨rfl, fun m hm => ?_⟩)
        by_cases hmk : m = k
        · subst hmk; exact h2
        · exact h m (by omega)
      · rw [if_neg (show ¬ (1 : Int32) = 0 by decide), fx_X11_stays_J38, mm_li_e, nI_1]
        exact ih (k + 1) g 1 (by omega) (by omega) (Or.inr ⟨rfl, k, by omega, h2⟩)
    · rw [if_neg (show ¬ (1 : Int32) = 0 by decide), fx_X11_stays_J38, mm_li_e, nI_1]
      exact ih (k + 1) g 1 (by omega) (by omega) (Or.inr ⟨rfl, h⟩)
theorem mo_stays {B c f n : Nat} {S : Nat → Int32} (μ : mm_M) (hW : WF B c f S) (hn : n < c) : ∃ v, fx_X11_stays (nI n) (mw μ S) = some (v, mw μ S) ∧ ((v = 0 ∧ ¬ bad S c (μ 10 38 0) n) ∨ (v = 1 ∧ bad S c (μ 10 38 0) n)) := by
  rw [fx_X11_stays]
  exact stay_L hW hn c 0 mm_FU 0 (by omega) (by unfold mm_FU; have := hW.c4; omega) (Or.inl ⟨rfl, fun m hm => absurd hm (by omega)⟩)
/-! the greatest set that can be carried -/
def St (S : Nat → Int32) (c : Nat) (G : Nat → Prop) : Prop := ∀ n, n < c → G n → bc S n ∧ ∀ m, m < c → ¬ hB S n m ∧ (bw S n ≠ -1 → S (139 + 17 * m + 1) = bw S n → G m)
def kept (S : Nat → Int32) (c : Nat) (A A1 : Nat → Int32) : Prop := (∀ n, n < c → A1 n = A n ∨ A1 n = 0) ∧ ∀ G, St S c G → (∀ n, n < c → G n → A n ≠ 0) → ∀ n, n < c → G n → A1 n ≠ 0
theorem kept.rf {S : Nat → Int32} {c : Nat} {A : Nat → Int32} : kept S c A A := ⟨fun _ _ => Or.inl rfl, fun _ _ h => h⟩
theorem kept.trans {S : Nat → Int32} {c : Nat} {A A1 A2 : Nat → Int32} (h : kept S c A A1) (h2 : kept S c A1 A2) : kept S c A A2 :=
  ⟨fun n hn => (h2.1 n hn).elim (fun z => (h.1 n hn).elim (fun w => Or.inl (z.trans w)) (fun w => Or.inr (z.trans w))) Or.inr, fun G hG hA => h2.2 G hG (h.2 G hG hA)⟩
theorem kept.rm {S : Nat → Int32} {c n : Nat} {A : Nat → Int32} (hn : n < c) (hb : bad S c A n) : kept S c A (upd A n 0) := by
  refine ⟨fun m hm => ?_, fun G hG hA m hm hGm => ?_⟩
  · by_cases h : m = n
    · subst h; rw [pk_us]; exact Or.inr rfl
    · rw [pk_un h]; exact Or.inl rfl
  · by_cases h : m = n
    · subst h
      obtain ⟨_, h2⟩ := hG m hm hGm
      rcases hb with ⟨i, hi, h3⟩ | ⟨i, hi, h3, h4, h5⟩
      · exact absurd h3 (h2 i hi).1
      · exact absurd h5 (hA i hi ((h2 i hi).2 h3 h4))
    · rw [pk_un h]; exact hA m hm hGm
theorem St.of {S : Nat → Int32} {c : Nat} {A A1 : Nat → Int32} (h0 : ∀ n, n < c → (A n = 0 ↔ ¬ bc S n)) (hk : kept S c A A1) (hf : ∀ n, n < c → A1 n ≠ 0 → ¬ bad S c A1 n) : St S c (fun n => A1 n ≠ 0) := by
  intro n hn hz
  refine ⟨?_, fun m hm => ⟨fun h => hf n hn hz (Or.inl ⟨m, hm, h⟩), fun h1 h2 h3 => hf n hn hz (Or.inr ⟨m, hm, h1, h2, h3⟩)⟩⟩
  by_cases hb : bc S n
  · exact hb
  · have := (h0 n hn).mpr hb
    rcases hk.1 n hn with e | e
    · exact absurd (e.trans this) hz
    · exact absurd e hz
theorem fix_eq {S : Nat → Int32} {c : Nat} {A A1 D D1 : Nat → Int32} (h0 : ∀ n, n < c → (A n = 0 ↔ ¬ bc S n)) (hk : kept S c A A1) (hf : ∀ n, n < c → A1 n ≠ 0 → ¬ bad S c A1 n) (g0 : ∀ n, n < c → (D n = 0 ↔ ¬ bc S n)) (gk : kept S c D D1) (gf : ∀ n, n < c → D1 n ≠ 0 → ¬ bad S c D1 n) : ∀ n, n < c → (A1 n = 0 ↔ D1 n = 0) := by
  have s1 := St.of h0 hk hf
  have s2 := St.of g0 gk gf
  have k1 := hk.2 _ s2 (fun n hn z w => (h0 n hn).mp w (s2 n hn z).1)
  have k2 := gk.2 _ s1 (fun n hn z w => (g0 n hn).mp w (s1 n hn z).1)
  intro n hn
  constructor
  · intro h
    by_cases hz : D1 n = 0
    · exact hz
    · exact absurd h (k1 n hn hz)
  · intro h
    by_cases hz : A1 n = 0
    · exact hz
    · exact absurd h (k2 n hn hz)
def cnt (A : Nat → Int32) : Nat → Nat
  | 0 => 0
  | k + 1 => cnt A k + if A k = 0 then 0 else 1
theorem cnt_le (A : Nat → Int32) : ∀ k, cnt A k ≤ k
  | 0 => Nat.le_refl _
  | k + 1 => by
    have := cnt_le A k
    unfold cnt
    split <;> omega
theorem cnt_sub {A D : Nat → Int32} : ∀ k, (∀ n, n < k → D n = A n ∨ D n = 0) → cnt D k ≤ cnt A k
  | 0, _ => Nat.le_refl _
  | k + 1, h => by
    have := cnt_sub k (fun n hn => h n (by omega))
    unfold cnt
    rcases h k (by omega) with e | e
    · rw [e]; omega
    · rw [if_pos e]; split <;> omega
theorem cnt_rm {A : Nat → Int32} {n : Nat} (hz : A n ≠ 0) : ∀ k, n < k → cnt (upd A n 0) k < cnt A k
  | 0, h => absurd h (Nat.not_lt_zero n)
  | k + 1, h => by
    unfold cnt
    by_cases hk : n = k
    · subst hk
      have := cnt_sub (A := A) (D := upd A n 0) n (fun m hm => Or.inl (pk_un (by omega)))
      rw [pk_us, if_pos rfl, if_neg hz]
      omega
    · have := cnt_rm hz k (by omega)
      rw [pk_un (show k ≠ n by omega)]
      omega
theorem cnt_0 {A : Nat → Int32} : ∀ k, cnt A k = 0 → ∀ n, n < k → A n = 0
  | 0, _, n, hn => absurd hn (Nat.not_lt_zero n)
  | k + 1, h, n, hn => by
    unfold cnt at h
    by_cases hz : A k = 0
    · rw [if_pos hz] at h
      by_cases hnk : n = k
      · subst hnk; exact hz
      · exact cnt_0 k (by omega) n (by omega)
    · rw [if_neg hz] at h
      omega
