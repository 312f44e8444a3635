/-! questions on a trial -/
def MG (μ μ1 : mm_M) : Prop := ∀ q t n i, (q < 10 ∨ (q = 10 ∧ (t = 34 ∨ t = 35 ∨ (t = 30 ∧ (i = 4 ∨ i = 6))))) → μ1 q t n i = μ q t n i
theorem MF.mg {μ μ1 : mm_M} (h : MF μ μ1) : MG μ μ1 := fun q t n i hh => h q t n i (by omega)
theorem MG.trans {a b c : mm_M} (h : MG a b) (h2 : MG b c) : MG a c := fun q t n i hh => (h2 q t n i hh).trans (h q t n i hh)
theorem MG.rf {a : mm_M} : MG a a := fun _ _ _ _ _ => rfl
theorem ask_gen {k : Nat} {σ : mm_M} {cl mo : mm_M → mm_R} (hJ : JJ k σ) (h : ∀ μ : mm_M, (μ 10 30 0 6 = σ 10 30 0 6 ∧ ∀ i, μ 10 35 0 i = σ 10 35 0 i) → ∃ v σ1 μ1 T, cl σ = some (v, σ1) ∧ mo (mw μ (σ 10 31 0)) = some (v, mw μ1 T) ∧ CF σ σ1 ∧ MG μ μ1 ∧ ∀ i, i < 207 → T i = σ 10 31 0 i) : ∃ v σ1 σ2, cl σ = some (v, σ1) ∧ mo σ1 = some (v, σ2) ∧ JJ (k + 1) σ2 := by
  obtain ⟨v, σ1, _, _, e1, _, F, _, _⟩ := h σ ⟨rfl, fun _ => rfl⟩
  have row1 : σ1 10 31 0 = σ 10 31 0 := by
    funext i
    exact F _ _ _ _ (by omega)
  obtain ⟨v2, σ2, μ1, T, e2, e3, F2, M, hT⟩ := h σ1 ⟨F _ _ _ _ (by omega), fun i => F _ _ _ _ (by omega)⟩
  rw [e1] at e2
  have hh := Option.some.inj e2
  have ev : v = v2 := congrArg Prod.fst hh
  have es : σ1 = σ2 := congrArg Prod.snd hh
  subst ev
  subst es
  rw [← row1, mw_self] at e3
  refine ⟨v, σ1, mw μ1 T, e1, e3, (hJ.congr (fun q t n i hq => ?_) (fun i hi => ?_)).up⟩
  · rw [mw_oth μ1 T (by omega), M q t n i (by omega), F q t n i (by omega)]
  · rw [mw_row]
    exact hT i hi
theorem put_L {S : Nat → Int32} : ∀ (e k fu : Nat) (μ : mm_M), k + e = 207 → e < fu → (∀ i, i < k → μ 10 33 0 i = S i) → ∃ μ1, fx_X11_putsAside_L2 fu (nI k) (mw μ S) = some (0, mw μ1 S) ∧ (∀ i, i < 207 → μ1 10 33 0 i = S i) ∧ ∀ q t n i, ¬ (q = 10 ∧ t = 33) → μ1 q t n i = μ q t n i := by
  intro e
  induction e with
  | zero =>
    intro k fu μ hk hf h
    obtain ⟨g, rfl⟩ : ∃ g, fu = g + 1 := ⟨fu - 1, by omega⟩
    have : k = 207 := by omega
    subst this
    rw [fx_X11_putsAside_L2, if_pos (show (207 : Int32) ≤ nI 207 by decide)]
    exact ⟨μ, rfl, h, fun _ _ _ _ _ => rfl⟩
  | succ e ih =>
    intro k fu μ hk hf h
    obtain ⟨g, rfl⟩ : ∃ g, fu = g + 1 := ⟨fu - 1, by omega⟩
    rw [fx_X11_putsAside_L2, if_neg (show ¬ (207 : Int32) ≤ nI k from nle_lit (x := 207) (b := 207) rfl (by omega) (by omega)), mm_gd_t (mm_ix_n (by omega) (by omega)), mm_gd_t (mm_ix_n (by omega) (by omega)), mm_lt_e, mm_li_e, nI_cl (by omega), nI_1, mw_row, mw_s μ S _ (by omega)]
    obtain ⟨μ1, e1, h1, f1⟩ := ih (k + 1) g (mm_u μ 10 33 0 k (S k)) (by omega) (by omega) (fun i hi => by
      by_cases hik : i = k
      · subst hik; rw [mm_u_ap, if_pos ⟨rfl, rfl, rfl, rfl⟩]
      · rw [mm_u_ap, if_neg (by omega)]; exact h i (by omega))
    exact ⟨μ1, e1, h1, fun q t n i hh => (f1 q t n i hh).trans (by rw [mm_u_ap, if_neg (by omega)])⟩
theorem mo_put (μ : mm_M) (S : Nat → Int32) : ∃ μ1, fx_X11_putsAside (mw μ S) = some (0, mw μ1 S) ∧ (∀ i, i < 207 → μ1 10 33 0 i = S i) ∧ ∀ q t n i, ¬ (q = 10 ∧ t = 33) → μ1 q t n i = μ q t n i := by
  rw [fx_X11_putsAside]
  exact put_L 207 0 mm_FU μ (by omega) (by unfold mm_FU; omega) (fun i hi => absurd hi (by omega))
theorem tak_L {μ : mm_M} : ∀ (e k fu : Nat) (T : Nat → Int32), k + e = 207 → e < fu → (∀ i, i < k → T i = μ 10 33 0 i) → ∃ T1, fx_X11_takesBack_L2 fu (nI k) (mw μ T) = some (0, mw μ T1) ∧ ∀ i, i < 207 → T1 i = μ 10 33 0 i := by
  intro e
  induction e with
  | zero =>
    intro k fu T hk hf h
    obtain ⟨g, rfl⟩ : ∃ g, fu = g + 1 := ⟨fu - 1, by omega⟩
    have : k = 207 := by omega
    subst this
    rw [fx_X11_takesBack_L2, if_pos (show (207 : Int32) ≤ nI 207 by decide)]
    exact ⟨T, rfl, h⟩
  | succ e ih =>
    intro k fu T hk hf h
    obtain ⟨g, rfl⟩ : ∃ g, fu = g + 1 := ⟨fu - 1, by omega⟩
    rw [fx_X11_takesBack_L2, if_neg (show ¬ (207 : Int32) ≤ nI k from nle_lit (x := 207) (b := 207) rfl (by omega) (by omega)), mm_gd_t (mm_ix_n (by omega) (by omega)), mm_gd_t (mm_ix_n (by omega) (by omega)), mm_lt_e, mm_li_e, nI_cl (by omega), nI_1, mw_u, mw_oth μ T (by omega)]
    refine ih (k + 1) g _ (by omega) (by omega) (fun i hi => ?_)
    by_cases hik : i = k
    · subst hik; rw [pk_us]
    · rw [pk_un hik]; exact h i (by omega)
theorem mo_take (μ : mm_M) (T : Nat → Int32) : ∃ T1, fx_X11_takesBack (mw μ T) = some (0, mw μ T1) ∧ ∀ i, i < 207 → T1 i = μ 10 33 0 i := by
  rw [fx_X11_takesBack]
  exact tak_L 207 0 mm_FU T (by omega) (by unfold mm_FU; omega) (fun i hi => absurd hi (by omega))
theorem p33 {σ σ1 : mm_M} {S S1 : Nat → Int32} {v : Int32} (e : fx_X11_passes (mw σ S) = some (v, mw σ1 S1)) (i : Nat) : σ1 10 33 0 i = σ 10 33 0 i := by
  have := fr_X11_passes _ v _ e 10 33 0 i (by unfold fw_X11_passes; omega)
  rw [mw_oth σ1 S1 (by omega), mw_oth σ S (by omega)] at this
  exact this
theorem val4 {B c f r n j : Nat} {S : Nat → Int32} {σ μ : mm_M} (hW : WF B c f S) (hR : RS c f σ r S) (hn : n < c) (hj : j ≤ 3) : ∃ v, fx_X3_value r n (nI j) σ = some (v, σ) ∧ fx_X11_cartOf (nI n) (nI j) (mw μ S) = some (v, mw μ S) := by
  have hc4 := hW.c4
  have ec : ∀ k, k < 7 → σ r 6 n (k + 2) = S (139 + 17 * n + k) := fun k hk => hR.ct hn hk
  have e1 : σ r 6 n 3 = S (139 + 17 * n + 1) := ec 1 (by omega)
  have of : ∀ (x : Int32) k, x = nI k → k < 7 → (mm_bd (fx_X11_of (nI n) x (mw μ S)) fun r_14 s_14 => (some (r_14, s_14))) = some (S (139 + 17 * n + k), mw μ S) := fun x k hx hk => by rw [bd_id, mo_of μ S rfl hx (by omega)]
  have ha : (0 : Int32) ≤ nI n ∧ nI n < nI c := ⟨nI_pos' (by omega), (nI_lt2 (by omega) (by omega)).mpr hn⟩
  have hb : (0 : Int32) ≤ nI j ∧ nI j ≤ 8 := ⟨nI_pos' (by omega), le_lit (a := 8) rfl (by omega) (by omega)⟩
  rw [fx_X3_value, fx_X11_cartOf, md_isCart (nI n) (mw μ S) (by rw [mw_row]; exact hW.s0) hc4, mm_bd_some, if_pos ha, if_neg (show ¬ (1 : Int32) = 0 by decide), md_in, mm_bd_some, if_pos hb, if_neg (show ¬ (1 : Int32) = 0 by decide)]
  rcases (show j = 0 ∨ j = 1 ∨ j = 2 ∨ j = 3 by omega) with rfl | rfl | rfl | rfl
  · rw [if_pos (show nI 0 = (0 : Int32) by decide), if_pos (show nI 0 = (0 : Int32) by decide), cc_isOut, mm_bd_some, e1, mo_isOut μ S rfl (by omega), mm_bd_some]
    by_cases ho : S (139 + 17 * n + 1) = -1
    · rw [if_pos ho, if_neg (show ¬ (1 : Int32) = 0 by decide), if_pos ((out_iff (hW.ct hn)).mpr ho), if_neg (show ¬ (1 : Int32) = 0 by decide)]
      exact ⟨_, rfl, rfl⟩
    · rw [if_neg ho, if_pos rfl, if_neg (fun z => ho ((out_iff (hW.ct hn)).mp z)), if_pos rfl, of _ 1 (by decide) (by omega)]
      exact ⟨_, rfl, rfl⟩
  · rw [if_neg (show ¬ nI 1 = (0 : Int32) by decide), if_pos (show nI 1 = (1 : Int32) by decide), if_neg (show ¬ nI 1 = (0 : Int32) by decide), if_pos (show nI 1 = (1 : Int32) by decide), cc_isOut, mm_bd_some, e1, mo_isOut μ S rfl (by omega), mm_bd_some]
    by_cases ho : S (139 + 17 * n + 1) = -1
    · rw [if_pos ho, if_neg (show ¬ (1 : Int32) = 0 by decide), if_pos ((out_iff (hW.ct hn)).mpr ho), if_neg (show ¬ (1 : Int32) = 0 by decide)]
      exact ⟨_, rfl, rfl⟩
    · rw [if_neg ho, if_pos rfl, if_neg (fun z => ho ((out_iff (hW.ct hn)).mp z)), if_pos rfl, of _ 2 (by decide) (by omega), show σ r 6 n 4 = _ from ec 2 (by omega)]
      exact ⟨_, rfl, rfl⟩
  · iterate 2 rw [if_neg (show ¬ nI 2 = (0 : Int32) by decide), if_neg (show ¬ nI 2 = (1 : Int32) by decide), if_pos (show nI 2 = (2 : Int32) by decide)]
    rw [of _ 3 (by decide) (by omega), show σ r 6 n 5 = _ from ec 3 (by omega)]
    exact ⟨_, rfl, rfl⟩
  · iterate 2 rw [if_neg (show ¬ nI 3 = (0 : Int32) by decide), if_neg (show ¬ nI 3 = (1 : Int32) by decide), if_neg (show ¬ nI 3 = (2 : Int32) by decide), if_pos (show nI 3 = (3 : Int32) by decide)]
    rw [of _ 4 (by decide) (by omega), show σ r 6 n 6 = _ from ec 4 (by omega)]
    exact ⟨_, rfl, rfl⟩
theorem would_L {c f n X j : Nat} (hn : n < c) (hj : j ≤ 3) (hX : X ≤ 20) : ∀ (e i fu fu2 B ph : Nat) (S : Nat → Int32) (σ μ : mm_M), i + e = X → e < fu → e < fu2 → B + e < 100000 → WF B c f S → RS c f σ 1 S → S 1 = nI ph → ph < 5 → ∃ v σ1 μ1 T, fx_X10_would_L42 (nI n) (nI X) (nI j) fu (nI i) σ = some (v, σ1) ∧ fx_X11_would_L37 (nI n) (nI X) (nI j) fu2 (nI i) (mw μ S) = some (v, mw μ1 T) ∧ CF σ σ1 ∧ MF μ μ1 ∧ ∀ i, i < 207 → T i = μ 10 33 0 i := by
  intro e
  induction e with
  | zero =>
    intro i fu fu2 B ph S σ μ hk hf hf2 hB hW hR hp hph
    obtain ⟨g, rfl⟩ : ∃ g, fu = g + 1 := ⟨fu - 1, by omega⟩
    obtain ⟨g2, rfl⟩ : ∃ g, fu2 = g + 1 := ⟨fu2 - 1, by omega⟩
    have : i = X := by omega
    subst this
    have hc4 := hW.c4
    obtain ⟨v, x1, x2⟩ := val4 (μ := μ) hW hR hn hj
    obtain ⟨T1, t1, t2⟩ := mo_take μ S
    rw [fx_X10_would_L42, if_pos (le_lit rfl (Nat.le_refl _) (by omega)), mm_gd_t (mm_ix_n (by omega) (by omega)), nI_cl (by omega), x1, mm_bd_some, fx_X11_would_L37, if_pos (le_lit rfl (Nat.le_refl _) (by omega)), x2, mm_bd_some, t1, mm_bd_some]
    exact ⟨v, σ, μ, T1, rfl, rfl, fun _ _ _ _ _ => rfl, MF.rf, t2⟩
  | succ e ih =>
    intro i fu fu2 B ph S σ μ hk hf hf2 hB hW hR hp hph
    obtain ⟨g, rfl⟩ : ∃ g, fu = g + 1 := ⟨fu - 1, by omega⟩
    obtain ⟨g2, rfl⟩ : ∃ g, fu2 = g + 1 := ⟨fu2 - 1, by omega⟩
    obtain ⟨t, S1, σ1, μ1, ht, e1, e2, hW1, hR1, hp1, _⟩ := phase_both (μ := μ) hW (show 1 < 6 by omega) hp hph hR (by omega) (by omega)
    have hiX : ¬ nI X ≤ nI i := nle_lit rfl (by omega) (by omega)
    obtain ⟨v, σ2, μ2, T, y1, y2, y3, y4, y5⟩ := ih (i + 1) g g2 (B + 1) (if ph < 4 then ph + 1 else 0) S1 σ1 μ1 (by omega) (by omega) (by omega) (by omega) hW1 hR1 (by
      rcases hp1 with ⟨a, b⟩ | ⟨a, b⟩
      · rw [if_pos a]; exact b
      · rw [if_neg (by omega)]; exact b) (by split <;> omega)
    rw [fx_X10_would_L42, if_neg hiX, e1, mm_bd_some, mm_li_e, nI_1, fx_X11_would_L37, if_neg hiX, e2, mm_bd_some, mm_li_e, nI_1]
    exact ⟨v, σ2, μ2, T, y1, y2, (run_cf e1).trans y3, (passes_mf e2).mw.trans y4, fun i hi => (y5 i hi).trans (p33 e2 i)⟩
theorem fresh_cf {σ : mm_M} : ∃ σa, fx_X10_freshTrial σ = some (0, σa) ∧ C0 1 0 σ σa ∧ (∀ q t n i, q ≠ 1 → σa q t n i = σ q t n i) ∧ CF σ σa := by
  obtain ⟨σa, ea, ca, fa⟩ := copy0 (r0 := 1) (r1 := 0) (σ := σ) (by omega)
  exact ⟨σa, by rw [fx_X10_freshTrial, ea, mm_bd_some], ca, fa, fun q t n i hh => fa q t n i (by omega)⟩
theorem J_would {k : Nat} (hk : k < 512) {σ : mm_M} (hJ : JJ k σ) (a b x : Int32) : ∃ v σ1 σ2, fx_X10_would a b x σ = some (v, σ1) ∧ fx_X11_would a b x σ1 = some (v, σ2) ∧ JJ (k + 1) σ2 := by
  refine ask_gen (cl := fx_X10_would a b x) (mo := fx_X11_would a b x) hJ (fun μ _ => ?_)
  obtain ⟨_, ⟨c, f, ph, hW, hR, hp, hph⟩, _⟩ := hJ
  generalize σ 10 31 0 = S at *
  have hc4 := hW.c4
  have bad1 : ∃ v σ1 μ1 T, some ((-1000001 : Int32), σ) = some (v, σ1) ∧ some ((-1000001 : Int32), mw μ S) = some (v, mw μ1 T) ∧ CF σ σ1 ∧ MG μ μ1 ∧ ∀ i, i < 207 → T i = S i := ⟨_, σ, μ, S, rfl, rfl, fun _ _ _ _ _ => rfl, MG.rf, fun _ _ => rfl⟩
  rw [fx_X10_would, cc_hasCart 0 a σ (hR.s0.trans hW.s0), mm_bd_some, fx_X11_would, md_isCart a (mw μ S) (by rw [mw_row]; exact hW.s0) hc4, mm_bd_some]
  by_cases ha : (0 : Int32) ≤ a ∧ a < nI c
  · rw [if_pos ha, if_neg (show ¬ (1 : Int32) = 0 by decide), if_neg (show ¬ (1 : Int32) = 0 by decide), cc_isWithin, mm_bd_some, md_in, mm_bd_some]
    by_cases hb : (0 : Int32) ≤ b ∧ b ≤ 20
    · rw [if_pos hb, if_neg (show ¬ (1 : Int32) = 0 by decide), if_neg (show ¬ (1 : Int32) = 0 by decide), cc_isWithin, mm_bd_some, md_in, mm_bd_some]
      by_cases hx : (0 : Int32) ≤ x ∧ x ≤ 3
      · rw [if_pos hx, if_neg (show ¬ (1 : Int32) = 0 by decide), if_neg (show ¬ (1 : Int32) = 0 by decide)]
        obtain ⟨n, hn, rfl⟩ := i32_isN (N := c) (Int32.not_lt.mpr ha.1) ha.2 (by omega)
        obtain ⟨X, hX, rfl⟩ := in_nat (N := 20) (by omega) hb
        obtain ⟨j, hj, rfl⟩ := in_nat (N := 3) (by omega) hx
        obtain ⟨σa, ea, ca, fa, cfa⟩ := fresh_cf (σ := σ)
        obtain ⟨μ1, m1, m2, m3⟩ := mo_put μ S
        obtain ⟨v, σ1, μ2, T, y1, y2, y3, y4, y5⟩ := would_L hn hj hX X 0 mm_FU mm_FU (JB k) ph S σa μ1 (by omega) (by unfold mm_FU; omega) (by unfold mm_FU; omega) (by unfold JB; omega) hW (hR.copy hc4 hW.f4 ca) hp hph
        rw [ea, mm_bd_some, m1, mm_bd_some]
        exact ⟨v, σ1, μ2, T, y1, y2, cfa.trans y3, MG.trans (fun q t n i hh => m3 q t n i (by omega)) y4.mg, fun i hi => (y5 i hi).trans (m2 i hi)⟩
      · rw [if_neg hx, if_pos rfl, if_pos rfl]
        exact bad1
    · rw [if_neg hb, if_pos rfl, if_pos rfl]
      exact bad1
  · rw [if_neg ha, if_pos rfl, if_pos rfl]
    exact bad1
