theorem fil_L : ∀ (e k fu : Nat) (σ : mm_M), k + e = 64 → e < fu → (∀ q, q < k → σ 7 21 0 q = -1) → ∃ σ1, fx_J7_fill_53178_k21_L5 (-1) fu (nI k) 64 σ = some (0, σ1) ∧ (∀ q, q < 64 → σ1 7 21 0 q = -1) ∧ ∀ q t m i, q ≠ 7 → σ1 q t m i = σ q t m i := by
  intro e
  induction e with
  | zero =>
    intro k fu σ hk hf h
    obtain ⟨g, rfl⟩ : ∃ g, fu = g + 1 := ⟨fu - 1, by omega⟩
    have : k = 64 := by omega
    subst this
    rw [fx_J7_fill_53178_k21_L5, if_pos (show (64 : Int32) ≤ nI 64 by decide)]
    exact ⟨σ, rfl, h, fun _ _ _ _ _ => rfl⟩
  | succ e ih =>
    intro k fu σ hk hf h
    obtain ⟨g, rfl⟩ : ∃ g, fu = g + 1 := ⟨fu - 1, by omega⟩
    obtain ⟨σ1, e1, h1, f1⟩ := ih (k + 1) g (mm_u σ 7 21 0 k (-1)) (by omega) (by omega) (fun q hq => by
      by_cases hqk : q = k
      · subst hqk; rw [mm_u_ap, if_pos ⟨rfl, rfl, rfl, rfl⟩]
      · rw [mm_u_ap, if_neg (by omega)]; exact h q (by omega))
    rw [fx_J7_fill_53178_k21_L5, if_neg (cell_nI (show k < 64 by omega)).2, mm_gd_t (mm_ix_n (by omega) (by omega)), mm_lt_e, mm_li_e, nI_cl (by omega), nI_1]
    exact ⟨σ1, e1, h1, fun q t m i hh => (f1 q t m i hh).trans (by rw [mm_u_ap, if_neg (by omega)])⟩
theorem cu_all {M : Nat → Int32} : ∀ k, (∀ q, q < k → M q = -1) → cu M k = k
  | 0, _ => rfl
  | k + 1, h => by
    unfold cu
    rw [cu_all k (fun q hq => h q (by omega)), if_pos (h k (by omega))]
theorem cc_steps {B c f s t : Nat} {S : Nat → Int32} {σ : mm_M} (hW : WF B c f S) (hR : RS c f σ 0 S) (hs : s < 64) (ht : t < 64) : ∃ w σ1, fx_X9_shortest 0 (nI s) (nI t) σ = some (w, σ1) ∧ ANS S s t w ∧ ∀ q t m i, q ≠ 7 → σ1 q t m i = σ q t m i := by
  obtain ⟨σ1, e1, h1, f1⟩ := fil_L 64 0 mm_FU σ (by omega) (by unfold mm_FU; omega) (fun q hq => absurd hq (by omega))
  have u0 : ∀ q, q < 64 → mm_u σ1 7 20 0 2 0 7 21 0 q = -1 := fun q hq => by rw [mm_u_ap, if_neg (by omega)]; exact h1 q hq
  have u1 : mm_u σ1 7 20 0 2 0 7 20 0 2 = 0 := by rw [mm_u_ap, if_pos ⟨rfl, rfl, rfl, rfl⟩]
  have u2 : mm_u (mm_u σ1 7 20 0 2 0) 7 21 0 s 0 7 20 0 2 = 0 := by rw [mm_u_ap, if_neg (by omega)]; exact u1
  have u3 : mm_u (mm_u (mm_u σ1 7 20 0 2 0) 7 21 0 s 0) 7 22 0 0 (nI s) 7 20 0 2 = 0 := by rw [mm_u_ap, if_neg (by omega)]; exact u2
  have er : fx_X9_reach (nI s) 0 (mm_u σ1 7 20 0 2 0) = some (0, mm_u (mm_u (mm_u (mm_u σ1 7 20 0 2 0) 7 21 0 s 0) 7 22 0 0 (nI s)) 7 20 0 2 (nI 1)) := by
    rw [fx_X9_reach, mm_gd_t (mm_ix_n hs (by omega)), nI_cl (by omega), u0 s hs, if_pos rfl, u1, if_neg (show ¬ (64 : Int32) ≤ 0 by decide), mm_gd_t (mm_ix_n hs (by omega)), mm_lt_e, u2, mm_gd_t (by decide), mm_lt_e]
    show mm_lt (mm_u (mm_u (mm_u (mm_u σ1 7 20 0 2 0) 7 21 0 s 0) 7 22 0 0 (nI s)) 7 20 0 2 (mm_u (mm_u (mm_u σ1 7 20 0 2 0) 7 21 0 s 0) 7 22 0 0 (nI s) 7 20 0 2 + 1)) _ = _
    rw [u3, mm_lt_e]
    rfl
  have eD : ∀ q, q < 64 → mm_u (mm_u (mm_u (mm_u σ1 7 20 0 2 0) 7 21 0 s 0) 7 22 0 0 (nI s)) 7 20 0 2 (nI 1) 7 21 0 q = if q = s then 0 else -1 := by
    intro q hq
    rw [mm_u_ap, if_neg (by omega), mm_u_ap, if_neg (by omega), mm_u_ap]
    by_cases h : q = s
    · rw [if_pos ⟨rfl, rfl, rfl, h⟩, if_pos h]
    · rw [if_neg (fun z => h z.2.2.2), if_neg h]; exact u0 q hq
  have eQ : mm_u (mm_u (mm_u (mm_u σ1 7 20 0 2 0) 7 21 0 s 0) 7 22 0 0 (nI s)) 7 20 0 2 (nI 1) 7 22 0 0 = nI s := by
    rw [mm_u_ap, if_neg (by omega), mm_u_ap, if_pos ⟨rfl, rfl, rfl, rfl⟩]
  have en : mm_u (mm_u (mm_u (mm_u σ1 7 20 0 2 0) 7 21 0 s 0) 7 22 0 0 (nI s)) 7 20 0 2 (nI 1) 7 20 0 2 = nI 1 := by rw [mm_u_ap, if_pos ⟨rfl, rfl, rfl, rfl⟩]
  have eF : ∀ q t m i, q ≠ 7 → mm_u (mm_u (mm_u (mm_u σ1 7 20 0 2 0) 7 21 0 s 0) 7 22 0 0 (nI s)) 7 20 0 2 (nI 1) q t m i = σ q t m i := fun q t m i hq => by
    rw [mm_u_ap, if_neg (by omega), mm_u_ap, if_neg (by omega), mm_u_ap, if_neg (by omega), mm_u_ap, if_neg (by omega), f1 q t m i hq]
  have er2 : mm_u (mm_u (mm_u (mm_u σ1 7 20 0 2 0) 7 21 0 s 0) 7 22 0 0 (nI s)) 7 20 0 2 (nI 1) 7 21 0 = upd (mm_u σ1 7 20 0 2 0 7 21 0) s 0 := by
    rw [mm_u_oth _ _ _ _ _ _ (by omega), mm_u_oth _ _ _ _ _ _ (by omega), mm_u_row]
  have ec := cu_upd (M := mm_u σ1 7 20 0 2 0 7 21 0) (x := s) (v := 0) (u0 s hs) (by decide) 64 hs
  rw [← er2, cu_all 64 u0] at ec
  generalize mm_u (mm_u (mm_u (mm_u σ1 7 20 0 2 0) 7 21 0 s 0) 7 22 0 0 (nI s)) 7 20 0 2 (nI 1) = σ3 at *
  have only : ∀ q, q < 64 → ∀ b, b < 1000 → σ3 7 21 0 q = nI b → b = 0 := fun q hq b hb z => by
    rw [eD q hq] at z
    split at z
    · exact ((nI_e (a := 0) (b := b) (by omega) (by omega)).mp z).symm
    · exact absurd z (m1_nI (by omega))
  obtain ⟨w, σ4, e4, h4, f4⟩ := que_L (s := s) (x2 := nI s) hW ht 65 0 mm_FU 1 σ3 (by omega) (by unfold mm_FU; omega) (by omega) (hR.congr (fun t m i _ => eF _ _ _ _ (by omega))) ⟨by omega, en, by omega, fun q hq => by
    rw [eD q hq]
    by_cases h : q = s
    · rw [if_pos h]
      exact Or.inr ⟨0, 0, by omega, by rw [h]; exact eQ, rfl, Nat.le_refl _, h, fun j hj => absurd hj (by omega)⟩
    · rw [if_neg h]; exact Or.inl rfl, fun i hi => by
    have : i = 0 := by omega
    subst this
    exact ⟨s, 0, hs, eQ, by rw [eD s hs, if_pos rfl]; rfl, Nat.le_refl _⟩, fun i hi => absurd hi (by omega), fun i j p q a b hij hj hp hq ha hb _ _ w3 w4 => by
    have := only p hp a ha w3
    omega, by rw [eD s hs, if_pos rfl]; decide⟩ (fun _ => ⟨s, 0, hs, Nat.le_refl _, eQ, by rw [eD s hs, if_pos rfl]; rfl, fun j hj q b hq hb _ w2 => by
    have := only q hq b hb w2
    omega⟩)
  refine ⟨w, σ4, ?_, h4, fun q t m i hq => (f4 q t m i hq).trans (eF q t m i hq)⟩
  rw [fx_X9_shortest, fx_J7_fill_53178_k21, show fx_J7_fill_53178_k21_L5 (-1) mm_FU 0 64 σ = some (0, σ1) from e1, mm_bd_some, mm_lt_e, er, mm_bd_some]
  exact e4
theorem ANS_u {S : Nat → Int32} {s t : Nat} {w w2 : Int32} (h : ANS S s t w) (h2 : ANS S s t w2) : w = w2 := by
  rcases h with ⟨a, b⟩ | ⟨k, hk, a, b⟩
  · rcases h2 with ⟨a2, b2⟩ | ⟨k2, hk2, a2, b2⟩
    · rw [a, a2]
    · exact absurd b2.1 (b k2)
  · rcases h2 with ⟨a2, b2⟩ | ⟨k2, hk2, a2, b2⟩
    · exact absurd b.1 (b2 k)
    · rw [a, a2, dst_u b b2]
theorem J_steps {k : Nat} {σ : mm_M} (hJ : JJ k σ) (a b : Int32) : ∃ v σ1 σ2, fx_X10_steps a b σ = some (v, σ1) ∧ fx_X11_steps a b σ1 = some (v, σ2) ∧ JJ (k + 1) σ2 := by
  refine ask_gen (cl := fx_X10_steps a b) (mo := fx_X11_steps a b) hJ (fun μ _ => ?_)
  obtain ⟨_, ⟨c, f, ph, hW, hR, hp, hph⟩, _⟩ := hJ
  generalize σ 10 31 0 = S at *
  have same : ∃ v2 σ1 μ1 T, some ((-1000001 : Int32), σ) = some (v2, σ1) ∧ some ((-1000001 : Int32), mw μ S) = some (v2, mw μ1 T) ∧ CF σ σ1 ∧ MG μ μ1 ∧ ∀ i, i < 207 → T i = S i := ⟨_, σ, μ, S, rfl, rfl, fun _ _ _ _ _ => rfl, MG.rf, fun _ _ => rfl⟩
  rw [fx_X10_steps, cc_isCell, mm_bd_some, fx_X11_steps, md_isCell, mm_bd_some]
  by_cases ha : (0 : Int32) ≤ a ∧ a ≤ 63
  · rw [if_pos ha, if_neg (show ¬ (1 : Int32) = 0 by decide), if_neg (show ¬ (1 : Int32) = 0 by decide), cc_isCell, mm_bd_some, md_isCell, mm_bd_some]
    by_cases hb : (0 : Int32) ≤ b ∧ b ≤ 63
    · rw [if_pos hb, if_neg (show ¬ (1 : Int32) = 0 by decide), if_neg (show ¬ (1 : Int32) = 0 by decide), bd_id]
      obtain ⟨s, hs, rfl⟩ := in_nat (N := 63) (by omega) ha
      obtain ⟨t, ht, rfl⟩ := in_nat (N := 63) (by omega) hb
      obtain ⟨w, σ1, e1, h1, f1⟩ := cc_steps hW hR (show s < 64 by omega) (show t < 64 by omega)
      obtain ⟨w2, μ1, e2, h2, f2⟩ := mo_steps μ hW (show s < 64 by omega) (show t < 64 by omega)
      have ew := ANS_u h1 h2
      subst ew
      exact ⟨w, σ1, μ1, S, e1, e2, fun q t n i hh => f1 q t n i (by omega), fun q t n i hh => f2 q t n i (by omega), fun _ _ => rfl⟩
    · rw [if_neg hb, if_pos rfl, if_pos rfl]
      exact same
  · rw [if_neg ha, if_pos rfl, if_pos rfl]
    exact same
