/-! flag, damage, round, undo, type, clearText -/
theorem flag_wf {B c f n : Nat} {S : Nat → Int32} {v : Int32} (h : WF B c f S) (hn : n ≤ f) (hn4 : n < 4) (hv : isN v 64) (f2 : Nat) (hf2 : f2 = if n = f then f + 1 else f) : WF B c f2 (upd (upd S 3 (nI f2)) (7 + n) v) := by
  have V : ∀ i, i ≠ 3 → i ≠ 7 + n → upd (upd S 3 (nI f2)) (7 + n) v i = S i := fun i a b => (pk_un b).trans (pk_un a)
  have hle : f ≤ f2 ∧ f2 ≤ f + 1 ∧ n < f2 ∧ f2 ≤ 4 := by
    have := h.f4
    rw [hf2]
    split <;> omega
  obtain ⟨h1, h2, h3, h4, h5, h6, h7, h8, h9⟩ := h
  refine ⟨h1, hle.2.2.2, ?_, (pk_un (by omega)).trans pk_us, ?_, fun k hk => ?_, fun k hk => ?_, fun m hm => ?_, fun i m hi hm hne => ?_⟩
  · rw [V _ (by omega) (by omega)]; exact h3
  · rw [V _ (by omega) (by omega)]; exact h5
  · by_cases hkn : k = n
    · subst hkn; rw [pk_us]; exact hv
    · rw [V _ (by omega) (by omega)]
      refine h6 k ?_
      rw [hf2] at hk
      split at hk <;> omega
  · rw [V _ (by omega) (by omega)]; exact h7 k hk
  · obtain ⟨a1, a2, a3, a4, ⟨t, ht, et⟩, a6, a7, a8⟩ := (h8 m hm).same (T := upd (upd S 3 (nI f2)) (7 + n) v) (by omega) (fun k hk => V _ (by omega) (by omega))
    exact ⟨a1, a2, a3, a4, ⟨t, by omega, et⟩, a6, a7, a8⟩
  · rw [V _ (by omega) (by omega), V _ (by omega) (by omega)]; exact h9 i m hi hm hne
theorem flag_rs {c f r n f2 : Nat} {σ : mm_M} {S : Nat → Int32} {v : Int32} (h : RS c f σ r S) (hc : c ≤ 4) (hf : f ≤ 4) (hn : n ≤ f) (hn4 : n < 4) (hf2 : f2 = if n = f then f + 1 else f) : RS c f2 (mm_u (mm_u σ r 4 0 n v) r 1 0 3 (nI f2)) r (upd (upd S 3 (nI f2)) (7 + n) v) := by
  have V : ∀ i, i ≠ 3 → i ≠ 7 + n → upd (upd S 3 (nI f2)) (7 + n) v i = S i := fun i a b => (pk_un b).trans (pk_un a)
  have U : ∀ t1 n1 i1, ¬ (t1 = 4 ∧ n1 = 0 ∧ i1 = n) → ¬ (t1 = 1 ∧ n1 = 0 ∧ i1 = 3) → mm_u (mm_u σ r 4 0 n v) r 1 0 3 (nI f2) r t1 n1 i1 = σ r t1 n1 i1 := fun t1 n1 i1 a b => by rw [mm_u_ap, if_neg (by omega), mm_u_ap, if_neg (by omega)]
  obtain ⟨h1, h2, h3, h4, h5, h6, h7, h8, h9, h10, h11, h12⟩ := h
  refine ⟨?_, ?_, ?_, ?_, ?_, ?_, ?_, fun k hk => ?_, fun k hk => ?_, fun k hk => ?_, fun m hm => ⟨fun k2 hk2 => ?_, fun j hj => ⟨?_, fun h0 => ?_⟩⟩, fun m hm hm4 => ⟨fun k a b => ?_, fun j hj => ?_⟩⟩
  · rw [U _ _ _ (by omega) (by omega), V _ (by omega) (by omega)]; exact h1
  · rw [U _ _ _ (by omega) (by omega), V _ (by omega) (by omega)]; exact h2
  · rw [U _ _ _ (by omega) (by omega), V _ (by omega) (by omega)]; exact h3
  · rw [U _ _ _ (by omega) (by omega), V _ (by omega) (by omega)]; exact h4
  · rw [U _ _ _ (by omega) (by omega), V _ (by omega) (by omega)]; exact h5
  · rw [U _ _ _ (by omega) (by omega), V _ (by omega) (by omega)]; exact h6
  · rw [mm_u_ap, if_pos ⟨rfl, rfl, rfl, rfl⟩, pk_un (show 3 ≠ 7 + n by omega), pk_us]
  · rw [U _ _ _ (by omega) (by omega), V _ (by omega) (by omega)]; exact h8 k hk
  · rw [U _ _ _ (by omega) (by omega), V _ (by omega) (by omega)]; exact h9 k hk
  · by_cases hkn : k = n
    · subst hkn
      rw [mm_u_ap, if_neg (by omega), mm_u_ap, if_pos ⟨rfl, rfl, rfl, rfl⟩, pk_us]
    · rw [U _ _ _ (by omega) (by omega), V _ (by omega) (by omega)]
      refine h10 k ?_
      rw [hf2] at hk
      split at hk <;> omega
  · rw [U _ _ _ (by omega) (by omega), V _ (by omega) (by omega)]; exact (h11 m hm).1 k2 hk2
  · rw [U _ _ _ (by omega) (by omega), V _ (by omega) (by omega)]; exact ((h11 m hm).2 j hj).1
  · rw [V _ (by omega) (by omega)] at h0
    rw [U _ _ _ (by omega) (by omega), V _ (by omega) (by omega)]; exact ((h11 m hm).2 j hj).2 h0
  · rw [U _ _ _ (by omega) (by omega)]; exact (h12 m hm hm4).1 k a b
  · rw [U _ _ _ (by omega) (by omega)]; exact (h12 m hm hm4).2 j hj
theorem TB.er {B2 : Nat} {S : Nat → Int32} {σ μ : mm_M} {v : Int32} (h : er v) : TB B2 S (some (v, σ)) μ (some (v, mw μ S)) := ⟨v, σ, rfl, Or.inr ⟨h, μ, S, rfl, MF.rf, fun _ _ => rfl⟩⟩
theorem J_flag {k : Nat} {σ : mm_M} (hJ : JJ k σ) (a b : Int32) : ∃ v σ1 σ2, fx_X10_flag a b σ = some (v, σ1) ∧ fx_X11_flag a b σ1 = some (v, σ2) ∧ JJ (k + 1) σ2 := by
  refine act_gen (op := fx_X8_layFlag 1 a b) (B2 := JB k) hJ (Nat.le_refl _) (by rw [JB_up]; omega) (fun σ1 μ S hG _ hb => ?_) (fun σ v σ1 e q t n i hh => fr_X8_layFlag 1 a b σ v σ1 e q t n i (by unfold fw_X8_layFlag; omega))
  obtain ⟨c, f, ph, hW, hR, hp, hph⟩ := hG
  have hc4 := hW.c4
  have hf4 := hW.f4
  rw [fx_X8_layFlag, cc_isWithin, mm_bd_some, md_in, mm_bd_some]
  by_cases ha : (0 : Int32) ≤ a ∧ a ≤ 3
  · rw [if_pos ha, if_neg (show ¬ (1 : Int32) = 0 by decide), if_neg (show ¬ (1 : Int32) = 0 by decide), cc_isCell, mm_bd_some, md_isCell, mm_bd_some]
    by_cases hbb : (0 : Int32) ≤ b ∧ b ≤ 63
    · rw [if_pos hbb, if_neg (show ¬ (1 : Int32) = 0 by decide), if_neg (show ¬ (1 : Int32) = 0 by decide)]
      obtain ⟨n, hn, rfl⟩ := in_nat (N := 3) (by omega) ha
      obtain ⟨q, hq, rfl⟩ := in_nat (N := 63) (by omega) hbb
      have e3 : σ1 1 1 0 3 = nI f := hR.fc.trans hW.s3
      have e31 : mw μ S 10 31 0 (3 : Int32).toNatClampNeg = nI f := by rw [mw_row]; exact hW.s3
      rw [e3, e31]
      by_cases hnf : n ≤ f
      · have hle : nI n ≤ nI f := le_lit rfl hnf (by omega)
        have w3 : mm_u σ1 1 4 0 n (nI q) 1 1 0 3 = nI f := by rw [mm_u_ap, if_neg (by omega)]; exact e3
        have e7 : (7 : Int32) + nI n = nI (7 + n) := by show nI 7 + nI n = _; rw [nI_add]
        have J : ∀ f2, f2 = (if n = f then f + 1 else f) → f2 < 6 ∧ (mm_bd (fx_J9_max_7cf53 (nI f) (nI (n + 1)) (mm_u σ1 1 4 0 n (nI q))) fun r_8 s_8 => (mm_lt (mm_u s_8 1 1 0 3 r_8) fun s_9 => (some (s_9 1 1 0 3, s_9)))) = some (nI f2, mm_u (mm_u σ1 1 4 0 n (nI q)) 1 1 0 3 (nI f2)) ∧ fx_X11_flag_J68 (nI n) (nI q) 3 (nI f2) (mw μ S) = fx_X11_acted (nI f2) (mw μ (upd (upd S 3 (nI f2)) (7 + n) (nI q))) := by
          intro f2 hf2
          refine ⟨?_, ?_, ?_⟩
          · rw [hf2]; split <;> omega
          · rw [fx_J9_max_7cf53]
            by_cases hf : n = f
            · rw [if_pos hf] at hf2
              rw [if_pos ((nI_lt2 (by omega) (by omega)).mpr (by omega)), mm_bd_some, mm_lt_e, mm_u_ap, if_pos ⟨rfl, rfl, rfl, rfl⟩, hf, hf2]
            · rw [if_neg hf] at hf2
              rw [if_neg (fun z => absurd ((nI_lt2 (by omega) (by omega)).mp z) (by omega)), mm_bd_some, mm_lt_e, mm_u_ap, if_pos ⟨rfl, rfl, rfl, rfl⟩, hf2]
          · rw [fx_X11_flag_J68, mm_gd_t (by decide), mm_lt_e, e7, mm_gd_t (mm_ix_n (by omega) (by omega)), mm_lt_e, nI_cl (by omega), bd_id]
            have m0 : mm_u (mw μ S) 10 31 0 (3 : Int32).toNatClampNeg (nI f2) = mw μ (upd S 3 (nI f2)) := mw_u μ S 3 _
            rw [m0, mw_u, mw_row]
            have m1 : upd (upd S 3 (nI f2)) (7 + n) (nI q) (3 : Int32).toNatClampNeg = nI f2 := (pk_un (show 3 ≠ 7 + n by omega)).trans pk_us
            rw [m1]
        obtain ⟨j1, j2, j3⟩ := J _ rfl
        rw [if_pos hle, if_pos hle, mm_gd_t (mm_ix_n (by omega) (by omega)), mm_lt_e, nI_cl (by omega), w3, nI_1, j2]
        have j3' : (if nI n = nI f then fx_X11_flag_J68 (nI n) (nI q) 3 (nI f + 1) (mw μ S) else fx_X11_flag_J68 (nI n) (nI q) 3 (nI f) (mw μ S)) = fx_X11_acted (nI (if n = f then f + 1 else f)) (mw μ (upd (upd S 3 (nI (if n = f then f + 1 else f))) (7 + n) (nI q))) := by
          rw [← j3]
          by_cases hf : n = f
          · rw [if_pos (by rw [hf]), if_pos hf, nI_1]
          · rw [if_neg (fun z => hf ((nI_e (by omega) (by omega)).mp z)), if_neg hf]
        rw [j3']
        exact ⟨_, _, rfl, Or.inl ⟨_, μ, _, by omega, rfl, rfl, MF.rf, c, _, ph, flag_wf hW hnf (by omega) ⟨q, by omega, rfl⟩ _ rfl, flag_rs hR hc4 hf4 hnf (by omega) rfl, (pk_un (by omega)).trans ((pk_un (by omega)).trans hp), hph⟩⟩
      · rw [if_neg (nle_lit rfl (by omega) (by omega) : ¬ nI n ≤ nI f), if_neg (nle_lit rfl (by omega) (by omega) : ¬ nI n ≤ nI f)]
        exact TB.er (Or.inr (Or.inl rfl))
    · rw [if_neg hbb, if_pos rfl, if_pos rfl]
      exact TB.er (Or.inl rfl)
  · rw [if_neg ha, if_pos rfl, if_pos rfl]
    exact TB.er (Or.inl rfl)
theorem clamp_eq (y : Int32) : ∃ k, k < 10 ∧ (if (0 : Int32) < (if y < 9 then y else 9) then (if y < 9 then y else 9) else 0) = nI k ∧ ((0 ≤ y ∧ y ≤ 9 ∧ y = nI k) ∨ (0 ≤ y ∧ ¬ y ≤ 9 ∧ k = 9) ∨ (¬ 0 ≤ y ∧ k = 0)) := by
  by_cases h0 : (0 : Int32) ≤ y
  · by_cases h9 : y ≤ 9
    · obtain ⟨k, hk, e⟩ := in_nat (N := 9) (by omega) ⟨h0, h9⟩
      refine ⟨k, by omega, ?_, Or.inl ⟨h0, h9, e⟩⟩
      rw [e]
      rcases (show k = 0 ∨ k = 1 ∨ k = 2 ∨ k = 3 ∨ k = 4 ∨ k = 5 ∨ k = 6 ∨ k = 7 ∨ k = 8 ∨ k = 9 by omega) with rfl | rfl | rfl | rfl | rfl | rfl | rfl | rfl | rfl | rfl <;> decide
    · refine ⟨9, by omega, ?_, Or.inr (Or.inl ⟨h0, h9, rfl⟩)⟩
      have : ¬ y < 9 := fun z => h9 (Int32.le_of_lt z)
      rw [if_neg this, if_pos (by decide)]
      rfl
  · refine ⟨0, by omega, ?_, Or.inr (Or.inr ⟨h0, rfl⟩)⟩
    have hy : y < 0 := i32_nle h0
    have hy9 : y < 9 := by
      rw [Int32.lt_iff_toInt_lt] at hy ⊢
      have h1 : (0 : Int32).toInt = 0 := by decide
      have h2 : (9 : Int32).toInt = 9 := by decide
      omega
    rw [if_pos hy9, if_neg (fun z => h0 (Int32.le_of_lt z))]
    rfl
theorem J_damage {k : Nat} {σ : mm_M} (hJ : JJ k σ) (a b : Int32) : ∃ v σ1 σ2, fx_X10_damage a b σ = some (v, σ1) ∧ fx_X11_damage a b σ1 = some (v, σ2) ∧ JJ (k + 1) σ2 := by
  refine act_gen (op := fx_X8_harm 1 a b) (B2 := JB k) hJ (Nat.le_refl _) (by rw [JB_up]; omega) (fun σ1 μ S hG _ hb => ?_) (fun σ v σ1 e q t n i hh => fr_X8_harm 1 a b σ v σ1 e q t n i (by unfold fw_X8_harm; omega))
  obtain ⟨c, f, ph, hW, hR, hp, hph⟩ := hG
  have hc4 := hW.c4
  have hf4 := hW.f4
  rw [fx_X8_harm, cc_hasCart 1 a σ1 (hR.s0.trans hW.s0), mm_bd_some, md_isCart a (mw μ S) (by rw [mw_row]; exact hW.s0) hc4, mm_bd_some]
  by_cases ha : (0 : Int32) ≤ a ∧ a < nI c
  · rw [if_pos ha, if_neg (show ¬ (1 : Int32) = 0 by decide), if_neg (show ¬ (1 : Int32) = 0 by decide), cc_isWithin, mm_bd_some, md_in, mm_bd_some]
    by_cases hbb : (-9 : Int32) ≤ b ∧ b ≤ 9
    · rw [if_pos hbb, if_neg (show ¬ (1 : Int32) = 0 by decide), if_neg (show ¬ (1 : Int32) = 0 by decide)]
      obtain ⟨n, hn, rfl⟩ := i32_isN (N := c) (Int32.not_lt.mpr ha.1) ha.2 (by omega)
      have ec : σ1 1 6 n 3 = S (139 + 17 * n + 1) := hR.ct hn (k := 1) (by omega)
      have e5 : σ1 1 6 n 5 = S (139 + 17 * n + 3) := hR.ct hn (k := 3) (by omega)
      rw [mm_gd_t (mm_ix_n (by omega) (by omega)), nI_cl (by omega), cc_isOut, mm_bd_some, ec, mo_isOut μ S rfl (by omega), mm_bd_some]
      by_cases ho : S (139 + 17 * n + 1) = -1
      · rw [if_pos ho, if_neg (show ¬ (1 : Int32) = 0 by decide), if_pos ((out_iff (hW.ct hn)).mpr ho), if_neg (show ¬ (1 : Int32) = 0 by decide)]
        exact TB.er (Or.inr (Or.inl rfl))
      · rw [if_neg ho, if_pos rfl, cc_addDamage, mm_bd_some, e5, if_neg (fun z => ho ((out_iff (hW.ct hn)).mp z)), if_pos rfl, mo_of (w := 3) (k := 3) μ S rfl rfl (by omega), mm_bd_some, mm_li_e]
        obtain ⟨w, hw, ew, hcase⟩ := clamp_eq (S (139 + 17 * n + 3) + b)
        have J : fx_X11_damage_J66 (nI n) b (nI w) (mw μ S) = fx_X11_acted (nI w) (mw μ (upd S (139 + 17 * n + 3) (nI w))) := by
          rw [fx_X11_damage_J66, mo_lays (w := 3) (k := 3) μ S rfl rfl (by omega), mm_bd_some, bd_id]
        have e9 : mm_u σ1 1 6 n 5 (nI w) 1 6 n 5 = nI w := by rw [mm_u_ap, if_pos ⟨rfl, rfl, rfl, rfl⟩]
        have jt : (if (0 : Int32) ≤ S (139 + 17 * n + 3) + b then if S (139 + 17 * n + 3) + b ≤ (9 : Int32) then fx_X11_damage_J66 (nI n) b (S (139 + 17 * n + 3) + b) (mw μ S) else fx_X11_damage_J66 (nI n) b (9 : Int32) (mw μ S) else fx_X11_damage_J66 (nI n) b (0 : Int32) (mw μ S)) = fx_X11_acted (nI w) (mw μ (upd S (139 + 17 * n + 3) (nI w))) := by
          rw [← J]
          rcases hcase with ⟨h1, h2, h3⟩ | ⟨h1, h2, h3⟩ | ⟨h1, h3⟩
          · rw [if_pos h1, if_pos h2, h3]
          · subst h3; rw [if_pos h1, if_neg h2]; rfl
          · subst h3; rw [if_neg h1]; rfl
        rw [ew, jt, e9]
        exact ⟨_, _, rfl, Or.inl ⟨w, μ, _, by omega, rfl, rfl, MF.rf, c, f, ph, hW.cart hn (k := 3) (by omega) (by omega) (fun z => absurd z (by omega)) (fun z => absurd z (by omega)) (fun _ => ⟨w, hw, rfl⟩) (fun z => absurd z (by omega)) (fun z => absurd z (by omega)), hR.cart hc4 hf4 hn (k := 3) (by omega) _, (pk_un (by omega)).trans hp, hph⟩⟩
    · rw [if_neg hbb, if_pos rfl, if_pos rfl]
      exact TB.er (Or.inl rfl)
  · rw [if_neg ha, if_pos rfl, if_pos rfl]
    exact TB.er (Or.inl rfl)
theorem round_L {c f : Nat} (h0 : 0 < c) : ∀ (e ph A B fu fu2 : Nat) (S : Nat → Int32) (σ μ : mm_M), ph + e = 4 → e + 1 < fu → e < fu2 → B + e < 32000 → WF B c f S → RS c f σ 1 S → S 1 = nI ph → ∃ A2 σ1 μ1 S1, A2 ≤ A + (e + 1) * 130000 ∧ fx_X7_runToRoundEnd_L17 1 fu (nI A) (nI ph) σ = some (nI A2, σ1) ∧ (mm_bd (fx_X11_passes (mw μ S)) fun r_6 s_6 => fx_X11_round_L21 fu2 (nI A + r_6) s_6) = fx_X11_acted (nI A2) (mw μ1 S1) ∧ MF μ μ1 ∧ WF (B + e + 1) c f S1 ∧ RS c f σ1 1 S1 ∧ S1 1 = nI 0 := by
  intro e
  induction e with
  | zero =>
    intro ph A B fu fu2 S σ μ hk hf hf2 hB hW hR hp
    obtain ⟨g, rfl⟩ : ∃ g, fu = g + 1 := ⟨fu - 1, by omega⟩
    obtain ⟨g1, rfl⟩ : ∃ g1, g = g1 + 1 := ⟨g - 1, by omega⟩
    obtain ⟨g2, rfl⟩ : ∃ g, fu2 = g + 1 := ⟨fu2 - 1, by omega⟩
    obtain ⟨t, S1, σ1, μ1, ht, e1, e2, hW1, hR1, hp1, _⟩ := phase_both (μ := μ) hW (show 1 < 6 by omega) hp (by omega) hR h0 (by omega)
    have hp0 : S1 1 = 0 := hp1.elim (fun z => absurd z.1 (by omega)) (fun z => z.2)
    have m1 : mw μ1 S1 10 31 0 (1 : Int32).toNatClampNeg = 0 := by rw [mw_row]; exact hp0
    refine ⟨A + t, σ1, μ1, S1, by omega, ?_, ?_, (passes_mf e2).mw, hW1, hR1, hp0⟩
    · rw [fx_X7_runToRoundEnd_L17, if_neg (show ¬ (5 : Int32) ≤ nI ph from nle_lit (x := 5) (b := 5) rfl (by omega) (by omega)), e1, mm_bd_some, mm_li_e, mm_li_e, nI_1, nI_add, fx_X7_runToRoundEnd_L17, if_pos (show (5 : Int32) ≤ nI (ph + 1) from le_lit (x := 5) (b := 5) rfl (by omega) (by omega))]
    · rw [e2, mm_bd_some, nI_add, fx_X11_round_L21, m1, if_pos (show (0 : Int32) ≤ 0 by decide), bd_id]
  | succ e ih =>
    intro ph A B fu fu2 S σ μ hk hf hf2 hB hW hR hp
    obtain ⟨g, rfl⟩ : ∃ g, fu = g + 1 := ⟨fu - 1, by omega⟩
    obtain ⟨g2, rfl⟩ : ∃ g, fu2 = g + 1 := ⟨fu2 - 1, by omega⟩
    obtain ⟨t, S1, σ1, μ1, ht, e1, e2, hW1, hR1, hp1, _⟩ := phase_both (μ := μ) hW (show 1 < 6 by omega) hp (by omega) hR h0 (by omega)
    have hp0 : S1 1 = nI (ph + 1) := hp1.elim (fun z => z.2) (fun z => absurd z.1 (by omega))
    have m1 : mw μ1 S1 10 31 0 (1 : Int32).toNatClampNeg = nI (ph + 1) := by rw [mw_row]; exact hp0
    obtain ⟨A2, σ2, μ2, S2, hA, b1, b2, b3, b4, b5, b6⟩ := ih (ph + 1) (A + t) (B + 1) g g2 S1 σ1 μ1 (by omega) (by omega) (by omega) (by omega) hW1 hR1 hp0
    have eB : B + 1 + e + 1 = B + (e + 1) + 1 := by omega
    rw [eB] at b4
    refine ⟨A2, σ2, μ2, S2, by omega, ?_, ?_, (passes_mf e2).mw.trans b3, b4, b5, b6⟩
    · rw [fx_X7_runToRoundEnd_L17, if_neg (show ¬ (5 : Int32) ≤ nI ph from nle_lit (x := 5) (b := 5) rfl (by omega) (by omega)), e1, mm_bd_some, mm_li_e, mm_li_e, nI_1, nI_add]
      exact b1
    · rw [e2, mm_bd_some, nI_add, fx_X11_round_L21, m1, if_neg (show ¬ nI (ph + 1) ≤ (0 : Int32) from nle_lit (a := 0) (b := ph + 1) rfl (by omega) (by omega))]
      exact b2
theorem J_round {k : Nat} (hk : k < 512) {σ : mm_M} (hJ : JJ k σ) : ∃ v σ1 σ2, fx_X10_round σ = some (v, σ1) ∧ fx_X11_round σ1 = some (v, σ2) ∧ JJ (k + 1) σ2 := by
  refine act_gen (op := fx_X7_runToRoundEnd 1) (B2 := JB k + 5) hJ (by omega) (by rw [JB_up]; omega) (fun σ1 μ S hG _ hb => ?_) (fun σ v σ1 e q t n i hh => fr_X7_runToRoundEnd 1 σ v σ1 e q t n i (by unfold fw_X7_runToRoundEnd; omega))
  obtain ⟨c, f, ph, hW, hR, hp, hph⟩ := hG
  have hc4 := hW.c4
  have hc0 : σ1 1 0 0 2 = nI c := hR.s0.trans hW.s0
  have hc1 : mw μ S 10 31 0 (0 : Int32).toNatClampNeg = nI c := by rw [mw_row]; exact hW.s0
  have ep : σ1 1 0 0 3 = nI ph := hR.ph.trans hp
  rw [fx_X7_runToRoundEnd, hc0, hc1]
  by_cases h0 : c = 0
  · subst h0
    rw [if_pos (show nI 0 = (0 : Int32) from rfl), if_pos (show nI 0 = (0 : Int32) from rfl)]
    exact TB.er (Or.inr (Or.inl rfl))
  · have hne : ¬ nI c = (0 : Int32) := ne_lit (b := 0) rfl h0 (by omega) (by omega)
    obtain ⟨A2, σ2, μ2, S2, hA, b1, b2, b3, b4, b5, b6⟩ := round_L (by omega) (4 - ph) ph 0 (JB k) mm_FU mm_FU S σ1 μ (by omega) (by unfold mm_FU; omega) (by unfold mm_FU; omega) (by unfold JB; omega) hW hR hp
    have hmul : (4 - ph + 1) * 130000 ≤ 5 * 130000 := Nat.mul_le_mul_right _ (by omega)
    have z : ∀ r : Int32, nI 0 + r = r := fun r => Int32.zero_add r
    simp only [z] at b2
    rw [if_neg hne, if_neg hne, mm_li_e, ep, show fx_X7_runToRoundEnd_L17 1 mm_FU 0 (nI ph) σ1 = _ from b1, b2]
    exact ⟨_, _, rfl, Or.inl ⟨A2, μ2, S2, by omega, rfl, rfl, b3, c, f, 0, b4.mono (by omega), b5, b6, by omega⟩⟩
