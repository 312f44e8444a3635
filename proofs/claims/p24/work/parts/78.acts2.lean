/-! flag, damage, round -/
theorem flag_wf {B c f n : Nat} {S : Nat → Int32} {v : Int32} (h : WF B c f S) (hn : n ≤ f) (hn4 : n < 4) (hv : isN v 64) (f2 : Nat) (hf2 : f2 = if n = f then f + 1 else f) : WF B c f2 (upd (upd S 3 (nI f2)) (7 + n) v) := by
  have V : ∀ i, i ≠ 3 → i ≠ 7 + n → upd (upd S 3 (nI f2)) (7 + n) v i = S i := fun i a b => (pk_un b).trans (pk_un a)
  have hle : f ≤ f2 ∧ f2 ≤ f + 1 ∧ n < f2 ∧ f2 ≤ 4 := by
    have := h.f4
    rw [hf2]
    split <;> omega
  obtain ⟨h1, h2, h3, h4, h5, h6, h7, h8, h9⟩ := h
  refine ⟨h1, hle.2.2.2, ?_, (pk_un (by omega)).trans pk_us, ?_, fun k hk => ?_, fun k hk => ?_, fun m hm => ?_, fun i m hi hm hne => ?_⟩
  · rw [V _ (by omega) (by omega)]; exact h3
  · rw [V _ (by omega) (by omega)]; exact h5
  · by_cases hkn : k = n
    · subst hkn; rw [pk_us]; exact hv
    · rw [V _ (by omega) (by omega)]
      refine h6 k ?_
      rw [hf2] at hk
      split at hk <;> omega
  · rw [V _ (by omega) (by omega)]; exact h7 k hk
  · obtain ⟨a1, a2, a3, a4, ⟨t, ht, et⟩, a6, a7, a8⟩ := (h8 m hm).same (T := upd (upd S 3 (nI f2)) (7 + n) v) (by omega) (fun k hk => V _ (by omega) (by omega))
    exact ⟨a1, a2, a3, a4, ⟨t, by omega, et⟩, a6, a7, a8⟩
  · rw [V _ (by omega) (by omega), V _ (by omega) (by omega)]; exact h9 i m hi hm hne
theorem flag_rs {c f r n f2 : Nat} {σ : mm_M} {S : Nat → Int32} {v : Int32} (h : RS c f σ r S) (hc : c ≤ 4) (hf : f ≤ 4) (hn : n ≤ f) (hn4 : n < 4) (hf2 : f2 = if n = f then f + 1 else f) : RS c f2 (mm_u (mm_u σ r 4 0 n v) r 1 0 3 (nI f2)) r (upd (upd S 3 (nI f2)) (7 + n) v) := by
  have V : ∀ i, i ≠ 3 → i ≠ 7 + n → upd (upd S 3 (nI f2)) (7 + n) v i = S i := fun i a b => (pk_un b).trans (pk_un a)
  have U : ∀ t1 n1 i1, ¬ (t1 = 4 ∧ n1 = 0 ∧ i1 = n) → ¬ (t1 = 1 ∧ n1 = 0 ∧ i1 = 3) → mm_u (mm_u σ r 4 0 n v) r 1 0 3 (nI f2) r t1 n1 i1 = σ r t1 n1 i1 := fun t1 n1 i1 a b => by rw [mm_u_ap, if_neg (by omega), mm_u_ap, if_neg (by omega)]
  obtain ⟨h1, h2, h3, h4, h5, h6, h7, h8, h9, h10, h11, h12⟩ := h
  refine ⟨?_, ?_, ?_, ?_, ?_, ?_, ?_, fun k hk => ?_, fun k hk => ?_, fun k hk => ?_, fun m hm => ⟨fun k2 hk2 => ?_, fun j hj => ⟨?_, fun h0 => ?_⟩⟩, fun m hm hm4 => ⟨fun k a b => ?_, fun j hj => ?_⟩⟩
  · rw [U _ _ _ (by omega) (by omega), V _ (by omega) (by omega)]; exact h1
  · rw [U _ _ _ (by omega) (by omega), V _ (by omega) (by omega)]; exact h2
  · rw [U _ _ _ (by omega) (by omega), V _ (by omega) (by omega)]; exact h3
  · rw [U _ _ _ (by omega) (by omega), V _ (by omega) (by omega)]; exact h4
  · rw [U _ _ _ (by omega) (by omega), V _ (by omega) (by omega)]; exact h5
  · rw [U _ _ _ (by omega) (by omega), V _ (by omega) (by omega)]; exact h6
  · rw [mm_u_ap, if_pos ⟨rfl, rfl, rfl, rfl⟩, pk_un (show 3 ≠ 7 + n by omega), pk_us]
  · rw [U _ _ _ (by omega) (by omega), V _ (by omega) (by omega)]; exact h8 k hk
  · rw [U _ _ _ (by omega) (by omega), V _ (by omega) (by omega)]; exact h9 k hk
  · by_cases hkn : k = n
    · subst hkn
      rw [mm_u_ap, if_neg (by omega), mm_u_ap, if_pos ⟨rfl, rfl, rfl, rfl⟩, pk_us]
    · rw [U _ _ _ (by omega) (by omega), V _ (by omega) (by omega)]
      refine h10 k ?_
      rw [hf2] at hk
      split at hk <;> omega
  · rw [U _ _ _ (by omega) (by omega), V _ (by omega) (by omega)]; exact (h11 m hm).1 k2 hk2
  · rw [U _ _ _ (by omega) (by omega), V _ (by omega) (by omega)]; exact ((h11 m hm).2 j hj).1
  · rw [V _ (by omega) (by omega)] at h0
    rw [U _ _ _ (by omega) (by omega), V _ (by omega) (by omega)]; exact ((h11 m hm).2 j hj).2 h0
  · rw [U _ _ _ (by omega) (by omega)]; exact (h12 m hm hm4).1 k a b
  · rw [U _ _ _ (by omega) (by omega)]; exact (h12 m hm hm4).2 j hj
theorem flag_x {B : Nat} {a b : Int32} {σ1 : mm_M} {S : Nat → Int32} (hG : GS B σ1 1 S) : ∃ v σb, fx_X8_layFlag 1 a b σ1 = some (v, σb) ∧ v = vFlag S a b ∧ ((∃ t S1, t < 1000000 ∧ v = nI t ∧ GS B σb 1 S1 ∧ True) ∨ er v) := by
  obtain ⟨c, f, ph, hW, hR, hp, hph, hX⟩ := hG
  have hc4 := hW.c4
  have hf4 := hW.f4
  rw [fx_X8_layFlag, cc_isWithin, mm_bd_some]
  by_cases ha : (0 : Int32) ≤ a ∧ a ≤ 3
  · rw [if_pos ha, if_neg (show ¬ (1 : Int32) = 0 by decide), cc_isCell, mm_bd_some]
    by_cases hbb : (0 : Int32) ≤ b ∧ b ≤ 63
    · rw [if_pos hbb, if_neg (show ¬ (1 : Int32) = 0 by decide)]
      have hval : vFlag S a b = if nI f < a then -1000002 else if a = nI f then nI f + 1 else nI f := by
        unfold vFlag
        rw [if_pos ⟨ha, hbb⟩, hW.s3]
      rw [hval]
      obtain ⟨n, hn, rfl⟩ := in_nat (N := 3) (by omega) ha
      obtain ⟨q, hq, rfl⟩ := in_nat (N := 63) (by omega) hbb
      have e3 : σ1 1 1 0 3 = nI f := hR.fc.trans hW.s3
      rw [e3]
      by_cases hnf : n ≤ f
      · have hle : nI n ≤ nI f := le_lit rfl hnf (by omega)
        have w3 : mm_u σ1 1 4 0 n (nI q) 1 1 0 3 = nI f := by rw [mm_u_ap, if_neg (by omega)]; exact e3
        have J : ∀ f2, f2 = (if n = f then f + 1 else f) → f2 < 6 ∧ (mm_bd (fx_J9_max_7cf53 (nI f) (nI (n + 1)) (mm_u σ1 1 4 0 n (nI q))) fun r_8 s_8 => (mm_lt (mm_u s_8 1 1 0 3 r_8) fun s_9 => (some (s_9 1 1 0 3, s_9)))) = some (nI f2, mm_u (mm_u σ1 1 4 0 n (nI q)) 1 1 0 3 (nI f2)) := by
          intro f2 hf2
          refine ⟨?_, ?_⟩
          · rw [hf2]; split <;> omega
          · rw [fx_J9_max_7cf53]
            by_cases hf : n = f
            · rw [if_pos hf] at hf2
              rw [if_pos ((nI_lt2 (by omega) (by omega)).mpr (by omega)), mm_bd_some, mm_lt_e, mm_u_ap, if_pos ⟨rfl, rfl, rfl, rfl⟩, hf, hf2]
            · rw [if_neg hf] at hf2
              rw [if_neg (fun z => absurd ((nI_lt2 (by omega) (by omega)).mp z) (by omega)), mm_bd_some, mm_lt_e, mm_u_ap, if_pos ⟨rfl, rfl, rfl, rfl⟩, hf2]
        obtain ⟨j1, j2⟩ := J _ rfl
        rw [if_pos hle, mm_gd_t (mm_ix_n (by omega) (by omega)), mm_lt_e, nI_cl (by omega), w3, nI_1, j2, if_neg (Int32.not_lt.mpr hle)]
        refine ⟨_, _, rfl, ?_, Or.inl ⟨_, _, by omega, rfl, ⟨c, _, ph, flag_wf hW hnf (by omega) ⟨q, by omega, rfl⟩ _ rfl, flag_rs hR hc4 hf4 hnf (by omega) rfl, (pk_un (by omega)).trans ((pk_un (by omega)).trans hp), hph, hX.cg (fun i hi => (pk_un (by omega)).trans (pk_un (by omega))) (fun m hm => (pk_un (by omega)).trans (pk_un (by omega))) (fun m hm => (pk_un (by omega)).trans (pk_un (by omega)))⟩, trivial⟩⟩
        by_cases hf : n = f
        · rw [if_pos hf, if_pos (show nI n = nI f by rw [hf]), nI_1]
        · rw [if_neg hf, if_neg (fun z => hf ((nI_e (by omega) (by omega)).mp z))]
      · rw [if_neg (nle_lit rfl (by omega) (by omega) : ¬ nI n ≤ nI f), if_pos ((nI_lt2 (by omega) (by omega)).mpr (by omega))]
        exact ⟨_, σ1, rfl, rfl, Or.inr (Or.inr (Or.inl rfl))⟩
    · rw [if_neg hbb, if_pos rfl]
      exact ⟨_, σ1, rfl, (by unfold vFlag; rw [if_neg (fun z => hbb z.2)]), Or.inr (Or.inl rfl)⟩
  · rw [if_neg ha, if_pos rfl]
    exact ⟨_, σ1, rfl, (by unfold vFlag; rw [if_neg (fun z => ha z.1)]), Or.inr (Or.inl rfl)⟩
theorem clamp_eq (y : Int32) : ∃ k, k < 10 ∧ (if (0 : Int32) < (if y < 9 then y else 9) then (if y < 9 then y else 9) else 0) = nI k ∧ ((0 ≤ y ∧ y ≤ 9 ∧ y = nI k) ∨ (0 ≤ y ∧ ¬ y ≤ 9 ∧ k = 9) ∨ (¬ 0 ≤ y ∧ k = 0)) := by
  by_cases h0 : (0 : Int32) ≤ y
  · by_cases h9 : y ≤ 9
    · obtain ⟨k, hk, e⟩ := in_nat (N := 9) (by omega) ⟨h0, h9⟩
      refine ⟨k, by omega, ?_, Or.inl ⟨h0, h9, e⟩⟩
      rw [e]
      rcases (show k = 0 ∨ k = 1 ∨ k = 2 ∨ k = 3 ∨ k = 4 ∨ k = 5 ∨ k = 6 ∨ k = 7 ∨ k = 8 ∨ k = 9 by omega) with rfl | rfl | rfl | rfl | rfl | rfl | rfl | rfl | rfl | rfl <;> decide
    · refine ⟨9, by omega, ?_, Or.inr (Or.inl ⟨h0, h9, rfl⟩)⟩
      have : ¬ y < 9 := fun z => h9 (Int32.le_of_lt z)
      rw [if_neg this, if_pos (by decide)]
      rfl
  · refine ⟨0, by omega, ?_, Or.inr (Or.inr ⟨h0, rfl⟩)⟩
    have hy : y < 0 := i32_nle h0
    have hy9 : y < 9 := by
      rw [Int32.lt_iff_toInt_lt] at hy ⊢
      have h1 : (0 : Int32).toInt = 0 := by decide
      have h2 : (9 : Int32).toInt = 9 := by decide
      omega
    rw [if_pos hy9, if_neg (fun z => h0 (Int32.le_of_lt z))]
    rfl
def badHarm (S : Nat → Int32) (a b : Int32) : Prop := ¬ ((0 ≤ a ∧ a < S 0) ∧ -9 ≤ b ∧ b ≤ 9)
def vHarm (S : Nat → Int32) (a b v : Int32) : Prop := (badHarm S a b ∧ v = -1000001) ∨ (¬ badHarm S a b ∧ ((S (139 + 17 * a.toNatClampNeg + 1) = -1 ∧ v = -1000002) ∨ (S (139 + 17 * a.toNatClampNeg + 1) ≠ -1 ∧ isN v 10)))
theorem harm_x {B : Nat} {a b : Int32} {σ1 : mm_M} {S : Nat → Int32} (hG : GS B σ1 1 S) : ∃ v σb, fx_X8_harm 1 a b σ1 = some (v, σb) ∧ vHarm S a b v ∧ ((∃ t S1, t < 1000000 ∧ v = nI t ∧ GS B σb 1 S1 ∧ S1 = upd S (139 + 17 * a.toNatClampNeg + 3) v) ∨ er v) := by
  obtain ⟨c, f, ph, hW, hR, hp, hph, hX⟩ := hG
  have hc4 := hW.c4
  have hf4 := hW.f4
  rw [fx_X8_harm, cc_hasCart 1 a σ1 (hR.s0.trans hW.s0), mm_bd_some]
  by_cases ha : (0 : Int32) ≤ a ∧ a < nI c
  · rw [if_pos ha, if_neg (show ¬ (1 : Int32) = 0 by decide), cc_isWithin, mm_bd_some]
    by_cases hbb : (-9 : Int32) ≤ b ∧ b ≤ 9
    · rw [if_pos hbb, if_neg (show ¬ (1 : Int32) = 0 by decide)]
      have nb : ¬ badHarm S a b := fun z => z ⟨⟨ha.1, by rw [hW.s0]; exact ha.2⟩, hbb⟩
      obtain ⟨n, hn, rfl⟩ := i32_isN (N := c) (Int32.not_lt.mpr ha.1) ha.2 (by omega)
      have hnc : (nI n).toNatClampNeg = n := nI_cl (by omega)
      have ec : σ1 1 6 n 3 = S (139 + 17 * n + 1) := hR.ct hn (k := 1) (by omega)
      have e5 : σ1 1 6 n 5 = S (139 + 17 * n + 3) := hR.ct hn (k := 3) (by omega)
      rw [mm_gd_t (mm_ix_n (by omega) (by omega)), hnc, cc_isOut, mm_bd_some, ec]
      by_cases ho : S (139 + 17 * n + 1) = -1
      · rw [if_pos ho, if_neg (show ¬ (1 : Int32) = 0 by decide)]
        exact ⟨_, σ1, rfl, Or.inr ⟨nb, Or.inl ⟨by rw [hnc]; exact ho, rfl⟩⟩, Or.inr (Or.inr (Or.inl rfl))⟩
      · rw [if_neg ho, if_pos rfl, cc_addDamage, mm_bd_some, e5]
        obtain ⟨w, hw, ew, hcase⟩ := clamp_eq (S (139 + 17 * n + 3) + b)
        have e9 : mm_u σ1 1 6 n 5 (nI w) 1 6 n 5 = nI w := by rw [mm_u_ap, if_pos ⟨rfl, rfl, rfl, rfl⟩]
        rw [ew, e9]
        exact ⟨_, _, rfl, Or.inr ⟨nb, Or.inr ⟨by rw [hnc]; exact ho, w, hw, rfl⟩⟩, Or.inl ⟨w, _, by omega, rfl, ⟨c, f, ph, hW.cart hn (k := 3) (by omega) (by omega) (fun z => absurd z (by omega)) (fun z => absurd z (by omega)) (fun _ => ⟨w, hw, rfl⟩) (fun z => absurd z (by omega)) (fun z => absurd z (by omega)), hR.cart hc4 hf4 hn (k := 3) (by omega) _, (pk_un (by omega)).trans hp, hph, hX.cg (fun i hi => pk_un (by omega)) (fun m hm => pk_un (by omega)) (fun m hm => pk_un (by omega))⟩, rfl⟩⟩
    · rw [if_neg hbb, if_pos rfl]
      exact ⟨_, σ1, rfl, Or.inl ⟨fun z => hbb z.2, rfl⟩, Or.inr (Or.inl rfl)⟩
  · rw [if_neg ha, if_pos rfl]
    exact ⟨_, σ1, rfl, Or.inl ⟨fun z => ha ⟨z.1.1, by have w := z.1.2; rw [hW.s0] at w; exact w⟩, rfl⟩, Or.inr (Or.inl rfl)⟩
theorem round_x {c f : Nat} (h0 : 0 < c) : ∀ (e ph A B fu : Nat) (S : Nat → Int32) (σ : mm_M), ph + e = 4 → e + 1 < fu → B + e < 32000 → WF B c f S → RS c f σ 1 S → S 1 = nI ph → XS B c ph S → ∃ A2 σ1 S1, A2 ≤ A + (e + 1) * 130000 ∧ fx_X7_runToRoundEnd_L17 1 fu (nI A) (nI ph) σ = some (nI A2, σ1) ∧ WF (B + e + 1) c f S1 ∧ RS c f σ1 1 S1 ∧ S1 1 = nI 0 ∧ XS (B + e + 1) c 0 S1 ∧ S1 5 = S 5 + nI (e + 1) := by
  intro e
  induction e with
  | zero =>
    intro ph A B fu S σ hk hf hB hW hR hp hX
    obtain ⟨g, rfl⟩ : ∃ g, fu = g + 1 := ⟨fu - 1, by omega⟩
    obtain ⟨g1, rfl⟩ : ∃ g1, g = g1 + 1 := ⟨g - 1, by omega⟩
    obtain ⟨t, S1, σ1, μ1, ht, e1, e2, hW1, hR1, hp1, hX1, e5, _⟩ := phase_x (μ := σ) hW (show 1 < 6 by omega) hp (by omega) hR h0 (by omega) hX
    rw [if_neg (by omega)] at hp1 hX1
    refine ⟨A + t, σ1, S1, by omega, ?_, hW1, hR1, hp1, hX1, e5⟩
    rw [fx_X7_runToRoundEnd_L17, if_neg (show ¬ (5 : Int32) ≤ nI ph from nle_lit (x := 5) (b := 5) rfl (by omega) (by omega)), e1, mm_bd_some, mm_li_e, mm_li_e, nI_1, nI_add, fx_X7_runToRoundEnd_L17, if_pos (show (5 : Int32) ≤ nI (ph + 1) from le_lit (x := 5) (b := 5) rfl (by omega) (by omega))]
  | succ e ih =>
    intro ph A B fu S σ hk hf hB hW hR hp hX
    obtain ⟨g, rfl⟩ : ∃ g, fu = g + 1 := ⟨fu - 1, by omega⟩
    obtain ⟨t, S1, σ1, μ1, ht, e1, e2, hW1, hR1, hp1, hX1, e5, _⟩ := phase_x (μ := σ) hW (show 1 < 6 by omega) hp (by omega) hR h0 (by omega) hX
    rw [if_pos (by omega)] at hp1 hX1
    obtain ⟨A2, σ2, S2, hA, b1, b4, b5, b6, b7, b8⟩ := ih (ph + 1) (A + t) (B + 1) g S1 σ1 (by omega) (by omega) (by omega) hW1 hR1 hp1 hX1
    have eB : B + 1 + e + 1 = B + (e + 1) + 1 := by omega
    rw [eB] at b4 b7
    refine ⟨A2, σ2, S2, by omega, ?_, b4, b5, b6, b7, ?_⟩
    · rw [fx_X7_runToRoundEnd_L17, if_neg (show ¬ (5 : Int32) ≤ nI ph from nle_lit (x := 5) (b := 5) rfl (by omega) (by omega)), e1, mm_bd_some, mm_li_e, mm_li_e, nI_1, nI_add]
      exact b1
    · rw [b8, e5, Int32.add_assoc]
      congr 1
      show nI 1 + nI (e + 1) = _
      rw [nI_add]
      congr 1
      omega
theorem rounds_x {B : Nat} {σ1 : mm_M} {S : Nat → Int32} (hB : B < 31000) (hG : GS B σ1 1 S) : ∃ v σb, fx_X7_runToRoundEnd 1 σ1 = some (v, σb) ∧ vRun S v ∧ ((∃ t S1, t < 1000000 ∧ v = nI t ∧ GS (B + 5) σb 1 S1 ∧ S1 5 = S 5 + (5 - S 1)) ∨ er v) := by
  obtain ⟨c, f, ph, hW, hR, hp, hph, hX⟩ := hG
  have hc4 := hW.c4
  have hc0 : σ1 1 0 0 2 = nI c := hR.s0.trans hW.s0
  have ep : σ1 1 0 0 3 = nI ph := hR.ph.trans hp
  rw [fx_X7_runToRoundEnd, hc0]
  by_cases h0 : c = 0
  · subst h0
    rw [if_pos (show nI 0 = (0 : Int32) from rfl)]
    exact ⟨_, σ1, rfl, (by unfold vRun; rw [if_pos (show S 0 = 0 from hW.s0)]), Or.inr (Or.inr (Or.inl rfl))⟩
  · have hne : ¬ nI c = (0 : Int32) := ne_lit (b := 0) rfl h0 (by omega) (by omega)
    obtain ⟨A2, σ2, S2, hA, b1, b4, b5, b6, b7, b8⟩ := round_x (by omega) (4 - ph) ph 0 B mm_FU S σ1 (by omega) (by unfold mm_FU; omega) (by omega) hW hR hp hX
    have hmul : (4 - ph + 1) * 130000 ≤ 5 * 130000 := Nat.mul_le_mul_right _ (by omega)
    rw [if_neg hne, mm_li_e, ep, show fx_X7_runToRoundEnd_L17 1 mm_FU 0 (nI ph) σ1 = _ from b1]
    refine ⟨_, _, rfl, ?_, Or.inl ⟨A2, S2, by omega, rfl, ⟨c, f, 0, b4.mono (by omega), b5, b6, by omega, b7.mono (by omega)⟩, ?_⟩⟩
    · unfold vRun
      rw [hW.s0, if_neg hne]
      exact nI_pos' (by omega)
    · rw [b8, hp]
      congr 1
      show _ = nI 5 - nI ph
      rw [pk_sub (by omega)]
      congr 1
      omega
section AA
variable {k N L : Nat} {σ : mm_M} {R : Nat → Nat → Int32} {S : Nat → Int32} {ch : Nat → Nat}
theorem A_flag (hK : KS k σ N R S L ch) (a b : Int32) : AC k N R S L ch (fun v => v = vFlag S a b) (fun _ _ => True) (fx_X10_flag a b σ) :=
  act_c (op := fx_X8_layFlag 1 a b) (B2 := JB k) hK (Nat.le_refl _) (by rw [JB_up]; omega) (fun σ1 hG _ => flag_x hG) (fun σ v σ1 e q t n i hh => fr_X8_layFlag 1 a b σ v σ1 e q t n i (by unfold fw_X8_layFlag; omega))
theorem A_damage (hK : KS k σ N R S L ch) (a b : Int32) : AC k N R S L ch (vHarm S a b) (fun t S1 => S1 = upd S (139 + 17 * a.toNatClampNeg + 3) (nI t)) (fx_X10_damage a b σ) :=
  act_c (op := fx_X8_harm 1 a b) (B2 := JB k) hK (Nat.le_refl _) (by rw [JB_up]; omega) (fun σ1 hG _ => by
    obtain ⟨v, σb, e, hv, hh⟩ := harm_x (a := a) (b := b) hG
    refine ⟨v, σb, e, hv, ?_⟩
    rcases hh with ⟨t, S1, ht, ev, g, p⟩ | he
    · exact Or.inl ⟨t, S1, ht, ev, g, by rw [← ev]; exact p⟩
    · exact Or.inr he) (fun σ v σ1 e q t n i hh => fr_X8_harm 1 a b σ v σ1 e q t n i (by unfold fw_X8_harm; omega))
theorem A_round (hk : k < 512) (hK : KS k σ N R S L ch) : AC k N R S L ch (vRun S) (fun _ S1 => S1 5 = S 5 + (5 - S 1)) (fx_X10_round σ) :=
  act_c (op := fx_X7_runToRoundEnd 1) (B2 := JB k + 5) hK (by omega) (by rw [JB_up]; omega) (fun σ1 hG _ => rounds_x (by unfold JB; omega) hG) (fun σ v σ1 e q t n i hh => fr_X7_runToRoundEnd 1 σ v σ1 e q t n i (by unfold fw_X7_runToRoundEnd; omega))
end AA
