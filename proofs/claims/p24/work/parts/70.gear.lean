/-! gears, flags, the outs, and a round's end -/
theorem upd_self (S : Nat → Int32) (i : Nat) {v : Int32} (h : v = S i) : upd S i v = S := by
  funext k
  unfold upd
  by_cases hk : k = i
  · rw [if_pos hk, hk, h]
  · rw [if_neg hk]
theorem gear_L {B c f r : Nat} (hr : r < 6) : ∀ (e k fu fu2 : Nat) (S : Nat → Int32) (σ μ : mm_M), k + e = c → e < fu → e < fu2 → WF B c f S → RS c f σ r S → ∃ S1 σ1, fx_X8_turnOnGears_L2 r fu (nI k) σ = some (0, σ1) ∧ fx_X11_gears_L2 fu2 (nI k) (mw μ S) = some (0, mw μ S1) ∧ WF B c f S1 ∧ RS c f σ1 r S1 ∧ S1 1 = S 1 := by
  intro e
  induction e with
  | zero =>
    intro k fu fu2 S σ μ hk hf hf2 hW hR
    obtain ⟨g, rfl⟩ : ∃ g, fu = g + 1 := ⟨fu - 1, by omega⟩
    obtain ⟨g2, rfl⟩ : ∃ g, fu2 = g + 1 := ⟨fu2 - 1, by omega⟩
    have : k = c := by omega
    subst this
    have hc4 := hW.c4
    have hc0 : σ r 0 0 2 = nI k := hR.s0.trans hW.s0
    have hc1 : mw μ S 10 31 0 (0 : Int32).toNatClampNeg = nI k := by rw [mw_row]; exact hW.s0
    rw [fx_X8_turnOnGears_L2, hc0, if_pos (le_lit rfl (Nat.le_refl _) (by omega)), fx_X11_gears_L2, hc1, if_pos (le_lit rfl (Nat.le_refl _) (by omega))]
    exact ⟨S, σ, rfl, rfl, hW, hR, rfl⟩
  | succ e ih =>
    intro k fu fu2 S σ μ hk hf hf2 hW hR
    obtain ⟨g, rfl⟩ : ∃ g, fu = g + 1 := ⟨fu - 1, by omega⟩
    obtain ⟨g2, rfl⟩ : ∃ g, fu2 = g + 1 := ⟨fu2 - 1, by omega⟩
    have hc4 := hW.c4
    have hkc : k < c := by omega
    have hc0 : σ r 0 0 2 = nI c := hR.s0.trans hW.s0
    have hc1 : mw μ S 10 31 0 (0 : Int32).toNatClampNeg = nI c := by rw [mw_row]; exact hW.s0
    have ec : σ r 6 k 3 = S (139 + 17 * k + 1) := hR.ct hkc (k := 1) (by omega)
    have e2 : σ r 6 k 4 = S (139 + 17 * k + 2) := hR.ct hkc (k := 2) (by omega)
    have e11 : ∀ q, (11 : Int32) + nI q = nI (11 + q) := fun q => by show nI 11 + nI q = _; rw [nI_add]
    obtain ⟨d, hd, ed⟩ : isN (S (139 + 17 * k + 2)) 4 := (hW.ct hkc).2.2.1
    have J : ∀ b : Nat, b < 4 → fx_X11_gears_J61 (fun z0 z => fx_X11_gears_L2 g2 z0 z) (nI k) (nI k) (nI b) (mw μ S) = fx_X11_gears_L2 g2 (nI (k + 1)) (mw μ (upd S (139 + 17 * k + 2) (nI ((d + b) % 4)))) := by
      intro b hb
      rw [fx_X11_gears_J61, fx_X11_turns, mo_of (w := 2) (k := 2) μ S rfl rfl (by omega), mm_bd_some, ed, turn_m hd hb, mo_lays (w := 2) (k := 2) μ S rfl rfl (by omega), mm_bd_some, mm_bd_some, mm_li_e, nI_1]
    have W : ∀ b : Nat, WF B c f (upd S (139 + 17 * k + 2) (nI ((d + b) % 4))) := fun b => hW.cart hkc (k := 2) (by omega) (by omega) (fun z => absurd z (by omega)) (fun _ => ⟨_, Nat.mod_lt _ (by omega), rfl⟩) (fun z => absurd z (by omega)) (fun z => absurd z (by omega)) (fun z => absurd z (by omega))
    have D : ∀ b : Nat, ∃ S1 σ1, fx_X8_turnOnGears_L2 r g (nI (k + 1)) (mm_u σ r 6 k 4 (nI ((d + b) % 4))) = some (0, σ1) ∧ fx_X11_gears_L2 g2 (nI (k + 1)) (mw μ (upd S (139 + 17 * k + 2) (nI ((d + b) % 4)))) = some (0, mw μ S1) ∧ WF B c f S1 ∧ RS c f σ1 r S1 ∧ S1 1 = S 1 := by
      intro b
      obtain ⟨S1, σ1, a1, a2, a3, a4, a5⟩ := ih (k + 1) g g2 (upd S (139 + 17 * k + 2) (nI ((d + b) % 4))) (mm_u σ r 6 k 4 (nI ((d + b) % 4))) μ (by omega) (by omega) (by omega) (W b) (hR.cart hc4 hW.f4 hkc (k := 2) (by omega) _)
      exact ⟨S1, σ1, a1, a2, a3, a4, a5.trans (pk_un (by omega))⟩
    have D0 : ∃ S1 σ1, fx_X8_turnOnGears_L2 r g (nI (k + 1)) σ = some (0, σ1) ∧ fx_X11_gears_J61 (fun z0 z => fx_X11_gears_L2 g2 z0 z) (nI k) (nI k) (nI 0) (mw μ S) = some (0, mw μ S1) ∧ WF B c f S1 ∧ RS c f σ1 r S1 ∧ S1 1 = S 1 := by
      obtain ⟨S1, σ1, a⟩ := ih (k + 1) g g2 S σ μ (by omega) (by omega) (by omega) hW hR
      refine ⟨S1, σ1, ?_⟩
      rw [J 0 (by omega), upd_self S _ (by rw [ed]; congr 1; omega)]
      exact a
    rw [fx_X8_turnOnGears_L2, hc0, if_neg (nle_lit rfl (by omega) (by omega) : ¬ nI c ≤ nI k), mm_gd_t (mm_ix_n (by omega) (by omega)), nI_cl (by omega), ec, fx_X11_gears_L2, hc1, if_neg (nle_lit rfl (by omega) (by omega) : ¬ nI c ≤ nI k), mo_isOut μ S rfl (by omega), mm_bd_some]
    rcases (hW.ct hkc).cell with e | ⟨q, hq, e⟩
    · rw [e, cc_kindOut, mm_bd_some, if_neg (show ¬ (-1 : Int32) = 5 by decide), if_neg (show ¬ (-1 : Int32) = 6 by decide), mm_li_e, nI_1, if_pos m1_lt0, if_neg (show ¬ (1 : Int32) = 0 by decide), fx_X11_gears_J38, if_neg (show ¬ (0 : Int32) = 5 by decide), if_neg (show ¬ (0 : Int32) = 6 by decide)]
      exact D0
    · rw [cc_kindOn r σ e hq, mm_bd_some, hR.kd hq, e, if_neg (nI_pos (by omega)), if_pos rfl, mo_of (w := 1) (k := 1) μ S rfl rfl (by omega), mm_bd_some, e, e11, mm_gd_t (mm_ix_n (by omega) (by omega)), nI_cl (by omega), mw_row, fx_X11_gears_J38]
      by_cases h5 : S (11 + q) = 5
      · rw [if_pos h5, if_pos h5, fx_X10_turned, mm_bd_some, mm_lt_e, mm_li_e, nI_1, e2, ed, show (nI d + 3) &&& 3 = nI ((d + 3) % 4) from turn_c hd (b := 3) (by omega), show fx_X11_gears_J61 (fun z0 z => fx_X11_gears_L2 g2 z0 z) (nI k) (nI k) 3 (mw μ S) = _ from J 3 (by omega)]
        exact D 3
      · rw [if_neg h5, if_neg h5]
        by_cases h6 : S (11 + q) = 6
        · rw [if_pos h6, if_pos h6, fx_X10_turned, mm_bd_some, mm_lt_e, mm_li_e, nI_1, e2, ed, show (nI d + 1) &&& 3 = nI ((d + 1) % 4) from turn_c hd (b := 1) (by omega), show fx_X11_gears_J61 (fun z0 z => fx_X11_gears_L2 g2 z0 z) (nI k) (nI k) 1 (mw μ S) = _ from J 1 (by omega)]
          exact D 1
        · rw [if_neg h6, if_neg h6, mm_li_e, nI_1]
          exact D0
theorem touch_L {B c f r : Nat} (hr : r < 6) : ∀ (e k fu fu2 : Nat) (S : Nat → Int32) (σ μ : mm_M), k + e = c → e < fu → e < fu2 → WF B c f S → RS c f σ r S → ∃ S1 σ1, fx_X8_touchFlags_L2 r fu (nI k) σ = some (0, σ1) ∧ fx_X11_touches_L2 fu2 (nI k) (mw μ S) = some (0, mw μ S1) ∧ WF B c f S1 ∧ RS c f σ1 r S1 ∧ S1 1 = S 1 := by
  intro e
  induction e with
  | zero =>
    intro k fu fu2 S σ μ hk hf hf2 hW hR
    obtain ⟨g, rfl⟩ : ∃ g, fu = g + 1 := ⟨fu - 1, by omega⟩
    obtain ⟨g2, rfl⟩ : ∃ g, fu2 = g + 1 := ⟨fu2 - 1, by omega⟩
    have : k = c := by omega
    subst this
    have hc4 := hW.c4
    have hc0 : σ r 0 0 2 = nI k := hR.s0.trans hW.s0
    have hc1 : mw μ S 10 31 0 (0 : Int32).toNatClampNeg = nI k := by rw [mw_row]; exact hW.s0
    rw [fx_X8_touchFlags_L2, hc0, if_pos (le_lit rfl (Nat.le_refl _) (by omega)), fx_X11_touches_L2, hc1, if_pos (le_lit rfl (Nat.le_refl _) (by omega))]
    exact ⟨S, σ, rfl, rfl, hW, hR, rfl⟩
  | succ e ih =>
    intro k fu fu2 S σ μ hk hf hf2 hW hR
    obtain ⟨g, rfl⟩ : ∃ g, fu = g + 1 := ⟨fu - 1, by omega⟩
    obtain ⟨g2, rfl⟩ : ∃ g, fu2 = g + 1 := ⟨fu2 - 1, by omega⟩
    have hc4 := hW.c4
    have hf4 := hW.f4
    have hkc : k < c := by omega
    have hc0 : σ r 0 0 2 = nI c := hR.s0.trans hW.s0
    have hc1 : ∀ T : Nat → Int32, T 0 = nI c → mw μ T 10 31 0 (0 : Int32).toNatClampNeg = nI c := fun T h => by rw [mw_row]; exact h
    have ec : σ r 6 k 3 = S (139 + 17 * k + 1) := hR.ct hkc (k := 1) (by omega)
    obtain ⟨t, ht, et⟩ : isN (S (139 + 17 * k + 4)) (f + 1) := (hW.ct hkc).2.2.2.2.1
    have e4 : σ r 6 k 6 = nI t := (hR.ct hkc (k := 4) (by omega)).trans et
    have ef : σ r 1 0 3 = nI f := hR.fc.trans hW.s3
    have ef1 : ∀ T : Nat → Int32, T 3 = nI f → mw μ T 10 31 0 (3 : Int32).toNatClampNeg = nI f := fun T h => by rw [mw_row]; exact h
    have e7 : (7 : Int32) + nI t = nI (7 + t) := by show nI 7 + nI t = _; rw [nI_add]
    have G : ∀ x, mm_gd (mm_ix (nI k) 4 = true) x = x := fun x => mm_gd_t (mm_ix_n (by omega) (by omega)) x
    have c1 : (nI k).toNatClampNeg = k := nI_cl (by omega)
    have skip : ∃ S1 σ1, fx_X8_touchFlags_L2 r g (nI (k + 1)) σ = some (0, σ1) ∧ fx_X11_touches_L2 g2 (nI (k + 1)) (mw μ S) = some (0, mw μ S1) ∧ WF B c f S1 ∧ RS c f σ1 r S1 ∧ S1 1 = S 1 := ih (k + 1) g g2 S σ μ (by omega) (by omega) (by omega) hW hR
    have u7 : mm_u σ r 6 k 6 (nI (t + 1)) r 0 0 7 = S 4 := by
      rw [mm_u_ap, if_neg (by omega)]
      exact hR.2.2.2.2.2.1
    have u6 : mm_u σ r 6 k 6 (nI (t + 1)) r 6 k 6 = nI (t + 1) := by
      rw [mm_u_ap, if_pos ⟨rfl, rfl, rfl, rfl⟩]
    have uf : mm_u σ r 6 k 6 (nI (t + 1)) r 1 0 3 = nI f := by
      rw [mm_u_ap, if_neg (by omega)]
      exact ef
    have hcl : fx_X8_touchFlags_L2 r (g + 1) (nI k) σ = if t < f ∧ S (7 + t) = S (139 + 17 * k + 1) then (if S 4 = -1 ∧ t + 1 = f then fx_X8_touchFlags_L2 r g (nI (k + 1)) (mm_u (mm_u σ r 6 k 6 (nI (t + 1))) r 0 0 7 (nI k)) else fx_X8_touchFlags_L2 r g (nI (k + 1)) (mm_u σ r 6 k 6 (nI (t + 1)))) else fx_X8_touchFlags_L2 r g (nI (k + 1)) σ := by
      rw [fx_X8_touchFlags_L2, hc0, if_neg (nle_lit rfl (by omega) (by omega) : ¬ nI c ≤ nI k), G, c1, ef, e4]
      by_cases htf : t < f
      · rw [if_neg (nle_lit rfl htf (by omega) : ¬ nI f ≤ nI t), mm_gd_t (mm_ix_n (by omega) (by omega)), nI_cl (by omega), hR.fl htf, ec]
        by_cases hfl : S (7 + t) = S (139 + 17 * k + 1)
        · rw [if_pos hfl, if_pos ⟨htf, hfl⟩, mm_lt_e, nI_1, u7, u6, uf]
          by_cases h4 : S 4 = -1
          · rw [if_pos h4]
            by_cases h5 : t + 1 = f
            · rw [if_pos (by rw [h5]), if_pos ⟨h4, h5⟩, mm_lt_e, mm_li_e, nI_1]
            · rw [if_neg (fun z => h5 ((nI_e (by omega) (by omega)).mp z)), if_neg (fun z => h5 z.2), mm_li_e, nI_1]
          · rw [if_neg h4, if_neg (fun z => h4 z.1), mm_li_e, nI_1]
        · rw [if_neg hfl, if_neg (fun z => hfl z.2), mm_li_e, nI_1]
      · rw [if_pos (le_lit rfl (by omega) (by omega) : nI f ≤ nI t), if_neg (fun z => htf z.1), mm_li_e, nI_1]
    have hmo : fx_X11_touches_L2 (g2 + 1) (nI k) (mw μ S) = if t < f ∧ S (7 + t) = S (139 + 17 * k + 1) then (if S 4 = -1 ∧ t + 1 = f then fx_X11_touches_L2 g2 (nI (k + 1)) (mw μ (upd (upd S (139 + 17 * k + 4) (nI (t + 1))) 4 (nI k))) else fx_X11_touches_L2 g2 (nI (k + 1)) (mw μ (upd S (139 + 17 * k + 4) (nI (t + 1))))) else fx_X11_touches_L2 g2 (nI (k + 1)) (mw μ S) := by
      rw [fx_X11_touches_L2, hc1 S hW.s0, if_neg (nle_lit rfl (by omega) (by omega) : ¬ nI c ≤ nI k), mo_isOut μ S rfl (by omega), mm_bd_some]
      rcases (hW.ct hkc).cell with e | ⟨q, hq, e⟩
      · rw [e, if_pos m1_lt0, if_neg (show ¬ (1 : Int32) = 0 by decide), if_neg, mm_li_e, nI_1]
        rintro ⟨z1, z2⟩
        obtain ⟨y, hy, ey⟩ := hW.2.2.2.2.2.1 t z1
        exact nI_m1 (by omega) (ey.symm.trans z2)
      · rw [e, if_neg (nI_pos (by omega)), if_pos rfl, fx_X11_nextFlag, mo_of (w := 4) (k := 4) μ S rfl rfl (by omega), mm_bd_some, et, ef1 S hW.s3]
        by_cases htf : t < f
        · rw [if_neg (nle_lit rfl htf (by omega) : ¬ nI f ≤ nI t), mo_of (w := 4) (k := 4) μ S rfl rfl (by omega), mm_bd_some, et, e7, mm_gd_t (mm_ix_n (by omega) (by omega)), mm_bd_some, nI_cl (by omega), mw_row, mo_of (w := 1) (k := 1) μ S rfl rfl (by omega), mm_bd_some, e]
          by_cases hfl : S (7 + t) = nI q
          · have em : ∀ T, T = upd S (139 + 17 * k + 4) (nI (t + 1)) → fx_X11_touches_J73 (fun z0 z => fx_X11_touches_L2 g2 z0 z) (nI k) 4 (mw μ T) = fx_X11_touches_L2 g2 (nI (k + 1)) (mw μ T) := by
              intro T hT
              rw [fx_X11_touches_J73, fx_X11_touches_J79, mm_gd_t (by decide), mm_lt_e, mm_li_e, nI_1]
              show fx_X11_touches_L2 g2 (nI (k + 1)) (mm_u (mw μ T) 10 31 0 4 (mw μ T 10 31 0 4)) = _
              rw [mw_u, mw_row, upd_self T 4 rfl]
            rw [if_pos hfl, if_pos ⟨htf, hfl⟩, mo_more (w := 4) (k := 4) μ S rfl rfl (by omega), mm_bd_some, et, nI_1]
            have e40 : mw μ (upd S (139 + 17 * k + 4) (nI (t + 1))) 10 31 0 (4 : Int32).toNatClampNeg = S 4 := by
              rw [mw_row]
              exact pk_un (by show 4 ≠ _; omega)
            rw [e40]
            rcases hW.2.2.2.2.1 with h4 | ⟨y, hy, h4⟩
            · rw [h4, if_neg (show ¬ (0 : Int32) ≤ -1 by decide), mo_of (w := 4) (k := 4) μ _ rfl rfl (by omega), mm_bd_some, pk_us, ef1 _ ((pk_un (by omega)).trans hW.s3)]
              by_cases h5 : t + 1 = f
              · rw [if_pos (by rw [h5]), if_pos ⟨rfl, h5⟩, fx_X11_touches_J79, mm_gd_t (by decide), mm_lt_e, mm_li_e]
                show fx_X11_touches_L2 g2 (nI k + 1) (mm_u (mw μ _) 10 31 0 4 (nI k)) = _
                rw [mw_u, nI_1]
              · rw [if_neg (fun z => h5 ((nI_e (by omega) (by omega)).mp z)), if_neg (fun z => h5 z.2), em _ rfl]
            · rw [h4, if_pos (nI_pos' (by omega)), if_neg (fun z => nI_m1 (by omega) z.1), em _ rfl]
          · rw [if_neg hfl, if_neg (fun z => hfl z.2), mm_li_e, nI_1]
        · rw [if_pos (le_lit rfl (by omega) (by omega) : nI f ≤ nI t), mm_bd_some, mo_of (w := 1) (k := 1) μ S rfl rfl (by omega), mm_bd_some, e, if_neg (m1_nI (by omega)), if_neg (fun z => htf z.1), mm_li_e, nI_1]
    rw [hcl, hmo]
    by_cases h1 : t < f ∧ S (7 + t) = S (139 + 17 * k + 1)
    · rw [if_pos h1, if_pos h1]
      have hW1 : WF B c f (upd S (139 + 17 * k + 4) (nI (t + 1))) := hW.cart hkc (k := 4) (by omega) (by omega) (fun z => absurd z (by omega)) (fun z => absurd z (by omega)) (fun z => absurd z (by omega)) (fun _ => ⟨t + 1, by omega, rfl⟩) (fun z => absurd z (by omega))
      have hR1 := hR.cart hc4 hf4 hkc (k := 4) (by omega) (nI (t + 1))
      by_cases h2 : S 4 = -1 ∧ t + 1 = f
      · rw [if_pos h2, if_pos h2]
        obtain ⟨S1, σ1, a1, a2, a3, a4, a5⟩ := ih (k + 1) g g2 _ _ μ (by omega) (by omega) (by omega) (hW1.first (v := nI k) (Or.inr ⟨k, by omega, rfl⟩)) (hR1.glob hc4 hf4 (a := 4) (b := 7) (by omega) (nI k))
        exact ⟨S1, σ1, a1, a2, a3, a4, a5.trans ((pk_un (by omega)).trans (pk_un (by omega)))⟩
      · rw [if_neg h2, if_neg h2]
        obtain ⟨S1, σ1, a1, a2, a3, a4, a5⟩ := ih (k + 1) g g2 _ _ μ (by omega) (by omega) (by omega) hW1 hR1
        exact ⟨S1, σ1, a1, a2, a3, a4, a5.trans (pk_un (by omega))⟩
    · rw [if_neg h1, if_neg h1]
      exact skip
/-- the sum of the times out -/
def osum (S : Nat → Int32) : Nat → Nat
  | 0 => 0
  | k + 1 => osum S k + (S (139 + 17 * k + 5)).toNatClampNeg
theorem osum_le {B : Nat} {S : Nat → Int32} (hB : B ≤ 1000000) : ∀ k, (∀ n, n < k → isN (S (139 + 17 * n + 5)) B) → osum S k ≤ k * B
  | 0, _ => Nat.zero_le _
  | k + 1, h => by
    have h1 := osum_le hB k (fun n hn => h n (by omega))
    have h2 := ((h k (by omega)).cl hB).1
    have h3 : (k + 1) * B = k * B + B := Nat.succ_mul k B
    unfold osum
    omega
theorem osum_mo {j c B : Nat} {S S1 : Nat → Int32} (hB : B ≤ 900000) (hj : j ≤ 90000) (hM : MO j c S S1) (h : ∀ n, n < c → isN (S (139 + 17 * n + 5)) B) (h1 : ∀ n, n < c → isN (S1 (139 + 17 * n + 5)) B) : ∀ k, k ≤ c → osum S k ≤ osum S1 k
  | 0, _ => Nat.le_refl _
  | k + 1, hk => by
    have := osum_mo hB hj hM h h1 k (by omega)
    obtain ⟨a, ha, ea⟩ := h k (by omega)
    obtain ⟨b, hb, eb⟩ := h1 k (by omega)
    obtain ⟨b2, hab, hb2, eb2, _⟩ := hM k (by omega) a ea
    have := (nI_e (by omega) (by omega)).mp (eb.symm.trans eb2)
    unfold osum
    rw [ea, eb, nI_cl (by omega), nI_cl (by omega)]
    omega
theorem outs_L {B c f r : Nat} {S : Nat → Int32} {σ μ : mm_M} (hW : WF B c f S) (hR : RS c f σ r S) (hB : B < 900000) : ∀ (e k fu fu2 : Nat), k + e = c → e < fu → e < fu2 → fx_X8_timesOut_L4 r fu (nI (osum S k)) (nI k) σ = some (nI (osum S c), σ) ∧ fx_X11_outs_L4 fu2 (nI (osum S k)) (nI k) (mw μ S) = some (nI (osum S c), mw μ S) := by
  have hc4 := hW.c4
  have hc0 : σ r 0 0 2 = nI c := hR.s0.trans hW.s0
  have hc1 : mw μ S 10 31 0 (0 : Int32).toNatClampNeg = nI c := by rw [mw_row]; exact hW.s0
  intro e
  induction e with
  | zero =>
    intro k fu fu2 hk hf hf2
    obtain ⟨g, rfl⟩ : ∃ g, fu = g + 1 := ⟨fu - 1, by omega⟩
    obtain ⟨g2, rfl⟩ : ∃ g, fu2 = g + 1 := ⟨fu2 - 1, by omega⟩
    have : k = c := by omega
    subst this
    rw [fx_X8_timesOut_L4, hc0, if_pos (le_lit rfl (Nat.le_refl _) (by omega)), fx_X11_outs_L4, hc1, if_pos (le_lit rfl (Nat.le_refl _) (by omega))]
    exact ⟨rfl, rfl⟩
  | succ e ih =>
    intro k fu fu2 hk hf hf2
    obtain ⟨g, rfl⟩ : ∃ g, fu = g + 1 := ⟨fu - 1, by omega⟩
    obtain ⟨g2, rfl⟩ : ∃ g, fu2 = g + 1 := ⟨fu2 - 1, by omega⟩
    have ec : σ r 6 k 7 = S (139 + 17 * k + 5) := hR.ct (by omega) (k := 5) (by omega)
    obtain ⟨a, ha, ea⟩ : isN (S (139 + 17 * k + 5)) (B + 1) := (hW.ct (by omega)).2.2.2.2.2.1
    have es : nI (osum S k) + nI a = nI (osum S (k + 1)) := by
      rw [nI_add]
      show _ = nI (osum S k + (S (139 + 17 * k + 5)).toNatClampNeg)
      rw [ea, nI_cl (by omega)]
    rw [fx_X8_timesOut_L4, hc0, if_neg (nle_lit rfl (by omega) (by omega) : ¬ nI c ≤ nI k), mm_gd_t (mm_ix_n (by omega) (by omega)), nI_cl (by omega), ec, mm_li_e, mm_li_e, nI_1, ea, es, fx_X11_outs_L4, hc1, if_neg (nle_lit rfl (by omega) (by omega) : ¬ nI c ≤ nI k), mo_of (w := 5) (k := 5) μ S rfl rfl (by omega), mm_bd_some, mm_li_e, mm_li_e, nI_1, ea, es]
    exact ih (k + 1) g g2 (by omega) (by omega) (by omega)
theorem outs_both {B c f r : Nat} {S : Nat → Int32} {σ : mm_M} (μ : mm_M) (hW : WF B c f S) (hR : RS c f σ r S) (hB : B < 900000) : fx_X8_timesOut r σ = some (nI (osum S c), σ) ∧ fx_X11_outs (mw μ S) = some (nI (osum S c), mw μ S) := by
  rw [fx_X8_timesOut, fx_X11_outs]
  have := hW.c4
  exact outs_L hW hR hB c 0 mm_FU mm_FU (by omega) (by unfold mm_FU; omega) (by unfold mm_FU; omega)
