/-! driving: a register's move of one cart -/
theorem bump_eq {k : Nat} (hk : k < 10) : (if (0 : Int32) < (if nI k + 1 < 9 then nI k + 1 else 9) then (if nI k + 1 < 9 then nI k + 1 else 9) else 0) = (if (9 : Int32) ≤ nI k then 9 else nI k + 1) ∧ isN (if (9 : Int32) ≤ nI k then 9 else nI k + 1) 10 := by
  rcases (show k = 0 ∨ k = 1 ∨ k = 2 ∨ k = 3 ∨ k = 4 ∨ k = 5 ∨ k = 6 ∨ k = 7 ∨ k = 8 ∨ k = 9 by omega) with rfl | rfl | rfl | rfl | rfl | rfl | rfl | rfl | rfl | rfl
  · exact ⟨by decide, 1, by omega, by decide⟩
  · exact ⟨by decide, 2, by omega, by decide⟩
  · exact ⟨by decide, 3, by omega, by decide⟩
  · exact ⟨by decide, 4, by omega, by decide⟩
  · exact ⟨by decide, 5, by omega, by decide⟩
  · exact ⟨by decide, 6, by omega, by decide⟩
  · exact ⟨by decide, 7, by omega, by decide⟩
  · exact ⟨by decide, 8, by omega, by decide⟩
  · exact ⟨by decide, 9, by omega, by decide⟩
  · exact ⟨by decide, 9, by omega, by decide⟩
theorem cc_addDamage (r n : Nat) (x : Int32) (σ : mm_M) : fx_X3_addDamage r n x σ = some (0, mm_u σ r 6 n 5 (if (0 : Int32) < (if σ r 6 n 5 + x < 9 then σ r 6 n 5 + x else 9) then (if σ r 6 n 5 + x < 9 then σ r 6 n 5 + x else 9) else 0)) := by
  rw [fx_X3_addDamage, fx_J9_min_7cf53]
  by_cases h : σ r 6 n 5 + x < 9
  · rw [if_pos h, if_pos h, mm_bd_some, fx_J9_max_7cf53]
    split
    · rfl
    · rfl
  · rw [if_neg h, if_neg h, mm_bd_some, fx_J9_max_7cf53]
    split
    · rfl
    · rfl
def sp_bump (S : Nat → Int32) (n : Nat) : Nat → Int32 := upd (upd S (139 + 17 * n + 6) (S (139 + 17 * n + 6) + 1)) (139 + 17 * n + 3) (if (9 : Int32) ≤ S (139 + 17 * n + 3) then 9 else S (139 + 17 * n + 3) + 1)
theorem cc_bump {B c f r n : Nat} {σ : mm_M} {S : Nat → Int32} (hW : WF B c f S) (hR : RS c f σ r S) (hn : n < c) : ∃ σ1, fx_X3_bump r n σ = some (0, σ1) ∧ RS c f σ1 r (sp_bump S n) ∧ WF B c f (sp_bump S n) := by
  obtain ⟨k, hk, ek⟩ : isN (S (139 + 17 * n + 3)) 10 := (hW.ct hn).2.2.2.1
  have e3 : σ r 6 n 5 = S (139 + 17 * n + 3) := hR.ct hn (k := 3) (by omega)
  have e6 : σ r 6 n 8 = S (139 + 17 * n + 6) := hR.ct hn (k := 6) (by omega)
  have hb := bump_eq hk
  rw [fx_X3_bump, mm_lt_e, cc_addDamage, mm_bd_some]
  refine ⟨_, rfl, ?_, ?_⟩
  · have e : mm_u σ r 6 n 8 (σ r 6 n 8 + 1) r 6 n 5 = nI k := by
      rw [mm_u_ap, if_neg (by omega)]
      exact e3.trans ek
    rw [e, hb.1, e6]
    unfold sp_bump
    rw [ek]
    exact (hR.cart hW.c4 hW.f4 hn (k := 6) (by omega) _).cart hW.c4 hW.f4 hn (k := 3) (by omega) _
  · unfold sp_bump
    rw [ek]
    refine (hW.cart hn (k := 6) (by omega) (by omega) (fun z => absurd z (by omega)) (fun z => absurd z (by omega)) (fun z => absurd z (by omega)) (fun z => absurd z (by omega)) (fun z => absurd z (by omega))).cart hn (k := 3) (by omega) (by omega) (fun z => absurd z (by omega)) (fun z => absurd z (by omega)) (fun _ => hb.2) (fun z => absurd z (by omega)) (fun z => absurd z (by omega))
theorem drv_both {B c f r n d N : Nat} (hr : r < 6) (hn : n < c) (hd : d < 4) (hN : N < 1000) : ∀ (e i fu fu2 : Nat) (S : Nat → Int32) (σ μ : mm_M), i + e = N → e + 1 < fu → e < fu2 → WF B c f S → RS c f σ r S → ∃ S1 σ1 μ1, fx_X2_follow_L141 r (nI n) fu (nI d) (nI N) 0 (nI i) σ = some (0, σ1) ∧ fx_X11_drives_L3 (nI n) (nI N) (nI d) fu2 (nI i) (mw μ S) = some (0, mw μ1 S1) ∧ WF B c f S1 ∧ RS c f σ1 r S1 ∧ MO (4 * e) c S S1 := by
  intro e
  induction e with
  | zero =>
    intro i fu fu2 S σ μ hk hf hf2 hW hR
    obtain ⟨g, rfl⟩ : ∃ g, fu = g + 1 := ⟨fu - 1, by omega⟩
    obtain ⟨g2, rfl⟩ : ∃ g, fu2 = g + 1 := ⟨fu2 - 1, by omega⟩
    have : i = N := by omega
    subst this
    rw [fx_X2_follow_L141, if_pos (le_lit rfl (Nat.le_refl _) (by omega)), fx_X2_follow_J184, if_pos rfl, fx_X11_drives_L3, if_pos (le_lit rfl (Nat.le_refl _) (by omega))]
    exact ⟨S, σ, μ, rfl, rfl, hW, hR, MO.rf⟩
  | succ e ih =>
    intro i fu fu2 S σ μ hk hf hf2 hW hR
    obtain ⟨g, rfl⟩ : ∃ g, fu = g + 1 := ⟨fu - 1, by omega⟩
    obtain ⟨g2, rfl⟩ : ∃ g, fu2 = g + 1 := ⟨fu2 - 1, by omega⟩
    have hc4 := hW.c4
    have ec : σ r 6 n 3 = S (139 + 17 * n + 1) := hR.ct hn (k := 1) (by omega)
    rw [fx_X2_follow_L141, if_neg (nle_lit rfl (by omega) (by omega) : ¬ nI N ≤ nI i), if_pos rfl, nI_cl (by omega), cc_isOut, mm_bd_some, ec, fx_X11_drives_L3, if_neg (nle_lit rfl (by omega) (by omega) : ¬ nI N ≤ nI i), mo_isOut μ S rfl (by omega), mm_bd_some]
    by_cases ho : S (139 + 17 * n + 1) = -1
    · rw [if_pos ho, if_neg (show ¬ (1 : Int32) = 0 by decide), fx_X2_follow_J184, if_pos rfl, if_pos ((out_iff (hW.ct hn)).mpr ho), if_neg (show ¬ (1 : Int32) = 0 by decide)]
      exact ⟨S, σ, μ, rfl, rfl, hW, hR, MO.rf⟩
    · rw [if_neg ho, if_pos rfl, if_neg (fun z => ho ((out_iff (hW.ct hn)).mp z)), if_pos rfl]
      obtain ⟨v, S1, σ1, μ1, e1, e2, hv, hW1, hR1, hM1⟩ := step_both (μ := μ) hW hR hr hn hd ho
      rw [e1, e2, mm_bd_some, mm_bd_some]
      rcases hv with rfl | rfl
      · rw [if_pos rfl, if_pos rfl, fx_X2_follow_J176, mm_li_e]
        obtain ⟨σ2, e3, hR2, hW2⟩ := cc_bump hW1 hR1 hn
        obtain ⟨g3, rfl⟩ : ∃ g3, g = g3 + 1 := ⟨g - 1, by omega⟩
        have eb : fx_X2_follow_L141 r (nI n) (g3 + 1) (nI d) (nI N) 1 (nI i + 1) σ1 = some (0, σ2) := by
          rw [fx_X2_follow_L141, if_neg (show ¬ (1 : Int32) = 0 by decide), fx_X2_follow_J184, if_neg (show ¬ (1 : Int32) = 0 by decide), nI_cl (by omega), e3, mm_bd_some]
          split <;> rfl
        refine ⟨sp_bump S1 n, σ2, μ1, eb, ?_, hW2, hR2, (hM1.trans (MO.eq (j := 0) (fun m hm => by unfold sp_bump; rw [pk_un (ix_ne (by omega) (by omega) (by omega)), pk_un (ix_ne (by omega) (by omega) (by omega))]) (fun m hm => by unfold sp_bump; rw [pk_un (ix_ne (by omega) (by omega) (by omega)), pk_un (ix_ne (by omega) (by omega) (by omega))]))).le (by omega)⟩
        rw [mo_more (w := 6) (k := 6) μ1 S1 rfl rfl (by omega), mm_bd_some, mo_of (w := 3) (k := 3) μ1 _ rfl rfl (by omega), mm_bd_some, pk_un (f := S1) (by omega)]
        unfold sp_bump
        by_cases h9 : (9 : Int32) ≤ S1 (139 + 17 * n + 3)
        · rw [if_pos h9, if_pos h9, fx_X11_drives_J60, mo_lays (w := 3) (k := 3) μ1 _ rfl rfl (by omega), mm_bd_some]
        · rw [if_neg h9, if_neg h9, mo_of (w := 3) (k := 3) μ1 _ rfl rfl (by omega), mm_bd_some, fx_X11_drives_J60, mo_lays (w := 3) (k := 3) μ1 _ rfl rfl (by omega), mm_bd_some, pk_un (f := S1) (by omega)]
      · rw [if_neg (show ¬ (1 : Int32) = 0 by decide), if_neg (show ¬ (1 : Int32) = 0 by decide), fx_X2_follow_J176, mm_li_e, mm_li_e, nI_1]
        obtain ⟨S2, σ2, μ2, a1, a2, a3, a4, a5⟩ := ih (i + 1) g g2 S1 σ1 μ1 (by omega) (by omega) (by omega) hW1 hR1
        exact ⟨S2, σ2, μ2, a1, a2, a3, a4, (hM1.trans a5).le (by omega)⟩
theorem turn_c {a b : Nat} (ha : a < 4) (hb : b < 4) : (nI a + nI b) &&& 3 = nI ((a + b) % 4) := by
  rcases (show a = 0 ∨ a = 1 ∨ a = 2 ∨ a = 3 by omega) with rfl | rfl | rfl | rfl <;> rcases (show b = 0 ∨ b = 1 ∨ b = 2 ∨ b = 3 by omega) with rfl | rfl | rfl | rfl <;> decide
theorem turn_m {a b : Nat} (ha : a < 4) (hb : b < 4) : (nI a + nI b) - (nI a + nI b) / 4 * 4 = nI ((a + b) % 4) := by
  rw [nI_add]
  exact pk_rem (a := a + b) (d := 4) (by omega) (by omega) (by omega)
theorem follow_out {B c f r n : Nat} {σ : mm_M} {S : Nat → Int32} (hW : WF B c f S) (hR : RS c f σ r S) (hn : n < c) (ho : S (139 + 17 * n + 1) = -1) : fx_X2_follow r (nI n) σ = some (0, σ) := by
  have hc4 := hW.c4
  have ec : σ r 6 n 3 = S (139 + 17 * n + 1) := hR.ct hn (k := 1) (by omega)
  rw [fx_X2_follow, mm_gd_t (mm_ix_n (by omega) (by omega)), nI_cl (by omega), cc_isOut, mm_bd_some, ec, if_pos ho, if_neg (show ¬ (1 : Int32) = 0 by decide)]
theorem follow_both {B c f r n ph : Nat} {σ μ : mm_M} {S : Nat → Int32} (hW : WF B c f S) (hR : RS c f σ r S) (hr : r < 6) (hn : n < c) (hp : S 1 = nI ph) (hph : ph < 5) (hrk : S (139 + 17 * n + (8 + 2 * ph)) ≠ 0) (ho : S (139 + 17 * n + 1) ≠ -1) : ∃ S1 σ1 μ1, fx_X2_follow r (nI n) σ = some (0, σ1) ∧ fx_X11_does (nI n) (S (139 + 17 * n + (7 + 2 * ph))) (mw μ S) = some (0, mw μ1 S1) ∧ WF B c f S1 ∧ RS c f σ1 r S1 ∧ MO 4000 c S S1 := by
  have hc4 := hW.c4
  have ec : σ r 6 n 3 = S (139 + 17 * n + 1) := hR.ct hn (k := 1) (by omega)
  have e2 : σ r 6 n 4 = S (139 + 17 * n + 2) := hR.ct hn (k := 2) (by omega)
  have ep : σ r 0 0 3 = nI ph := hR.ph.trans hp
  obtain ⟨d, hd, ed⟩ : isN (S (139 + 17 * n + 2)) 4 := (hW.ct hn).2.2.1
  obtain ⟨m, hm, em⟩ : isN (S (139 + 17 * n + (7 + 2 * ph))) 7 := ((hW.ct hn).2.2.2.2.2.2.2 ph hph).2.elim (fun z => absurd z hrk) id
  have emv : σ r 7 n ph = nI m := (hR.mv hn hph hrk).trans em
  have T : ∀ b : Nat, b < 4 → ∃ S1 σ1 μ1, (mm_lt (mm_u σ r 6 n 4 (nI ((d + b) % 4))) fun s_11 => (fx_X2_follow_J135 r (nI n) (nI d) 0 s_11)) = some (0, σ1) ∧ fx_X11_does_J64 (nI n) (nI m) (nI n) (nI b) (mw μ S) = some (0, mw μ1 S1) ∧ WF B c f S1 ∧ RS c f σ1 r S1 ∧ MO 4000 c S S1 := by
    intro b hb
    refine ⟨upd S (139 + 17 * n + 2) (nI ((d + b) % 4)), _, μ, ?_, ?_, ?_, hR.cart hc4 hW.f4 hn (k := 2) (by omega) _, MO.eq (fun m hm => pk_un (ix_ne (by omega) (by omega) (by omega))) (fun m hm => pk_un (ix_ne (by omega) (by omega) (by omega)))⟩
    · rw [mm_lt_e, fx_X2_follow_J135]
      unfold mm_FU
      rw [fx_X2_follow_L141, if_pos (show (0 : Int32) ≤ 0 by decide), fx_X2_follow_J184, if_pos rfl]
    · rw [fx_X11_does_J64, fx_X11_turns, mo_of (w := 2) (k := 2) μ S rfl rfl (by omega), mm_bd_some, ed, turn_m hd hb, mo_lays (w := 2) (k := 2) μ S rfl rfl (by omega), mm_bd_some, mm_bd_some]
    · exact hW.cart hn (k := 2) (by omega) (by omega) (fun z => absurd z (by omega)) (fun _ => ⟨_, Nat.mod_lt _ (by omega), rfl⟩) (fun z => absurd z (by omega)) (fun z => absurd z (by omega)) (fun z => absurd z (by omega))
  rw [fx_X2_follow, mm_gd_t (mm_ix_n (by omega) (by omega)), nI_cl (by omega), cc_isOut, mm_bd_some, ec, if_neg ho, if_pos rfl, ep, mm_gd_t (mm_ix_n (by omega) (by omega)), nI_cl (by omega), mm_li_e, mm_li_e, emv, e2, ed, fx_X11_does, mo_of (w := 2) (k := 2) μ S rfl rfl (by omega), mm_bd_some, em, ed]
  simp only [fx_X10_turned, mm_bd_some]
  have t1 : (nI d + (1 : Int32)) &&& 3 = nI ((d + 1) % 4) := turn_c hd (b := 1) (by omega)
  have t2 : (nI d + (2 : Int32)) &&& 3 = nI ((d + 2) % 4) := turn_c hd (b := 2) (by omega)
  have t3 : (nI d + (3 : Int32)) &&& 3 = nI ((d + 3) % 4) := turn_c hd (b := 3) (by omega)
  have tm : (nI d + (2 : Int32)) - (nI d + (2 : Int32)) / 4 * 4 = nI ((d + 2) % 4) := turn_m hd (b := 2) (by omega)
  rw [t1, t2, t3, tm]
  by_cases h3 : m = 3
  · subst h3
    rw [if_pos (show nI 3 = (3 : Int32) from rfl), if_pos (show (3 : Int32) ≤ nI 3 by decide), if_pos (show nI 3 = (3 : Int32) from rfl), fx_X2_follow_J135, fx_X11_drives]
    obtain ⟨S1, σ1, μ1, e1, e2, h, h', hM⟩ := drv_both (B := B) (f := f) (N := 1) hr hn (d := (d + 2) % 4) (Nat.mod_lt _ (by omega)) (by omega) 1 0 mm_FU mm_FU S σ μ (by omega) (by unfold mm_FU; omega) (by unfold mm_FU; omega) hW hR
    refine ⟨S1, σ1, μ1, e1, ?_, h, h', hM.le (by omega)⟩
    rw [show fx_X11_drives_L3 (nI n) 1 (nI ((d + 2) % 4)) mm_FU 0 (mw μ S) = some (0, mw μ1 S1) from e2, mm_bd_some]
  · by_cases h4 : m = 4
    · subst h4
      rw [if_neg (show ¬ nI 4 = (3 : Int32) by decide), if_pos (show nI 4 = (4 : Int32) from rfl), if_pos (show (3 : Int32) ≤ nI 4 by decide), if_neg (show ¬ nI 4 = (3 : Int32) by decide), if_pos (show nI 4 = (4 : Int32) from rfl)]
      exact T 3 (by omega)
    · by_cases h5 : m = 5
      · subst h5
        rw [if_neg (show ¬ nI 5 = (3 : Int32) by decide), if_neg (show ¬ nI 5 = (4 : Int32) by decide), if_pos (show nI 5 = (5 : Int32) from rfl), if_pos (show (3 : Int32) ≤ nI 5 by decide), if_neg (show ¬ nI 5 = (3 : Int32) by decide), if_neg (show ¬ nI 5 = (4 : Int32) by decide), if_pos (show nI 5 = (5 : Int32) from rfl)]
        exact T 1 (by omega)
      · by_cases h6 : m = 6
        · subst h6
          rw [if_neg (show ¬ nI 6 = (3 : Int32) by decide), if_neg (show ¬ nI 6 = (4 : Int32) by decide), if_neg (show ¬ nI 6 = (5 : Int32) by decide), if_pos (show nI 6 = (6 : Int32) from rfl), if_pos (show (3 : Int32) ≤ nI 6 by decide), if_neg (show ¬ nI 6 = (3 : Int32) by decide), if_neg (show ¬ nI 6 = (4 : Int32) by decide), if_neg (show ¬ nI 6 = (5 : Int32) by decide)]
          exact T 2 (by omega)
        · rw [if_neg (ne_lit (a := m) (b := 3) (x := 3) rfl (by omega) (by omega) (by omega)), if_neg (ne_lit (a := m) (b := 4) (x := 4) rfl (by omega) (by omega) (by omega)), if_neg (ne_lit (a := m) (b := 5) (x := 5) rfl (by omega) (by omega) (by omega)), if_neg (ne_lit (a := m) (b := 6) (x := 6) rfl (by omega) (by omega) (by omega)), mm_li_e, if_neg (nle_lit (a := m) (b := 3) (x := 3) rfl (by omega) (by omega)), fx_X2_follow_J135, fx_X11_drives, nI_1]
          obtain ⟨S1, σ1, μ1, e1, e2, h, h', hM⟩ := drv_both (B := B) (f := f) (N := m + 1) hr hn hd (by omega) (m + 1) 0 mm_FU mm_FU S σ μ (by omega) (by unfold mm_FU; omega) (by unfold mm_FU; omega) hW hR
          refine ⟨S1, σ1, μ1, e1, ?_, h, h', hM.le (by omega)⟩
          rw [show fx_X11_drives_L3 (nI n) (nI (m + 1)) (nI d) mm_FU 0 (mw μ S) = some (0, mw μ1 S1) from e2, mm_bd_some]
