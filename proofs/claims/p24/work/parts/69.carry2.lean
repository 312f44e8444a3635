theorem BC.off {c f r k n : Nat} {S : Nat → Int32} {σ : mm_M} (h : BC c f r S k σ) (hr : r < 6) : BC c f r S k (mm_u σ 7 19 0 n 0) :=
  ⟨h.1.congr (fun t m i ht => by rw [mm_u_ap, if_neg (by omega)]), fun m hm => by rw [mm_u_ap, if_neg (by omega)]; exact h.2.1 m hm, fun m hm => by rw [mm_u_ap, if_neg (by omega)]; exact h.2.2 m hm⟩
theorem ph1_L {B c f r : Nat} {S : Nat → Int32} (hW : WF B c f S) (hr : r < 6) : ∀ (e k fu : Nat) (σ : mm_M), k + e = c → e < fu → BC c f r S c σ → ∃ σ1, fx_X0_carry_L7 r fu (nI k) σ = fx_X0_carry_L48 r mm_FU 0 σ1 ∧ BC c f r S c σ1 ∧ kept S c (σ 7 19 0) (σ1 7 19 0) ∧ ∀ n, k ≤ n → n < c → σ1 7 19 0 n ≠ 0 → ¬ ∃ m, m < c ∧ hB S n m := by
  have hc4 := hW.c4
  intro e
  induction e with
  | zero =>
    intro k fu σ hk hf hK
    obtain ⟨g, rfl⟩ : ∃ g, fu = g + 1 := ⟨fu - 1, by omega⟩
    have : k = c := by omega
    subst this
    have hc0 : σ r 0 0 2 = nI k := hK.1.s0.trans hW.s0
    rw [fx_X0_carry_L7, hc0, if_pos (le_lit rfl (Nat.le_refl _) (by omega))]
    exact ⟨σ, rfl, hK, kept.rf, fun n a b => absurd b (by omega)⟩
  | succ e ih =>
    intro k fu σ hk hf hK
    obtain ⟨g, rfl⟩ : ∃ g, fu = g + 1 := ⟨fu - 1, by omega⟩
    have hkc : k < c := by omega
    have hc0 : σ r 0 0 2 = nI c := hK.1.s0.trans hW.s0
    have G : ∀ x, mm_gd (mm_ix (nI k) 4 = true) x = x := fun x => mm_gd_t (mm_ix_n (by omega) (by omega)) x
    have c1 : (nI k).toNatClampNeg = k := nI_cl (by omega)
    have fin : ∀ σ0 σ1 : mm_M, kept S c (σ 7 19 0) (σ0 7 19 0) → (σ0 7 19 0 k ≠ 0 → ¬ ∃ m, m < c ∧ hB S k m) → (kept S c (σ0 7 19 0) (σ1 7 19 0) ∧ ∀ n, k + 1 ≤ n → n < c → σ1 7 19 0 n ≠ 0 → ¬ ∃ m, m < c ∧ hB S n m) → kept S c (σ 7 19 0) (σ1 7 19 0) ∧ ∀ n, k ≤ n → n < c → σ1 7 19 0 n ≠ 0 → ¬ ∃ m, m < c ∧ hB S n m := by
      rintro σ0 σ1 a b ⟨d, w⟩
      refine ⟨a.trans d, fun n h1 h2 h3 => ?_⟩
      by_cases hnk : n = k
      · subst hnk
        rcases d.1 n h2 with z | z
        · exact b (by rw [← z]; exact h3)
        · exact absurd z h3
      · exact w n (by omega) h2 h3
    rw [fx_X0_carry_L7, hc0, if_neg (nle_lit rfl (by omega) (by omega) : ¬ nI c ≤ nI k), G, c1]
    by_cases hz : σ 7 19 0 k = 0
    · rw [if_pos hz, mm_li_e, nI_1]
      obtain ⟨σ1, e1, h1, h2⟩ := ih (k + 1) g σ (by omega) (by omega) hK
      exact ⟨σ1, e1, h1, fin σ σ1 kept.rf (fun w => absurd hz w) h2⟩
    · rw [if_neg hz, fx_X0_isHindered]
      obtain ⟨v, ev, hv⟩ := hin_L hW hkc hK c 0 mm_FU (by omega) (by unfold mm_FU; omega)
      rw [show fx_X0_isHindered_L2 r (nI k) mm_FU 0 σ = some (v, σ) from ev, mm_bd_some]
      rcases hv with ⟨rfl, hv⟩ | ⟨rfl, hv⟩
      · rw [if_pos rfl, mm_li_e, nI_1]
        obtain ⟨σ1, e1, h1, h2⟩ := ih (k + 1) g σ (by omega) (by omega) hK
        exact ⟨σ1, e1, h1, fin σ σ1 kept.rf (fun _ ⟨m, hm, hh⟩ => hv m (by omega) hm hh) h2⟩
      · rw [if_neg (show ¬ (1 : Int32) = 0 by decide), G, mm_lt_e, mm_li_e, nI_1]
        obtain ⟨σ1, e1, h1, h2⟩ := ih (k + 1) g (mm_u σ 7 19 0 k 0) (by omega) (by omega) (hK.off hr)
        refine ⟨σ1, e1, h1, fin _ σ1 ?_ (fun w => absurd ?_ w) h2⟩
        · rw [mm_u_row]; exact kept.rm hkc (Or.inl hv)
        · rw [mm_u_row, pk_us]
theorem ph2_L {B c f r : Nat} {S : Nat → Int32} {v2 : Int32} {k48 : Int32 → mm_M → mm_R} (hW : WF B c f S) (hr : r < 6) : ∀ (e k fu : Nat) (σ : mm_M), k + e = c → e < fu → BC c f r S c σ → ∃ σ1, fx_X0_carry_L58 r k48 fu v2 (nI k) σ = k48 (v2 + 1) σ1 ∧ BC c f r S c σ1 ∧ kept S c (σ 7 19 0) (σ1 7 19 0) ∧ ((σ1 = σ ∧ ∀ n, k ≤ n → n < c → σ 7 19 0 n ≠ 0 → ¬ bl S c (σ 7 19 0) n) ∨ (cnt (σ1 7 19 0) c < cnt (σ 7 19 0) c ∧ ∃ n, n < c ∧ σ 7 19 0 n ≠ 0 ∧ bl S c (σ 7 19 0) n)) := by
  have hc4 := hW.c4
  intro e
  induction e with
  | zero =>
    intro k fu σ hk hf hB
    obtain ⟨g, rfl⟩ : ∃ g, fu = g + 1 := ⟨fu - 1, by omega⟩
    have : k = c := by omega
    subst this
    have hc0 : σ r 0 0 2 = nI k := hB.1.s0.trans hW.s0
    rw [fx_X0_carry_L58, hc0, if_pos (le_lit rfl (Nat.le_refl _) (by omega)), mm_li_e]
    exact ⟨σ, rfl, hB, kept.rf, Or.inl ⟨rfl, fun n a b => absurd b (by omega)⟩⟩
  | succ e ih =>
    intro k fu σ hk hf hB
    obtain ⟨g, rfl⟩ : ∃ g, fu = g + 1 := ⟨fu - 1, by omega⟩
    have hkc : k < c := by omega
    have hc0 : σ r 0 0 2 = nI c := hB.1.s0.trans hW.s0
    have G : ∀ x, mm_gd (mm_ix (nI k) 4 = true) x = x := fun x => mm_gd_t (mm_ix_n (by omega) (by omega)) x
    have c1 : (nI k).toNatClampNeg = k := nI_cl (by omega)
    rw [fx_X0_carry_L58, hc0, if_neg (nle_lit rfl (by omega) (by omega) : ¬ nI c ≤ nI k), G, c1]
    have skip : (σ 7 19 0 k ≠ 0 → ¬ bl S c (σ 7 19 0) k) → ∃ σ1, fx_X0_carry_L58 r k48 g v2 (nI (k + 1)) σ = k48 (v2 + 1) σ1 ∧ BC c f r S c σ1 ∧ kept S c (σ 7 19 0) (σ1 7 19 0) ∧ ((σ1 = σ ∧ ∀ n, k ≤ n → n < c → σ 7 19 0 n ≠ 0 → ¬ bl S c (σ 7 19 0) n) ∨ (cnt (σ1 7 19 0) c < cnt (σ 7 19 0) c ∧ ∃ n, n < c ∧ σ 7 19 0 n ≠ 0 ∧ bl S c (σ 7 19 0) n)) := by
      intro hb
      obtain ⟨σ1, e1, h1, h2, h3⟩ := ih (k + 1) g σ (by omega) (by omega) hB
      refine ⟨σ1, e1, h1, h2, h3.elim (fun z => Or.inl ⟨z.1, fun n a b w => ?_⟩) Or.inr⟩
      by_cases hnk : n = k
      · subst hnk; exact hb w
      · exact z.2 n (by omega) b w
    by_cases hz : σ 7 19 0 k = 0
    · rw [if_pos hz, mm_li_e, nI_1]
      exact skip (fun w => absurd hz w)
    · obtain ⟨v, ev, hv⟩ := cc_blocked hW hkc hB
      rw [if_neg hz, ev, mm_bd_some]
      rcases hv with ⟨rfl, hv⟩ | ⟨rfl, hv⟩
      · rw [if_pos rfl, mm_li_e, nI_1]
        exact skip (fun _ => hv)
      · rw [if_neg (show ¬ (1 : Int32) = 0 by decide), G, mm_lt_e, mm_li_e, nI_1]
        obtain ⟨σ1, e1, h1, h2, h3⟩ := ih (k + 1) g (mm_u σ 7 19 0 k 0) (by omega) (by omega) (hB.off hr)
        rw [mm_u_row] at h2
        have k1 := (kept.rm (S := S) hkc (Or.inr hv)).trans h2
        refine ⟨σ1, e1, h1, k1, Or.inr ⟨?_, k, hkc, hz, hv⟩⟩
        have a1 := cnt_sub c h2.1
        have a2 := cnt_rm hz c hkc
        omega
theorem ph3_L {B c f r : Nat} {S : Nat → Int32} (hW : WF B c f S) (hr : r < 6) : ∀ (e j fu : Nat) (σ : mm_M), j + e = c → e < fu → BC c f r S c σ → (cnt (σ 7 19 0) c + j ≤ c ∨ ∀ n, n < c → σ 7 19 0 n ≠ 0 → ¬ bl S c (σ 7 19 0) n) → ∃ σ1, fx_X0_carry_L48 r fu (nI j) σ = fx_X0_carry_L105 r mm_FU 0 σ1 ∧ BC c f r S c σ1 ∧ kept S c (σ 7 19 0) (σ1 7 19 0) ∧ ∀ n, n < c → σ1 7 19 0 n ≠ 0 → ¬ bl S c (σ1 7 19 0) n := by
  have hc4 := hW.c4
  intro e
  induction e with
  | zero =>
    intro k fu σ hk hf hB hF
    obtain ⟨g, rfl⟩ : ∃ g, fu = g + 1 := ⟨fu - 1, by omega⟩
    have : k = c := by omega
    subst this
    have hc0 : σ r 0 0 2 = nI k := hB.1.s0.trans hW.s0
    rw [fx_X0_carry_L48, hc0, if_pos (le_lit rfl (Nat.le_refl _) (by omega))]
    refine ⟨σ, rfl, hB, kept.rf, hF.elim (fun z n hn w => ?_) id⟩
    exact absurd (cnt_0 k (by omega) n hn) w
  | succ e ih =>
    intro j fu σ hk hf hB hF
    obtain ⟨g, rfl⟩ : ∃ g, fu = g + 1 := ⟨fu - 1, by omega⟩
    have hc0 : σ r 0 0 2 = nI c := hB.1.s0.trans hW.s0
    rw [fx_X0_carry_L48, hc0, if_neg (nle_lit rfl (by omega) (by omega) : ¬ nI c ≤ nI j)]
    obtain ⟨σ1, e1, h1, h2, h3⟩ := ph2_L (v2 := nI j) (k48 := fun z0 z => fx_X0_carry_L48 r g z0 z) hW hr c 0 mm_FU σ (by omega) (by unfold mm_FU; omega) hB
    rw [show fx_X0_carry_L58 r (fun z0 z => fx_X0_carry_L48 r g z0 z) mm_FU (nI j) 0 σ = fx_X0_carry_L48 r g (nI j + 1) σ1 from e1, nI_1]
    have hF2 : cnt (σ1 7 19 0) c + (j + 1) ≤ c ∨ ∀ n, n < c → σ1 7 19 0 n ≠ 0 → ¬ bl S c (σ1 7 19 0) n := by
      rcases h3 with ⟨z, w⟩ | ⟨z, n, hn, w1, w2⟩
      · rw [z]; exact Or.inr (fun n hn => w n (by omega) hn)
      · rcases hF with hF | hF
        · exact Or.inl (by omega)
        · exact absurd w2 (hF n hn w1)
    obtain ⟨σ2, e2, g1, g2, g3⟩ := ih (j + 1) g σ1 (by omega) (by omega) h1 hF2
    exact ⟨σ2, e2, g1, h2.trans g2, g3⟩
theorem cc_carry {B c f r : Nat} {S : Nat → Int32} {σ : mm_M} (hW : WF B c f S) (hr : r < 6) (hR : RS c f σ r S) : ∃ (σ1 : mm_M) (A : Nat → Int32), fx_X0_carry r σ = fx_X0_carry_L105 r mm_FU 0 σ1 ∧ BC c f r S c σ1 ∧ (∀ n, n < c → (A n = 0 ↔ ¬ bc S n)) ∧ kept S c A (σ1 7 19 0) ∧ ∀ n, n < c → σ1 7 19 0 n ≠ 0 → ¬ bad S c (σ1 7 19 0) n := by
  have hc4 := hW.c4
  rw [fx_X0_carry, fx_X0_askAll]
  obtain ⟨σ1, e1, h1, h2⟩ := ask_L hW hr c 0 mm_FU σ (by omega) (by unfold mm_FU; omega) ⟨hR, fun n hn => absurd hn (by omega), fun n hn => absurd hn (by omega)⟩ (fun n hn => absurd hn (by omega))
  rw [show fx_X0_askAll_L2 r mm_FU 0 σ = some (0, σ1) from e1, mm_bd_some]
  obtain ⟨σ2, e2, g1, g2, g3⟩ := ph1_L hW hr c 0 mm_FU σ1 (by omega) (by unfold mm_FU; omega) h1
  obtain ⟨σ3, e3, k1, k2, k3⟩ := ph3_L hW hr c 0 mm_FU σ2 (by omega) (by unfold mm_FU; omega) g1 (Or.inl (by have := cnt_le (σ2 7 19 0) c; omega))
  refine ⟨σ3, σ1 7 19 0, e2.trans e3, k1, h2, g2.trans k2, fun n hn hz hb => ?_⟩
  rcases hb with hb | hb
  · refine g3 n (by omega) hn ?_ hb
    rcases k2.1 n hn with z | z
    · rw [← z]; exact hz
    · exact absurd z hz
  · exact k3 n hn hz hb
/-- the model's passes -/
theorem mp_L {B c f : Nat} {S : Nat → Int32} {k79 : Int32 → mm_M → mm_R} (hW : WF B c f S) : ∀ (e k fu : Nat) (v1 : Int32) (μ : mm_M), k + e = c → e < fu → ∃ v μ1, fx_X11_belts_L87 k79 fu v1 (nI k) (mw μ S) = k79 v (mw μ1 S) ∧ kept S c (μ 10 38 0) (μ1 10 38 0) ∧ μ1 10 39 0 = μ 10 39 0 ∧ ((v = v1 ∧ μ1 = μ ∧ ∀ n, k ≤ n → n < c → μ 10 38 0 n ≠ 0 → ¬ bad S c (μ 10 38 0) n) ∨ (v = 1 ∧ cnt (μ1 10 38 0) c < cnt (μ 10 38 0) c)) := by
  have hc4 := hW.c4
  have hc1 : ∀ μ, mw μ S 10 31 0 (0 : Int32).toNatClampNeg = nI c := fun μ => by rw [mw_row]; exact hW.s0
  intro e
  induction e with
  | zero =>
    intro k fu v1 μ hk hf
    obtain ⟨g, rfl⟩ : ∃ g, fu = g + 1 := ⟨fu - 1, by omega⟩
    have : k = c := by omega
    subst this
    rw [fx_X11_belts_L87, hc1, if_pos (le_lit rfl (Nat.le_refl _) (by omega))]
    exact ⟨v1, μ, rfl, kept.rf, rfl, Or.inl ⟨rfl, rfl, fun n a b => absurd b (by omega)⟩⟩
  | succ e ih =>
    intro k fu v1 μ hk hf
    obtain ⟨g, rfl⟩ : ∃ g, fu = g + 1 := ⟨fu - 1, by omega⟩
    have hkc : k < c := by omega
    have G : ∀ x, mm_gd (mm_ix (nI k) 4 = true) x = x := fun x => mm_gd_t (mm_ix_n (by omega) (by omega)) x
    have c1 : (nI k).toNatClampNeg = k := nI_cl (by omega)
    rw [fx_X11_belts_L87, hc1, if_neg (nle_lit rfl (by omega) (by omega) : ¬ nI c ≤ nI k), G, c1, mw_oth μ S (by omega)]
    have skip : (μ 10 38 0 k ≠ 0 → ¬ bad S c (μ 10 38 0) k) → ∃ v μ1, fx_X11_belts_L87 k79 g v1 (nI (k + 1)) (mw μ S) = k79 v (mw μ1 S) ∧ kept S c (μ 10 38 0) (μ1 10 38 0) ∧ μ1 10 39 0 = μ 10 39 0 ∧ ((v = v1 ∧ μ1 = μ ∧ ∀ n, k ≤ n → n < c → μ 10 38 0 n ≠ 0 → ¬ bad S c (μ 10 38 0) n) ∨ (v = 1 ∧ cnt (μ1 10 38 0) c < cnt (μ 10 38 0) c)) := by
      intro hb
      obtain ⟨v, μ1, e1, h1, h2, h3⟩ := ih (k + 1) g v1 μ (by omega) (by omega)
      refine ⟨v, μ1, e1, h1, h2, h3.elim (fun z => Or.inl ⟨z.1, z.2.1, fun n a b w => ?_⟩) Or.inr⟩
      by_cases hnk : n = k
      · subst hnk; exact hb w
      · exact z.2.2 n (by omega) b w
    by_cases hz : μ 10 38 0 k = 0
    · rw [if_pos hz, mm_li_e, nI_1]
      exact skip (fun w => absurd hz w)
    · obtain ⟨v, ev, hv⟩ := mo_stays μ hW hkc
      rw [if_neg hz, ev, mm_bd_some]
      rcases hv with ⟨rfl, hv⟩ | ⟨rfl, hv⟩
      · rw [if_pos rfl, mm_li_e, nI_1]
        exact skip (fun _ => hv)
      · rw [if_neg (show ¬ (1 : Int32) = 0 by decide), G, mm_lt_e, mm_li_e, nI_1, mw_s μ S _ (by omega)]
        obtain ⟨v, μ1, e1, h1, h2, h3⟩ := ih (k + 1) g 1 (mm_u μ 10 38 0 k 0) (by omega) (by omega)
        rw [mm_u_row] at h1
        have k1 := (kept.rm (S := S) hkc hv).trans h1
        refine ⟨v, μ1, e1, k1, h2.trans (mm_u_oth _ _ _ _ _ _ (by omega)), Or.inr ⟨h3.elim (fun z => z.1) (fun z => z.1), ?_⟩⟩
        have a1 := cnt_sub c h1.1
        have a2 := cnt_rm hz c hkc
        omega
theorem mp_all {B c f : Nat} {S : Nat → Int32} (hW : WF B c f S) : ∀ (N fu : Nat) (μ : mm_M), cnt (μ 10 38 0) c ≤ N → N + 1 < fu → ∃ μ1, fx_X11_belts_L79 fu 1 (mw μ S) = fx_X11_belts_L134 mm_FU 0 (mw μ1 S) ∧ kept S c (μ 10 38 0) (μ1 10 38 0) ∧ μ1 10 39 0 = μ 10 39 0 ∧ ∀ n, n < c → μ1 10 38 0 n ≠ 0 → ¬ bad S c (μ1 10 38 0) n := by
  have hc4 := hW.c4
  intro N
  induction N with
  | zero =>
    intro fu μ hN hf
    obtain ⟨g, rfl⟩ : ∃ g, fu = g + 1 := ⟨fu - 1, by omega⟩
    obtain ⟨g2, rfl⟩ : ∃ g2, g = g2 + 1 := ⟨g - 1, by omega⟩
    obtain ⟨v, μ1, e1, h1, h2, h3⟩ := mp_L (k79 := fun z0 z => fx_X11_belts_L79 (g2 + 1) z0 z) hW c 0 mm_FU 0 μ (by omega) (by unfold mm_FU; omega)
    rw [fx_X11_belts_L79, if_neg (show ¬ (1 : Int32) = 0 by decide), show fx_X11_belts_L87 (fun z0 z => fx_X11_belts_L79 (g2 + 1) z0 z) mm_FU 0 0 (mw μ S) = _ from e1]
    rcases h3 with ⟨rfl, rfl, h3⟩ | ⟨rfl, h3⟩
    · rw [fx_X11_belts_L79, if_pos rfl]
      exact ⟨μ1, rfl, kept.rf, rfl, fun n hn => h3 n (by omega) hn⟩
    · omega
  | succ N ih =>
    intro fu μ hN hf
    obtain ⟨g, rfl⟩ : ∃ g, fu = g + 1 := ⟨fu - 1, by omega⟩
    obtain ⟨g2, rfl⟩ : ∃ g2, g = g2 + 1 := ⟨g - 1, by omega⟩
    obtain ⟨v, μ1, e1, h1, h2, h3⟩ := mp_L (k79 := fun z0 z => fx_X11_belts_L79 (g2 + 1) z0 z) hW c 0 mm_FU 0 μ (by omega) (by unfold mm_FU; omega)
    rw [fx_X11_belts_L79, if_neg (show ¬ (1 : Int32) = 0 by decide), show fx_X11_belts_L87 (fun z0 z => fx_X11_belts_L79 (g2 + 1) z0 z) mm_FU 0 0 (mw μ S) = _ from e1]
    rcases h3 with ⟨rfl, rfl, h3⟩ | ⟨rfl, h3⟩
    · rw [fx_X11_belts_L79, if_pos rfl]
      exact ⟨μ1, rfl, kept.rf, rfl, fun n hn => h3 n (by omega) hn⟩
    · obtain ⟨μ2, e2, k1, k2, k3⟩ := ih (g2 + 1) μ1 (by omega) (by omega)
      exact ⟨μ2, e2, h1.trans k1, k2.trans h2, k3⟩
theorem mo_belts {B c f : Nat} {S : Nat → Int32} (μ : mm_M) (hW : WF B c f S) : ∃ (μ1 : mm_M) (A : Nat → Int32), fx_X11_belts (mw μ S) = fx_X11_belts_L134 mm_FU 0 (mw μ1 S) ∧ (∀ n, n < c → μ1 10 39 0 n = bw S n) ∧ (∀ n, n < c → (A n = 0 ↔ ¬ bc S n)) ∧ kept S c A (μ1 10 38 0) ∧ ∀ n, n < c → μ1 10 38 0 n ≠ 0 → ¬ bad S c (μ1 10 38 0) n := by
  have hc4 := hW.c4
  rw [fx_X11_belts]
  obtain ⟨μ1, e1, h1⟩ := blt_L hW c 0 mm_FU μ (by omega) (by unfold mm_FU; omega) (fun n hn => absurd hn (by omega))
  obtain ⟨μ2, e2, k1, k2, k3⟩ := mp_all hW (cnt (μ1 10 38 0) c) mm_FU μ1 (Nat.le_refl _) (by have := cnt_le (μ1 10 38 0) c; unfold mm_FU; omega)
  exact ⟨μ2, μ1 10 38 0, e1.trans e2, fun n hn => by rw [k2]; exact (h1 n hn).2, fun n hn => (h1 n hn).1, k1, k3⟩
/-- all of them move -/
def mvG (A : Nat → Int32) (w : Nat → Int32) : Nat → (Nat → Int32) → Nat → Int32
  | 0, S => S
  | k + 1, S => if A k = 0 then mvG A w k S else sp_enter (mvG A w k S) k (w k)
theorem mvG_un {A w : Nat → Int32} {S : Nat → Int32} {i : Nat} : ∀ k, (∀ n, n < k → i ≠ 139 + 17 * n + 1 ∧ i ≠ 139 + 17 * n + 5) → mvG A w k S i = S i
  | 0, _ => rfl
  | k + 1, h => by
    unfold mvG
    split
    · exact mvG_un k (fun n hn => h n (by omega))
    · rw [sp_enter_un _ _ _ (h k (by omega)).1 (h k (by omega)).2, mvG_un k (fun n hn => h n (by omega))]
theorem sp_enter_cg {S T : Nat → Int32} {n j : Nat} {v : Int32} (hv : v < 0 ∨ v.toNatClampNeg < 64) (e : ∀ i, i < 139 → T i = S i) (e2 : ∀ i, i < 17 → T (139 + 17 * n + i) = S (139 + 17 * n + i)) (hj : j < 17) : sp_enter T n v (139 + 17 * n + j) = sp_enter S n v (139 + 17 * n + j) := by
  have e5 := e2 5 (by omega)
  have U : ∀ (k : Nat) (x : Int32), upd T (139 + 17 * n + k) x (139 + 17 * n + j) = upd S (139 + 17 * n + k) x (139 + 17 * n + j) := by
    intro k x
    by_cases h : 139 + 17 * n + j = 139 + 17 * n + k
    · rw [h, pk_us, pk_us]
    · rw [pk_un h, pk_un h]; exact e2 j hj
  have key : (v < 0 ∨ T (11 + v.toNatClampNeg) = 7) ↔ (v < 0 ∨ S (11 + v.toNatClampNeg) = 7) := by
    rcases hv with hv | hv
    · exact ⟨fun _ => Or.inl hv, fun _ => Or.inl hv⟩
    · rw [e _ (by omega)]
  unfold sp_enter
  by_cases h : v < 0 ∨ S (11 + v.toNatClampNeg) = 7
  · rw [if_pos h, if_pos (key.mpr h), e5]
    by_cases h5 : j = 5
    · subst h5; rw [pk_us, pk_us]
    · rw [pk_un (show 139 + 17 * n + j ≠ 139 + 17 * n + 5 by omega), pk_un (show 139 + 17 * n + j ≠ 139 + 17 * n + 5 by omega)]; exact U 1 _
  · rw [if_neg h, if_neg (fun z => h (key.mp z))]; exact U 1 _
theorem mvG_at {A w : Nat → Int32} {S : Nat → Int32} {n : Nat} (hw : w n < 0 ∨ (w n).toNatClampNeg < 64) : ∀ k, n < k → ∀ j, j < 17 → mvG A w k S (139 + 17 * n + j) = if A n = 0 then S (139 + 17 * n + j) else sp_enter S n (w n) (139 + 17 * n + j)
  | 0, h, _, _ => absurd h (Nat.not_lt_zero n)
  | k + 1, h, j, hj => by
    unfold mvG
    by_cases hnk : n = k
    · subst hnk
      by_cases hz : A n = 0
      · rw [if_pos hz, if_pos hz, mvG_un n (fun m hm => ⟨by omega, by omega⟩)]
      · rw [if_neg hz, if_neg hz]
        exact sp_enter_cg hw (fun i hi => mvG_un n (fun m hm => ⟨by omega, by omega⟩)) (fun i hi => mvG_un n (fun m hm => ⟨by omega, by omega⟩)) hj
    · have ih := mvG_at (A := A) (S := S) hw k (by omega) j hj
      split
      · exact ih
      · rw [sp_enter_un _ _ _ (by omega) (by omega)]; exact ih
theorem WC.enter {B f n : Nat} {S : Nat → Int32} {v : Int32} (h : WC B f S n) (hin : S (139 + 17 * n + 1) ≠ -1) (hv : v = -1 ∨ isN v 64) : WC B f (sp_enter S n v) n := by
  obtain ⟨a1, a2, a3, a4, a5, a6, a7, a8⟩ := h
  have ho : isN (S (139 + 17 * n + 5)) B := a7.elim (fun z => absurd z hin) id
  have U : ∀ j, j ≠ 1 → j ≠ 5 → sp_enter S n v (139 + 17 * n + j) = S (139 + 17 * n + j) := fun j h1 h5 => sp_enter_un S n v (by omega) (by omega)
  have h5 : (sp_enter S n v (139 + 17 * n + 1) = -1 ∧ isN (sp_enter S n v (139 + 17 * n + 5)) (B + 1)) ∨ isN (sp_enter S n v (139 + 17 * n + 5)) B := by
    unfold sp_enter
    split
    · rw [pk_us, pk_un (show 139 + 17 * n + 1 ≠ 139 + 17 * n + 5 by omega), pk_us]
      obtain ⟨k, hk, e⟩ := ho
      exact Or.inl ⟨rfl, k + 1, by omega, by rw [e, nI_1]⟩
    · rw [pk_un (show 139 + 17 * n + 5 ≠ 139 + 17 * n + 1 by omega)]
      exact Or.inr ho
  refine ⟨?_, ?_, ?_, ?_, ?_, ?_, ?_, fun j hj => ⟨?_, ?_⟩⟩
  · rw [U 0 (by omega) (by omega)]; exact a1
  · rcases sp_enter_in (S := S) (n := n) (v := v) with z | z
    · exact Or.inl z
    · rw [z]; exact hv
  · rw [U 2 (by omega) (by omega)]; exact a3
  · rw [U 3 (by omega) (by omega)]; exact a4
  · rw [U 4 (by omega) (by omega)]; exact a5
  · rcases h5 with z | ⟨k, hk, e⟩
    · exact z.2
    · exact ⟨k, by omega, e⟩
  · exact h5.elim (fun z => Or.inl z.1) Or.inr
  · rw [U _ (by omega) (by omega)]; exact (a8 j hj).1
  · rw [U _ (by omega) (by omega), U _ (by omega) (by omega)]; exact (a8 j hj).2
theorem mvG_wf {B c f : Nat} {S : Nat → Int32} {A : Nat → Int32} (hW : WF B c f S) (hG : St S c (fun n => A n ≠ 0)) : WF B c f (mvG A (bw S) c S) := by
  have hc4 := hW.c4
  have hb : ∀ n, n < c → bw S n < 0 ∨ (bw S n).toNatClampNeg < 64 := by
    intro n hn
    rcases bw_in hW hn with e | ⟨q, hq, e⟩
    · rw [e]; exact Or.inl m1_lt0
    · rw [e, nI_cl (by omega)]; exact Or.inr hq
  have lo : ∀ i, i < 139 → mvG A (bw S) c S i = S i := fun i hi => mvG_un c (fun m hm => ⟨by omega, by omega⟩)
  have hi : ∀ n, n < c → ∀ j, j < 17 → mvG A (bw S) c S (139 + 17 * n + j) = if A n = 0 then S (139 + 17 * n + j) else sp_enter S n (bw S n) (139 + 17 * n + j) := fun n hn => mvG_at (hb n hn) c hn
  have inn : ∀ n, n < c → A n ≠ 0 → S (139 + 17 * n + 1) ≠ -1 := by
    intro n hn hz
    obtain ⟨q, k, hq, hk, e, _⟩ := (hG n hn hz).1
    rw [e]; exact nI_m1 (by omega)
  have cell : ∀ n, n < c → (A n = 0 ∧ mvG A (bw S) c S (139 + 17 * n + 1) = S (139 + 17 * n + 1)) ∨ (A n ≠ 0 ∧ (mvG A (bw S) c S (139 + 17 * n + 1) = -1 ∨ (mvG A (bw S) c S (139 + 17 * n + 1) = bw S n))) := by
    intro n hn
    by_cases hz : A n = 0
    · exact Or.inl ⟨hz, by rw [hi n hn 1 (by omega), if_pos hz]⟩
    · exact Or.inr ⟨hz, by rw [hi n hn 1 (by omega), if_neg hz]; exact sp_enter_in⟩
  refine ⟨hc4, hW.f4, ?_, ?_, ?_, fun k hk => ?_, fun k hk => ?_, fun n hn => ?_, fun n m hn hm hne e => ?_⟩
  · rw [lo _ (by omega)]; exact hW.s0
  · rw [lo _ (by omega)]; exact hW.s3
  · rw [lo _ (by omega)]; exact hW.2.2.2.2.1
  · rw [lo _ (by have := hW.f4; omega)]; exact hW.2.2.2.2.2.1 k hk
  · rw [lo _ (by omega)]; exact hW.kd hk
  · by_cases hz : A n = 0
    · exact (hW.ct hn).same (by omega) (fun k hk => by rw [hi n hn k hk, if_pos hz])
    · exact ((hW.ct hn).enter (inn n hn hz) (bw_in hW hn)).same (by omega) (fun k hk => by rw [hi n hn k hk, if_neg hz])
  · rcases cell n hn with ⟨zn, en⟩ | ⟨zn, en | en⟩
    · rcases cell m hm with ⟨zm, em⟩ | ⟨zm, em | em⟩
      · rw [en]
        exact hW.ap hn hm hne (en.symm.trans (e.trans em))
      · rw [e, em]
      · by_cases hw : bw S m = -1
        · rw [e, em, hw]
        · exact absurd (((hG m hm zm).2 n hn).2 hw (en.symm.trans (e.trans em))) (fun w => w zn)
    · exact en
    · rcases cell m hm with ⟨zm, em⟩ | ⟨zm, em | em⟩
      · by_cases hw : bw S n = -1
        · rw [en, hw]
        · exact absurd (((hG n hn zn).2 m hm).2 hw (em.symm.trans (e.symm.trans en))) (fun w => w zm)
      · rw [e, em]
      · by_cases hw : bw S n = -1
        · rw [en, hw]
        · have e2 : bw S m = bw S n := em.symm.trans (e.symm.trans en)
          exact absurd ⟨Ne.symm hne, bw_bo hW hm (by rw [e2]; exact hw), hw, Or.inl e2⟩ ((hG n hn zn).2 m hm).1
theorem mvc_L {B c f r : Nat} {S : Nat → Int32} {A D : Nat → Int32} {μ : mm_M} (hW : WF B c f S) (hr : r < 6) (hAD : ∀ n, n < c → (A n = 0 ↔ D n = 0)) (hD : ∀ n, n < c → μ 10 38 0 n = D n) (hw : ∀ n, n < c → μ 10 39 0 n = bw S n) : ∀ (e k fu fu2 : Nat) (σ : mm_M), k + e = c → e < fu → e < fu2 → RS c f σ r (mvG A (bw S) k S) → (∀ n, n < c → σ 7 18 0 n = bw S n) → (∀ n, n < c → σ 7 19 0 n = A n) → ∃ σ1, fx_X0_carry_L105 r fu (nI k) σ = some (0, σ1) ∧ fx_X11_belts_L134 fu2 (nI k) (mw μ (mvG A (bw S) k S)) = some (0, mw μ (mvG A (bw S) c S)) ∧ RS c f σ1 r (mvG A (bw S) c S) := by
  have hc4 := hW.c4
  have l0 : ∀ k, mvG A (bw S) k S 0 = nI c := fun k => (mvG_un k (fun m hm => ⟨by omega, by omega⟩)).trans hW.s0
  have hc1 : ∀ k, mw μ (mvG A (bw S) k S) 10 31 0 (0 : Int32).toNatClampNeg = nI c := fun k => by rw [mw_row]; exact l0 k
  intro e
  induction e with
  | zero =>
    intro k fu fu2 σ hk hf hf2 hR h18 h19
    obtain ⟨g, rfl⟩ : ∃ g, fu = g + 1 := ⟨fu - 1, by omega⟩
    obtain ⟨g2, rfl⟩ : ∃ g, fu2 = g + 1 := ⟨fu2 - 1, by omega⟩
    have : k = c := by omega
    subst this
    have hc0 : σ r 0 0 2 = nI k := hR.s0.trans (l0 k)
    rw [fx_X0_carry_L105, hc0, if_pos (le_lit rfl (Nat.le_refl _) (by omega)), fx_X11_belts_L134, hc1, if_pos (le_lit rfl (Nat.le_refl _) (by omega))]
    exact ⟨σ, rfl, rfl, hR⟩
  | succ e ih =>
    intro k fu fu2 σ hk hf hf2 hR h18 h19
    obtain ⟨g, rfl⟩ : ∃ g, fu = g + 1 := ⟨fu - 1, by omega⟩
    obtain ⟨g2, rfl⟩ : ∃ g, fu2 = g + 1 := ⟨fu2 - 1, by omega⟩
    have hkc : k < c := by omega
    have hc0 : σ r 0 0 2 = nI c := hR.s0.trans (l0 k)
    have G : ∀ x, mm_gd (mm_ix (nI k) 4 = true) x = x := fun x => mm_gd_t (mm_ix_n (by omega) (by omega)) x
    have c1 : (nI k).toNatClampNeg = k := nI_cl (by omega)
    have o38 : ∀ T, mw μ T 10 38 0 = μ 10 38 0 := fun T => mw_oth μ T (by omega)
    have o39 : ∀ T, mw μ T 10 39 0 = μ 10 39 0 := fun T => mw_oth μ T (by omega)
    rw [fx_X0_carry_L105, hc0, if_neg (nle_lit rfl (by omega) (by omega) : ¬ nI c ≤ nI k), G, c1, h19 k hkc, fx_X11_belts_L134, hc1, if_neg (nle_lit rfl (by omega) (by omega) : ¬ nI c ≤ nI k), G, c1, o38, o39, hD k hkc, hw k hkc]
    by_cases hz : A k = 0
    · rw [if_pos hz, if_pos ((hAD k hkc).mp hz), mm_li_e, mm_li_e, nI_1, G]
      have e1 : mvG A (bw S) (k + 1) S = mvG A (bw S) k S := by
        rw [mvG, if_pos hz]
      rw [← e1] at hR
      have := ih (k + 1) g g2 σ (by omega) (by omega) (by omega) hR h18 h19
      rw [e1] at this
      exact this
    · have e1 : mvG A (bw S) (k + 1) S = sp_enter (mvG A (bw S) k S) k (bw S k) := by
        rw [mvG, if_neg hz]
      obtain ⟨σ1, h1, h2⟩ := cc_enter hR hc4 hW.f4 hkc (v := bw S k) (bw_in hW hkc)
      rw [if_neg hz, if_neg (fun z => hz ((hAD k hkc).mpr z)), G, G, G, h18 k hkc, h1, mm_bd_some, mm_li_e, nI_1, mo_comesTo μ _ rfl (by omega) (bw_in hW hkc), mm_bd_some, mm_li_e, ← e1]
      rw [← e1] at h2
      have F := fr_X8_enter r r k (bw S k) σ 0 σ1 h1
      have f18 : σ1 7 18 0 = σ 7 18 0 := F.row (fun j hj => by unfold fw_X8_enter at hj; omega)
      have f19 : σ1 7 19 0 = σ 7 19 0 := F.row (fun j hj => by unfold fw_X8_enter at hj; omega)
      exact ih (k + 1) g g2 σ1 (by omega) (by omega) (by omega) h2 (fun n hn => by rw [f18]; exact h18 n hn) (fun n hn => by rw [f19]; exact h19 n hn)
theorem mvG_mo {c : Nat} (A w : Nat → Int32) (S : Nat → Int32) : ∀ k, MO k c S (mvG A w k S)
  | 0 => MO.rf
  | k + 1 => by
    unfold mvG
    split
    · exact (mvG_mo A w S k).le (Nat.le_succ k)
    · exact (mvG_mo A w S k).trans (sp_enter_mo _ _ _)
theorem belt_both {B c f r : Nat} {S : Nat → Int32} {σ μ : mm_M} (hW : WF B c f S) (hr : r < 6) (hR : RS c f σ r S) : ∃ S1 σ1 μ1, fx_X0_carry r σ = some (0, σ1) ∧ fx_X11_belts (mw μ S) = some (0, mw μ1 S1) ∧ WF B c f S1 ∧ RS c f σ1 r S1 ∧ S1 1 = S 1 ∧ MO 4 c S S1 := by
  have hc4 := hW.c4
  obtain ⟨σ1, A, e1, h1, h2, h3, h4⟩ := cc_carry hW hr hR
  obtain ⟨μ1, D, e2, g0, g2, g3, g4⟩ := mo_belts μ hW
  obtain ⟨σ2, e3, e4, h5⟩ := mvc_L hW hr (fix_eq h2 h3 h4 g2 g3 g4) (fun _ _ => rfl) g0 c 0 mm_FU mm_FU σ1 (by omega) (by unfold mm_FU; omega) (by unfold mm_FU; omega) h1.1 h1.2.2 (fun _ _ => rfl)
  exact ⟨_, σ2, μ1, e1.trans e3, e2.trans e4, mvG_wf hW (St.of h2 h3 h4), h5, mvG_un c (fun m hm => ⟨by omega, by omega⟩), (mvG_mo _ _ S c).le hc4⟩
