/-! one act of the law -/
section PQ
variable {k N L : Nat} {σ : mm_M} {R : Nat → Nat → Int32} {S : Nat → Int32} {ch : Nat → Nat}
theorem p_59 {x y : Int32} (hk : k < 512) (hK : KS k σ N R S L ch) {h kk q o pl : Nat} (hh : h < 20) (hkk : kk ≤ cN S) (hq : q < 66) (ho : o = if q ≤ 63 then 0 else 1) (hpl : pl = if q ≤ 63 then q else 0) : ∃ σ1, fx_L_acts_J59 x y (nI h) (nI (cN S)) (nI kk) (nI q) (nI o) (nI pl) σ = some (1, σ1) ∧ OUT k N R S σ1 := by
  obtain ⟨c, f, ph, hW, hR, hp, hph, hX⟩ := id hK.2.1
  have hcN := cN_eq hW
  have hc4 := hW.c4
  have hf4 := hW.f4
  have hpl64 : pl < 64 := by rw [hpl]; split <;> omega
  have ne : ∀ a : Nat, a < 20 → h ≠ a → ¬ nI h = nI a := fun a ha hne z => hne ((nI_e (by omega) (by omega)).mp z)
  have ge : ∀ a : Nat, a < 20 → a ≤ h → nI a ≤ nI h := fun a ha hle => (nI_g (by omega) (by omega)).mpr hle
  have lt : ∀ a : Nat, a < 20 → h < a → ¬ nI a ≤ nI h := fun a ha hl z => absurd ((nI_g (by omega) (by omega)).mp z) (by omega)
  rw [fx_L_acts_J59]
  by_cases h3 : 3 ≤ h
  · rw [if_pos (show (3 : Int32) ≤ nI h from ge 3 (by omega) h3)]
    by_cases h6 : 6 ≤ h
    · rw [if_pos (show (6 : Int32) ≤ nI h from ge 6 (by omega) h6)]
      by_cases e6 : h = 6
      · -- wall
        obtain ⟨w, hw, ew⟩ := p_low (y >>> ((7 : Int32) &&& 31)) (show 0 < 5 by omega) (by omega) σ
        obtain ⟨v, σ1, e, hv, hout⟩ := (A_wall hK (nI q) (nI w)).out
        have q1 : fx_X10_cellOf (nI pl) (1 : Int32) σ = some (S (75 + pl), σ) := q_cell (j := 1) hK.2.1 hpl64 (by omega)
        have fin : ∀ z : Int32, z = v → fx_L_acts_J331 x y v z σ1 = some (1, σ1) := fun z hz => by rw [fx_L_acts_J331, if_pos hz.symm]
        refine ⟨σ1, ?_, hout⟩
        rw [if_pos (show nI h = 6 by rw [e6]; rfl), show fx_L_low (y >>> ((7 : Int32) &&& 31)) 5 σ = _ from ew, mm_bd_some, q1, mm_bd_some, e, mm_bd_some]
        by_cases hb : q ≤ 63
        · rw [if_pos hb] at ho hpl
          subst hpl
          have hqq : (nI pl).toNatClampNeg = pl := nI_cl (by omega)
          rw [ho, if_pos (show nI 0 = (0 : Int32) from rfl)]
          by_cases h4 : w = 4
          · rw [if_pos (show nI w = 4 by rw [h4]; rfl)]
            refine fin _ ?_
            rw [hv]
            unfold vWall
            rw [if_neg]
            rintro ⟨_, _, z⟩
            have := (nI_g (a := w) (b := 3) (by omega) (by omega)).mp z
            omega
          · rw [if_neg (show ¬ nI w = (4 : Int32) from ne_lit (b := 4) rfl h4 (by omega) (by omega))]
            refine fin _ ?_
            rw [hv]
            unfold vWall
            rw [if_pos ⟨cell64 hb, nI_pos' (by omega), (nI_g (b := 3) (by omega) (by omega)).mpr (by omega)⟩, hqq]
        · rw [if_neg hb] at ho
          rw [ho, if_neg (show ¬ nI 1 = (0 : Int32) by decide)]
          refine fin _ ?_
          rw [hv]
          unfold vWall
          rw [if_neg]
          rintro ⟨⟨_, z⟩, _⟩
          exact hb ((nI_g (a := q) (b := 63) (by omega) (by omega)).mp z)
      · rw [if_neg (show ¬ nI h = (6 : Int32) from ne 6 (by omega) e6)]
        by_cases e7 : h = 7
        · -- flag
          obtain ⟨w, hw, ew⟩ := p_low (y >>> ((7 : Int32) &&& 31)) (show 0 < 5 by omega) (by omega) σ
          obtain ⟨v, σ1, e, hv, hout⟩ := (A_flag hK (nI w) (nI q)).out
          have c3 : fx_X10_count (3 : Int32) σ = some (S 3, σ) := q_count (j := 3) hK (by omega)
          have fin : ∀ z : Int32, z = v → fx_L_acts_J415 x y v z σ1 = some (1, σ1) := fun z hz => by rw [fx_L_acts_J415, if_pos hz.symm]
          refine ⟨σ1, ?_, hout⟩
          rw [if_pos (show nI h = 7 by rw [e7]; rfl), show fx_L_low (y >>> ((7 : Int32) &&& 31)) 5 σ = _ from ew, mm_bd_some, c3, mm_bd_some, e, mm_bd_some]
          by_cases hb : q ≤ 63
          · rw [if_pos hb] at ho
            rw [ho, if_pos (show nI 0 = (0 : Int32) from rfl)]
            by_cases h4 : w = 4
            · rw [if_pos (show nI w = 4 by rw [h4]; rfl)]
              refine fin _ ?_
              rw [hv]
              unfold vFlag
              rw [if_neg]
              rintro ⟨⟨_, z⟩, _⟩
              have := (nI_g (a := w) (b := 3) (by omega) (by omega)).mp z
              omega
            · have hval : v = if S 3 < nI w then -1000002 else if nI w = S 3 then S 3 + 1 else S 3 := by
                rw [hv]
                unfold vFlag
                rw [if_pos ⟨⟨nI_pos' (by omega), (nI_g (b := 3) (by omega) (by omega)).mpr (by omega)⟩, cell64 hb⟩]
              rw [if_neg (show ¬ nI w = (4 : Int32) from ne_lit (b := 4) rfl h4 (by omega) (by omega))]
              by_cases hle : nI w ≤ S 3
              · rw [if_pos hle]
                rw [if_neg (Int32.not_lt.mpr hle)] at hval
                by_cases heq : nI w = S 3
                · rw [if_pos heq]
                  rw [if_pos heq] at hval
                  exact fin _ hval.symm
                · rw [if_neg heq]
                  rw [if_neg heq] at hval
                  exact fin _ hval.symm
              · rw [if_neg hle]
                rw [if_pos (i32_nle hle)] at hval
                exact fin _ hval.symm
          · rw [if_neg hb] at ho
            rw [ho, if_neg (show ¬ nI 1 = (0 : Int32) by decide)]
            refine fin _ ?_
            rw [hv]
            unfold vFlag
            rw [if_neg]
            rintro ⟨_, _, z⟩
            exact hb ((nI_g (a := q) (b := 63) (by omega) (by omega)).mp z)
        · rw [if_neg (show ¬ nI h = (7 : Int32) from ne 7 (by omega) e7)]
          by_cases h12 : 12 ≤ h
          · rw [if_pos (show (12 : Int32) ≤ nI h from ge 12 (by omega) h12)]
            by_cases e12 : h = 12
            · -- damage
              obtain ⟨w, hw, ew⟩ := p_low y (show 0 < 21 by omega) (by omega) σ
              obtain ⟨σ1, hu, hout⟩ := p_damage (x := x) (y := y) (b := nI w - 10) hK hkk
              refine ⟨σ1, ?_, hout⟩
              rw [if_pos (show nI h = 12 by rw [e12]; rfl), show fx_L_low y 21 σ = _ from ew, mm_bd_some, mm_li_e]
              by_cases hc : kk = cN S
              · rw [if_pos (show nI kk = nI (cN S) by rw [hc])]
                exact hu 1 (by rw [if_pos (Or.inl hc)])
              · rw [if_neg (fun z => hc ((nI_e (by omega) (by omega)).mp z))]
                by_cases h9 : nI w - 10 < (-9 : Int32)
                · rw [if_pos h9]
                  exact hu 1 (by rw [if_pos (Or.inr (fun z => absurd h9 (Int32.not_lt.mpr z.1)))])
                · rw [if_neg h9]
                  by_cases h99 : nI w - 10 ≤ (9 : Int32)
                  · rw [if_pos h99]
                    exact hu 0 (by rw [if_neg (fun z => z.elim hc (fun z2 => z2 ⟨Int32.not_lt.mp h9, h99⟩))])
                  · rw [if_neg h99]
                    exact hu 1 (by rw [if_pos (Or.inr (fun z => h99 z.2))])
            · rw [if_neg (show ¬ nI h = (12 : Int32) from ne 12 (by omega) e12)]
              by_cases h17 : 17 ≤ h
              · rw [if_pos (show (17 : Int32) ≤ nI h from ge 17 (by omega) h17)]
                by_cases e17 : h = 17
                · obtain ⟨X, hX4, eX⟩ := p_low y (show 0 < 4 by omega) (by omega) σ
                  rw [if_pos (show nI h = 17 by rw [e17]; rfl), show fx_L_low y 4 σ = _ from eX, mm_bd_some]
                  by_cases h0 : cN S = 0
                  · rw [if_pos (show nI (cN S) = 0 by rw [h0]; rfl)]
                    exact p_ask (to := 0) hk hK hpl64 hX4 (Or.inl ⟨h0, rfl⟩)
                  · obtain ⟨t, ht, et⟩ := p_low (y >>> ((2 : Int32) &&& 31)) (show 0 < cN S by omega) (by omega) σ
                    rw [if_neg (show ¬ nI (cN S) = (0 : Int32) from ne_lit (b := 0) rfl h0 (by omega) (by omega)), et, mm_bd_some]
                    exact p_ask hk hK hpl64 hX4 (Or.inr ht)
                · -- a text
                  obtain ⟨σ1, L1, ch1, e1, K1⟩ := p_types (x := y) hK
                  obtain ⟨σ2, e2, K2⟩ := p_reads hk K1
                  refine ⟨σ2, ?_, ?_⟩
                  · rw [if_neg (show ¬ nI h = (17 : Int32) from ne 17 (by omega) e17), e1, mm_bd_some, if_neg (show ¬ (1 : Int32) = 0 by decide), e2, mm_bd_some, if_neg (show ¬ (1 : Int32) = 0 by decide)]
                  · rcases K2 with K2 | ⟨S1, K2⟩
                    · exact Or.inl ⟨L1, ch1, K2⟩
                    · exact Or.inr ⟨S1, L1, ch1, K2⟩
              · -- phase and round
                have c1 : fx_X10_count (1 : Int32) σ = some (S 1, σ) := q_count (j := 1) hK (by omega)
                have c6 : fx_X10_count (6 : Int32) σ = some (S 5, σ) := q_count (j := 6) hK (by omega)
                rw [if_neg (show ¬ (17 : Int32) ≤ nI h from lt 17 (by omega) (by omega)), c1, mm_bd_some, c6, mm_bd_some]
                by_cases e16 : h = 16
                · have hA := A_round hk hK
                  obtain ⟨v, σ1, e, _⟩ := id hA
                  rw [e] at hA
                  obtain ⟨r1, r2⟩ := p_run (x := x) (y := y) (h := h) (d := 5 - S 1) hh (by rw [if_pos e16]) hK hA
                  refine ⟨σ1, ?_, r2⟩
                  rw [if_pos (show nI h = 16 by rw [e16]; rfl), e, mm_bd_some]
                  exact r1
                · have hA := A_phase hk hK
                  obtain ⟨v, σ1, e, _⟩ := id hA
                  rw [e] at hA
                  obtain ⟨r1, r2⟩ := p_run (x := x) (y := y) (h := h) (d := 1) hh (by rw [if_neg e16]) hK hA
                  refine ⟨σ1, ?_, r2⟩
                  rw [if_neg (show ¬ nI h = (16 : Int32) from ne 16 (by omega) e16), e, mm_bd_some]
                  exact r1
          · -- a card
            obtain ⟨i, hi, ei⟩ := p_low y (show 0 < 6 by omega) (by omega) σ
            obtain ⟨m, hm, em⟩ := p_low (y >>> ((3 : Int32) &&& 31)) (show 0 < 8 by omega) (by omega) σ
            obtain ⟨rk, hrk, erk⟩ := p_low (y >>> ((6 : Int32) &&& 31)) (show 0 < 30 by omega) (by omega) σ
            obtain ⟨σ1, hu, hout⟩ := p_card (x := x) (y := y) hK hkk hi hm hrk
            refine ⟨σ1, ?_, hout⟩
            rw [if_neg (show ¬ (12 : Int32) ≤ nI h from lt 12 (by omega) (by omega)), show fx_L_low y 6 σ = _ from ei, mm_bd_some, show fx_L_low (y >>> ((3 : Int32) &&& 31)) 8 σ = _ from em, mm_bd_some, show fx_L_low (y >>> ((6 : Int32) &&& 31)) 30 σ = _ from erk, mm_bd_some]
            by_cases hc : kk = cN S
            · rw [if_pos (show nI kk = nI (cN S) by rw [hc])]
              exact hu 1 (by rw [if_pos (Or.inl hc)])
            · rw [if_neg (fun z => hc ((nI_e (by omega) (by omega)).mp z))]
              by_cases h5 : i = 5
              · rw [if_pos (show nI i = 5 by rw [h5]; rfl)]
                exact hu 1 (by rw [if_pos (Or.inr (Or.inl h5))])
              · rw [if_neg (show ¬ nI i = (5 : Int32) from ne_lit (b := 5) rfl h5 (by omega) (by omega))]
                by_cases h7 : m = 7
                · rw [if_pos (show nI m = 7 by rw [h7]; rfl)]
                  exact hu 1 (by rw [if_pos (Or.inr (Or.inr (Or.inl h7)))])
                · rw [if_neg (show ¬ nI m = (7 : Int32) from ne_lit (b := 7) rfl h7 (by omega) (by omega))]
                  by_cases h0 : rk = 0
                  · rw [if_pos (show nI rk = 0 by rw [h0]; rfl)]
                    exact hu 1 (by rw [if_pos (Or.inr (Or.inr (Or.inr h0)))])
                  · rw [if_neg (show ¬ nI rk = (0 : Int32) from ne_lit (b := 0) rfl h0 (by omega) (by omega))]
                    exact hu 0 (by rw [if_neg (by omega)])
    · -- a kind
      obtain ⟨w, hw, ew⟩ := p_low (y >>> ((7 : Int32) &&& 31)) (show 0 < 10 by omega) (by omega) σ
      obtain ⟨σ1, hu, hout⟩ := p_kind (x := x) (y := y) hK hq hpl hw ho
      have q0 : fx_X10_cellOf (nI pl) (0 : Int32) σ = some (S (11 + pl), σ) := q_cell (j := 0) hK.2.1 hpl64 (by omega)
      obtain ⟨r, e2, hr⟩ := v_on hK hpl64
      refine ⟨σ1, ?_, hout⟩
      rw [if_neg (show ¬ (6 : Int32) ≤ nI h from lt 6 (by omega) (by omega)), show fx_L_low (y >>> ((7 : Int32) &&& 31)) 10 σ = _ from ew, mm_bd_some, q0, mm_bd_some, e2, mm_bd_some]
      by_cases hs : sp_on S pl (cN S) = -1
      · rw [if_pos (hr.mpr hs)]
        exact hu 0 (by rw [if_pos hs])
      · rw [if_neg (fun z => hs (hr.mp z))]
        exact hu 1 (by rw [if_neg hs])
  · -- a cart
    obtain ⟨w, hw, ew⟩ := p_low (y >>> ((7 : Int32) &&& 31)) (show 0 < 5 by omega) (by omega) σ
    obtain ⟨σ1, hu, hout⟩ := p_cart (x := x) (y := y) hK hq hpl hw
    refine ⟨σ1, ?_, hout⟩
    rw [if_neg (show ¬ (3 : Int32) ≤ nI h from lt 3 (by omega) (by omega)), show fx_L_low (y >>> ((7 : Int32) &&& 31)) 5 σ = _ from ew, mm_bd_some]
    by_cases hb : q ≤ 63
    · rw [if_pos hb] at ho
      rw [ho, if_pos (show nI 0 = (0 : Int32) from rfl)]
      by_cases h4 : w = 4
      · rw [if_pos (show nI w = 4 by rw [h4]; rfl)]
        exact hu 1 (by rw [if_neg (fun z => z.2 h4)])
      · rw [if_neg (show ¬ nI w = (4 : Int32) from ne_lit (b := 4) rfl h4 (by omega) (by omega))]
        exact hu 0 (by rw [if_pos ⟨hb, h4⟩])
    · rw [if_neg hb] at ho
      rw [ho, if_neg (show ¬ nI 1 = (0 : Int32) by decide)]
      exact hu 1 (by rw [if_neg (fun z => hb z.1)])
theorem p_acts (x y : Int32) (hk : k < 512) (hK : KS k σ N R S L ch) : ∃ σ1, fx_L_acts x y σ = some (1, σ1) ∧ OUT k N R S σ1 := by
  obtain ⟨c0, hc4⟩ := d_c hK
  obtain ⟨h, hh, eh⟩ := p_low x (show 0 < 20 by omega) (by omega) σ
  obtain ⟨kk, hkk, ek⟩ := p_low (x >>> ((5 : Int32) &&& 31)) (show 0 < cN S + 1 by omega) (by omega) σ
  obtain ⟨q, hq, eq⟩ := p_low y (show 0 < 66 by omega) (by omega) σ
  rw [fx_L_acts, show fx_L_low x 20 σ = _ from eh, mm_bd_some, c0, mm_bd_some, nI_1, ek, mm_bd_some, show fx_L_low y 66 σ = _ from eq, mm_bd_some]
  by_cases hb : q ≤ 63
  · rw [if_pos (show nI q ≤ (63 : Int32) from (nI_g (b := 63) (by omega) (by omega)).mpr hb), fx_L_acts_J46, if_pos rfl]
    exact p_59 (o := 0) hk hK hh (by omega) hq (by rw [if_pos hb]) (by rw [if_pos hb])
  · rw [if_neg (show ¬ nI q ≤ (63 : Int32) from fun z => hb ((nI_g (b := 63) (by omega) (by omega)).mp z)), fx_L_acts_J46, if_neg (show ¬ (1 : Int32) = 0 by decide)]
    exact p_59 (o := 1) (pl := 0) hk hK hh (by omega) hq (by rw [if_neg hb]) (by rw [if_neg hb])
end PQ
