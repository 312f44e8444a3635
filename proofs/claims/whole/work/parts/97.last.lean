/-! fault and play -/
theorem TX.tl {σ μ : mm_M} (h : TX σ μ) : ∃ L ch, TL σ μ L ch := by
  obtain ⟨L, h1, h2, h3, h4⟩ := h
  refine ⟨L, fun i => (σ 8 24 0 i).toNatClampNeg, h1, h2, h3, fun i hi => ?_⟩
  obtain ⟨e, c, c1, c2, ec⟩ := h4 i hi
  have : (σ 8 24 0 i).toNatClampNeg = c := by rw [ec]; exact nI_cl (by omega)
  show σ 8 24 0 i = nI (σ 8 24 0 i).toNatClampNeg ∧ μ 10 35 0 i = nI (σ 8 24 0 i).toNatClampNeg ∧ 32 ≤ (σ 8 24 0 i).toNatClampNeg ∧ (σ 8 24 0 i).toNatClampNeg < 127
  rw [this]
  exact ⟨ec, e.symm.trans ec, c1, c2⟩
theorem J_fault {k : Nat} (hk : k < 512) {σ : mm_M} (hJ : JJ k σ) (x : Int32) : ∃ v σ1 σ2, fx_X10_fault x σ = some (v, σ1) ∧ fx_X11_fault x σ1 = some (v, σ2) ∧ JJ (k + 1) σ2 := by
  refine ask_gen (cl := fx_X10_fault x) (mo := fx_X11_fault x) hJ (fun μ hμ => ?_)
  obtain ⟨_, hG, hT⟩ := hJ
  rw [fx_X10_fault, cc_isWithin, mm_bd_some, fx_X11_fault, md_in, mm_bd_some]
  by_cases hx : (0 : Int32) ≤ x ∧ x ≤ 2
  · obtain ⟨σa, ea, ca, fa, cfa⟩ := fresh_cf (σ := σ)
    obtain ⟨μ1, em, begun, fm⟩ := mo_begins μ (σ 10 31 0)
    obtain ⟨L, ch, hL⟩ := (hT.congr (σ1 := σa) (μ1 := μ1) (fa _ _ _ _ (by omega)) (fun i => fa _ _ _ _ (by omega)) ((fm _ _ _ _ (by omega)).trans hμ.1) (fun i => (fm _ _ _ _ (by omega)).trans (hμ.2 i))).tl
    obtain ⟨w, σb, μ2, S2, e1, e2, hh⟩ := doAll_both (S := σ 10 31 0) (by unfold JB; omega) (by unfold JB; omega) (hG.copy ca) hL
    have F : MF μ1 μ2 := MF.mw (fun q t n i hq => fr_X11_doesAll _ w _ e2 q t n i (by unfold fw_X11_doesAll; omega))
    have C : CF σa σb := fun q t n i hq => fr_X5_doAll 1 σa _ σb e1 q t n i (by unfold fw_X5_doAll; omega)
    obtain ⟨T1, e3, t3⟩ := mo_returns μ2 S2
    have tt : ∀ i, i < 207 → T1 i = σ 10 31 0 i := fun i hi => (t3 i hi).trans ((F _ _ _ _ (by omega)).trans (begun i hi))
    have M : MG μ μ2 := MG.trans (fun q t n i hh => fm q t n i (by omega)) F.mg
    have oth : ∀ j, mw μ2 T1 10 30 0 j = μ2 10 30 0 j := fun j => by rw [mw_oth μ2 T1 (by omega)]
    rw [if_pos hx, if_neg (show ¬ (1 : Int32) = 0 by decide), if_neg (show ¬ (1 : Int32) = 0 by decide), ea, mm_bd_some, e1, mm_bd_some, em, mm_bd_some, e2, mm_bd_some, e3, mm_bd_some, fx_X5_isFaulty]
    rcases hh with ⟨rfl, a1, _, _⟩ | ⟨rfl, a1, hc⟩
    · rw [if_pos a1, mm_bd_some, if_pos rfl, if_neg (show ¬ (1 : Int32) = 0 by decide)]
      exact ⟨_, σb, μ2, T1, rfl, rfl, cfa.trans C, M, tt⟩
    · have hne : ¬ σb 9 26 0 4 = 0 := by
        rcases hc with ⟨h, _⟩ | ⟨h, _⟩ <;> (rw [h]; decide)
      rw [if_neg hne, mm_bd_some, if_neg (show ¬ (1 : Int32) = 0 by decide), if_pos (show (0 : Int32) = 0 from rfl), oth, oth, oth, oth]
      by_cases x0 : x = 0
      · rw [if_pos x0, if_pos x0, a1]
        exact ⟨_, σb, μ2, T1, rfl, rfl, cfa.trans C, M, tt⟩
      · rw [if_neg x0, if_neg x0]
        rcases hc with ⟨b1, b2, b3⟩ | ⟨b1, b2, b3⟩
        · by_cases x1 : x = 1
          · rw [if_pos x1, if_pos x1, b1, if_pos b2]
            exact ⟨_, σb, μ2, T1, rfl, rfl, cfa.trans C, M, tt⟩
          · rw [if_neg x1, if_neg x1, b3, if_pos b2]
            exact ⟨_, σb, μ2, T1, rfl, rfl, cfa.trans C, M, tt⟩
        · have b2' : ¬ μ2 10 30 0 17 = 0 := by rw [b2]; decide
          by_cases x1 : x = 1
          · rw [if_pos x1, if_pos x1, b1, if_neg b2']
            exact ⟨_, σb, μ2, T1, rfl, rfl, cfa.trans C, M, tt⟩
          · rw [if_neg x1, if_neg x1, b3, if_neg b2']
            exact ⟨_, σb, μ2, T1, rfl, rfl, cfa.trans C, M, tt⟩
  · rw [if_neg hx, if_pos rfl, if_pos rfl]
    exact ⟨_, σ, μ, σ 10 31 0, rfl, rfl, fun _ _ _ _ _ => rfl, MG.rf, fun _ _ => rfl⟩
def playOp (s : mm_M) : mm_R := mm_bd (fx_X5_doAll 1 s) fun _ s_2 => if s_2 9 26 0 4 = 0 then some (s_2 9 26 0 2, s_2) else some (-1000002, s_2)
def playTail (s : mm_M) : mm_R := mm_bd (fx_X11_doesAll s) fun r_2 s_2 => if r_2 = (0 : Int32) then fx_X11_play_J21 (-1000002 : Int32) s_2 else fx_X11_play_J21 (s_2 10 30 0 15) s_2
theorem play_op (σ : mm_M) : fx_X10_play σ = (mm_bd (fx_X10_freshTrial σ) fun _ s_1 => (mm_bd (playOp s_1) fun r_2 s_2 => (mm_bd (fx_X10_keep r_2 s_2) fun r_3 s_3 => (some (r_3, s_3))))) := by
  rw [fx_X10_play]
  refine congrArg (mm_bd (fx_X10_freshTrial σ)) (funext fun _ => funext fun s => ?_)
  rw [playOp]
  cases fx_X5_doAll 1 s with
  | none => rfl
  | some y =>
    obtain ⟨v, s2⟩ := y
    rw [mm_bd_some, mm_bd_some, fx_X5_isFaulty]
    by_cases h : s2 9 26 0 4 = 0
    · rw [if_pos h, mm_bd_some, if_pos rfl, if_pos h, mm_bd_some, fx_X10_play_J34]
    · rw [if_neg h, mm_bd_some, if_neg (show ¬ (1 : Int32) = 0 by decide), if_neg h, mm_bd_some, fx_X10_play_J34]
theorem J_play {k : Nat} (hk : k < 512) {σ : mm_M} (hJ : JJ k σ) : ∃ v σ1 σ2, fx_X10_play σ = some (v, σ1) ∧ fx_X11_play σ1 = some (v, σ2) ∧ JJ (k + 1) σ2 := by
  rw [play_op]
  refine act_gen (op := playOp) (tail := playTail) (B2 := JB k + 60) hJ (by omega) (by rw [JB_up]; exact Nat.le_refl _) (fun σ1 μ S hG ht hb => ?_) (fun σ v σ1 e => ?_)
  · obtain ⟨L, ch, hL⟩ := (hJ.2.2.congr (σ1 := σ1) (μ1 := μ) ht.1 ht.2.1 ht.2.2.1 ht.2.2.2).tl
    obtain ⟨w, σb, μ2, S2, e1, e2, hh⟩ := doAll_both (S := S) (by unfold JB; omega) (by unfold JB; omega) hG hL
    have F : MF μ μ2 := MF.mw (fun q t n i hq => fr_X11_doesAll _ w _ e2 q t n i (by unfold fw_X11_doesAll; omega))
    unfold TB
    rw [playOp, e1, mm_bd_some, playTail, e2, mm_bd_some]
    rcases hh with ⟨rfl, a1, ⟨d, hd, a2, a3⟩, G2⟩ | ⟨rfl, a1, hc⟩
    · have o15 : mw μ2 S2 10 30 0 15 = nI d := by rw [mw_oth μ2 S2 (by omega)]; exact a3
      rw [if_pos a1, a2, if_neg (show ¬ (1 : Int32) = 0 by decide), o15, fx_X11_play_J21, bd_id]
      exact ⟨nI d, σb, rfl, Or.inl ⟨d, μ2, S2, by omega, rfl, rfl, F, G2⟩⟩
    · have hne : ¬ σb 9 26 0 4 = 0 := by
        rcases hc with ⟨h, _⟩ | ⟨h, _⟩ <;> (rw [h]; decide)
      have he : er (-1000002) := Or.inr (Or.inl rfl)
      obtain ⟨T1, x1, x2⟩ := acted_er (T := S2) he (fun i hi => (F _ _ _ _ (by omega)).trans (hb i hi))
      rw [if_neg hne, if_pos rfl, fx_X11_play_J21, bd_id]
      exact ⟨-1000002, σb, rfl, Or.inr ⟨he, μ2, T1, x1, F, x2⟩⟩
  · rw [playOp] at e
    cases hd : fx_X5_doAll 1 σ with
    | none =>
      rw [hd] at e
      have e' : (none : mm_R) = some (v, σ1) := e
      cases e'
    | some y =>
      obtain ⟨v2, s2⟩ := y
      have C : CF σ s2 := fun q t n i hq => fr_X5_doAll 1 σ _ s2 hd q t n i (by unfold fw_X5_doAll; omega)
      rw [hd, mm_bd_some] at e
      by_cases h : s2 9 26 0 4 = 0
      · rw [if_pos h] at e
        have := congrArg Prod.snd (Option.some.inj e)
        have e' : s2 = σ1 := this
        rw [← e']
        exact C
      · rw [if_neg h] at e
        have := congrArg Prod.snd (Option.some.inj e)
        have e' : s2 = σ1 := this
        rw [← e']
        exact C
