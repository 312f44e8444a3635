/-! fault and play: what a text leads to is a matter of its characters and of the state's numbers -/
def mT (L : Nat) (ch : Nat → Nat) : mm_M := fun _ t _ i => if t = 35 then nI (ch i) else if t = 30 ∧ i = 6 then nI L else 0
theorem do_x {k L : Nat} {σ : mm_M} {S : Nat → Int32} {ch : Nat → Nat} (hk : k < 512) (hG : GS (JB k) σ 1 S) (hT : TC σ L ch) : AO (JB k + 60) L (fx_X5_doAll 1 σ) (fx_X11_doesAll (mw (mT L ch) S)) :=
  doAll_both (by unfold JB; omega) (by unfold JB; omega) hG ⟨hT.1, hT.2.1, rfl, fun i hi => ⟨(hT.2.2 i hi).1, rfl, (hT.2.2 i hi).2⟩⟩
theorem do_cf {σ σ1 : mm_M} {v : Int32} (e : fx_X5_doAll 1 σ = some (v, σ1)) : CF σ σ1 := fun q t n i hh => fr_X5_doAll 1 σ v σ1 e q t n i (by unfold fw_X5_doAll; omega)
/-- what the orders of a text come to: well (d orders), or broken (place, reason, cause) -/
def WL (L : Nat) (d : Nat) (σb : mm_M) : Prop := 2 * d ≤ L ∧ σb 9 26 0 4 = 0 ∧ σb 9 26 0 2 = nI d
def BR (L : Nat) (p : Nat) (rs cs : Int32) (σb : mm_M) : Prop := p < L ∧ σb 9 26 0 3 = nI p ∧ σb 9 26 0 4 = rs ∧ σb 9 26 0 5 = cs ∧ ((rs = 1 ∧ ∃ q, p + q ≤ L ∧ cs = nI q) ∨ (rs = 2 ∧ er cs))
theorem do_all {k L : Nat} {S : Nat → Int32} {ch : Nat → Nat} (hk : k < 512) {σ0 : mm_M} (hG0 : GS (JB k) σ0 1 S) (hT0 : TC σ0 L ch) : (∃ d, 2 * d ≤ L ∧ ∀ σ, GS (JB k) σ 1 S → TC σ L ch → ∃ σb S1, fx_X5_doAll 1 σ = some (0, σb) ∧ WL L d σb ∧ GS (JB k + 60) σb 1 S1) ∨ (∃ p rs cs, p < L ∧ ((rs = 1 ∧ ∃ q, p + q ≤ L ∧ cs = nI q) ∨ (rs = 2 ∧ er cs)) ∧ ∀ σ, GS (JB k) σ 1 S → TC σ L ch → ∃ σb, fx_X5_doAll 1 σ = some (0, σb) ∧ BR L p rs cs σb) := by
  obtain ⟨w0, σb0, μ0, S0, e0, y0, h0⟩ := do_x hk hG0 hT0
  have same : ∀ {w : Int32} {μ1 : mm_M} {S1 : Nat → Int32}, fx_X11_doesAll (mw (mT L ch) S) = some (w, mw μ1 S1) → w = w0 ∧ ∀ i, μ1 10 30 0 i = μ0 10 30 0 i := by
    intro w μ1 S1 y
    rw [y0] at y
    have h := Option.some.inj y
    have h1 : w0 = w := congrArg Prod.fst h
    have h2 : mw μ0 S0 = mw μ1 S1 := congrArg Prod.snd h
    refine ⟨h1.symm, fun i => ?_⟩
    have h3 := congrFun (congrFun (congrFun (congrFun h2 10) 30) 0) i
    rw [mw_oth μ0 S0 (by omega), mw_oth μ1 S1 (by omega)] at h3
    exact h3.symm
  rcases h0 with ⟨hw, a1, ⟨d, hd, a2, a3⟩, _⟩ | ⟨hw, a1, ⟨p, hp, a2, a3⟩, hc⟩
  · refine Or.inl ⟨d, hd, fun σ hG hT => ?_⟩
    obtain ⟨w, σb, μ1, S1, e, y, h⟩ := do_x hk hG hT
    obtain ⟨ew, em⟩ := same y
    rcases h with ⟨_, b1, ⟨d2, hd2, b2, b3⟩, G⟩ | ⟨hw2, _⟩
    · have : d2 = d := (nI_e (a := d2) (b := d) (by have := hT.1; omega) (by have := hT.1; omega)).mp (b3.symm.trans ((em 15).trans a3))
      subst this
      exact ⟨σb, S1, e, ⟨hd2, b1, b2⟩, G⟩
    · rw [hw2, hw] at ew
      exact absurd ew (by decide)
  · have fin : ∀ (rs cs : Int32), σb0 9 26 0 4 = rs → σb0 9 26 0 5 = cs → ((rs = 1 ∧ ∃ q, p + q ≤ L ∧ cs = nI q) ∨ (rs = 2 ∧ er cs)) → (∀ σb μ1 : mm_M, (∀ i, μ1 10 30 0 i = μ0 10 30 0 i) → ((σb 9 26 0 4 = 1 ∧ μ1 10 30 0 17 = 0 ∧ σb 9 26 0 5 = μ1 10 30 0 13 - μ1 10 30 0 14) ∨ (σb 9 26 0 4 = 2 ∧ μ1 10 30 0 17 = 1 ∧ σb 9 26 0 5 = μ1 10 30 0 16 ∧ er (σb 9 26 0 5))) → σb 9 26 0 4 = rs ∧ σb 9 26 0 5 = cs) → ∃ p rs cs, p < L ∧ ((rs = 1 ∧ ∃ q, p + q ≤ L ∧ cs = nI q) ∨ (rs = 2 ∧ er cs)) ∧ ∀ σ, GS (JB k) σ 1 S → TC σ L ch → ∃ σb, fx_X5_doAll 1 σ = some (0, σb) ∧ BR L p rs cs σb := by
      intro rs cs _ _ hrc hdet
      refine ⟨p, rs, cs, hp, hrc, fun σ hG hT => ?_⟩
      obtain ⟨w, σb, μ1, S1, e, y, h⟩ := do_x hk hG hT
      obtain ⟨ew, em⟩ := same y
      rcases h with ⟨hw2, _⟩ | ⟨_, b1, _, hc2⟩
      · rw [hw2, hw] at ew
        exact absurd ew (by decide)
      · obtain ⟨c1, c2⟩ := hdet σb μ1 em hc2
        exact ⟨σb, e, hp, b1.trans ((em 14).trans (a1.symm.trans a2)), c1, c2, hrc⟩
    right
    rcases hc with ⟨b1, b2, b3⟩ | ⟨b1, b2, b3, b4⟩
    · obtain ⟨q, hq, eq⟩ := a3 b1
      refine fin 1 (nI q) b1 eq (Or.inl ⟨rfl, q, hq, rfl⟩) (fun σb μ1 em hh => ?_)
      rcases hh with ⟨c1, c2, c3⟩ | ⟨c1, c2, _⟩
      · exact ⟨c1, by rw [c3, em, em, ← b3]; exact eq⟩
      · rw [em, b2] at c2
        exact absurd c2 (by decide)
    · refine fin 2 (σb0 9 26 0 5) b1 rfl (Or.inr ⟨rfl, b4⟩) (fun σb μ1 em hh => ?_)
      rcases hh with ⟨c1, c2, c3⟩ | ⟨c1, c2, c3, _⟩
      · rw [em, b2] at c2
        exact absurd c2 (by decide)
      · exact ⟨c1, by rw [c3, em, ← b3]⟩
def playOp (s : mm_M) : mm_R := mm_bd (fx_X5_doAll 1 s) fun _ s_2 => if s_2 9 26 0 4 = 0 then some (s_2 9 26 0 2, s_2) else some (-1000002, s_2)
theorem play_op (σ : mm_M) : fx_X10_play σ = (mm_bd (fx_X10_freshTrial σ) fun _ s_1 => (mm_bd (playOp s_1) fun r_2 s_2 => (mm_bd (fx_X10_keep r_2 s_2) fun r_3 s_3 => (some (r_3, s_3))))) := by
  rw [fx_X10_play]
  refine congrArg (mm_bd (fx_X10_freshTrial σ)) (funext fun _ => funext fun s => ?_)
  rw [playOp]
  cases fx_X5_doAll 1 s with
  | none => rfl
  | some y =>
    obtain ⟨v, s2⟩ := y
    rw [mm_bd_some, mm_bd_some, fx_X5_isFaulty]
    by_cases h : s2 9 26 0 4 = 0
    · rw [if_pos h, mm_bd_some, if_pos rfl, if_pos h, mm_bd_some, fx_X10_play_J34]
    · rw [if_neg h, mm_bd_some, if_neg (show ¬ (1 : Int32) = 0 by decide), if_neg h, mm_bd_some, fx_X10_play_J34]
theorem playOp_cf {σ σ1 : mm_M} {v : Int32} (e : playOp σ = some (v, σ1)) : CF σ σ1 := by
  rw [playOp] at e
  obtain ⟨a, s1, e1, e⟩ := mm_bd_ok e
  have C := do_cf e1
  by_cases h : s1 9 26 0 4 = 0
  · rw [if_pos h] at e
    obtain ⟨rfl, rfl⟩ := mm_ret e
    exact C
  · rw [if_neg h] at e
    obtain ⟨rfl, rfl⟩ := mm_ret e
    exact C
theorem q_fault {j L : Nat} {σ σa σb : mm_M} (hj : j < 3) (ea : fx_X10_freshTrial σ = some (0, σa)) (e : fx_X5_doAll 1 σa = some (0, σb)) : fx_X10_fault (nI j) σ = some (if σb 9 26 0 4 = 0 then -1000004 else if j = 0 then σb 9 26 0 3 else if j = 1 then σb 9 26 0 4 else σb 9 26 0 5, σb) := by
  have hj3 : (0 : Int32) ≤ nI j ∧ nI j ≤ 2 := ⟨nI_pos' (by omega), (nI_g (b := 2) (by omega) (by omega)).mpr (by omega)⟩
  rw [fx_X10_fault, cc_isWithin, mm_bd_some, if_pos hj3, if_neg (show ¬ (1 : Int32) = 0 by decide), ea, mm_bd_some, e, mm_bd_some, fx_X5_isFaulty]
  by_cases h : σb 9 26 0 4 = 0
  · rw [if_pos h, if_pos h, mm_bd_some, if_pos rfl]
  · rw [if_neg h, if_neg h, mm_bd_some, if_neg (show ¬ (1 : Int32) = 0 by decide)]
    rcases (show j = 0 ∨ j = 1 ∨ j = 2 by omega) with rfl | rfl | rfl
    · rw [if_pos (show nI 0 = (0 : Int32) from rfl)]
      rfl
    · rw [if_neg (show ¬ nI 1 = (0 : Int32) by decide), if_pos (show nI 1 = (1 : Int32) from rfl)]
      rfl
    · rw [if_neg (show ¬ nI 2 = (0 : Int32) by decide), if_neg (show ¬ nI 2 = (1 : Int32) by decide)]
      rfl
/-- a text is played just if it has no fault -/
theorem text_x {k N L : Nat} {σ0 : mm_M} {R : Nat → Nat → Int32} {S : Nat → Int32} {ch : Nat → Nat} (hk : k < 512) (h0 : KS k σ0 N R S L ch) : (∃ d, 2 * d ≤ L ∧ ∀ σ, KS k σ N R S L ch → (∀ j, j < 3 → ∃ σ1, fx_X10_fault (nI j) σ = some (-1000004, σ1) ∧ CF σ σ1) ∧ ∃ σ1 S1, fx_X10_play σ = some (nI d, σ1) ∧ KS (k + 1) σ1 (pN N) (pR N R S) S1 L ch) ∨ (∃ p rs cs, p < L ∧ ((rs = 1 ∧ ∃ q, p + q ≤ L ∧ cs = nI q) ∨ (rs = 2 ∧ er cs)) ∧ ∀ σ, KS k σ N R S L ch → (∀ j, j < 3 → ∃ σ1, fx_X10_fault (nI j) σ = some (if j = 0 then nI p else if j = 1 then rs else cs, σ1) ∧ CF σ σ1) ∧ ∃ σ1, fx_X10_play σ = some (-1000002, σ1) ∧ KS (k + 1) σ1 N R S L ch) := by
  have tr : ∀ σ, KS k σ N R S L ch → ∃ σa, fx_X10_freshTrial σ = some (0, σa) ∧ CF σ σa ∧ GS (JB k) σa 1 S ∧ TC σa L ch := by
    intro σ hK
    obtain ⟨σa, ea, ca, fa, cf⟩ := fresh_cf (σ := σ)
    exact ⟨σa, ea, cf, hK.2.1.copy ca, hK.2.2.congr (fa _ _ _ _ (by omega)) (fun i => fa _ _ _ _ (by omega))⟩
  obtain ⟨σa0, _, _, G0, T0⟩ := tr σ0 h0
  rcases do_all hk G0 T0 with ⟨d, hd, hall⟩ | ⟨p, rs, cs, hp, hrc, hall⟩
  · refine Or.inl ⟨d, hd, fun σ hK => ⟨fun j hj => ?_, ?_⟩⟩
    · obtain ⟨σa, ea, cf, G, T⟩ := tr σ hK
      obtain ⟨σb, S1, eb, hw, _⟩ := hall σa G T
      refine ⟨σb, ?_, cf.trans (do_cf eb)⟩
      rw [q_fault (L := L) hj ea eb, if_pos hw.2.1]
    · have A : AC k N R S L ch (fun v => v = nI d) (fun _ _ => True) (fx_X10_play σ) := by
        rw [play_op]
        refine act_c (op := playOp) (B2 := JB k + 60) hK (by omega) (by rw [JB_up]; exact Nat.le_refl _) (fun σ1 hG hT => ?_) (fun σ v σ1 e => playOp_cf e)
        obtain ⟨σb, S1, eb, hw, g⟩ := hall σ1 hG hT
        refine ⟨nI d, σb, ?_, rfl, Or.inl ⟨d, S1, by have := hT.1; omega, rfl, g, trivial⟩⟩
        rw [playOp, eb, mm_bd_some, if_pos hw.2.1, hw.2.2]
      obtain ⟨v, σ1, e, hv, hh⟩ := A
      rcases hh with ⟨t, S1, _, _, hK1, _⟩ | ⟨he, _⟩
      · exact ⟨σ1, S1, by rw [e, hv], hK1⟩
      · exfalso
        have hn := nI_pos (n := d) (by have := hK.2.2.1; omega)
        rw [hv] at he
        rcases he with z | z | z <;> (rw [z] at hn; exact hn (by decide))
  · refine Or.inr ⟨p, rs, cs, hp, hrc, fun σ hK => ⟨fun j hj => ?_, ?_⟩⟩
    · obtain ⟨σa, ea, cf, G, T⟩ := tr σ hK
      obtain ⟨σb, eb, b1, b2, b3, b4, b5⟩ := hall σa G T
      refine ⟨σb, ?_, cf.trans (do_cf eb)⟩
      have hne : ¬ σb 9 26 0 4 = 0 := by
        rw [b3]
        rcases hrc with ⟨z, _⟩ | ⟨z, _⟩ <;> (rw [z]; decide)
      rw [q_fault (L := L) hj ea eb, if_neg hne, b2, b3, b4]
    · have A : AC k N R S L ch (fun v => v = -1000002) (fun _ _ => True) (fx_X10_play σ) := by
        rw [play_op]
        refine act_c (op := playOp) (B2 := JB k + 60) hK (by omega) (by rw [JB_up]; exact Nat.le_refl _) (fun σ1 hG hT => ?_) (fun σ v σ1 e => playOp_cf e)
        obtain ⟨σb, eb, b1, b2, b3, b4, b5⟩ := hall σ1 hG hT
        have hne : ¬ σb 9 26 0 4 = 0 := by
          rw [b3]
          rcases hrc with ⟨z, _⟩ | ⟨z, _⟩ <;> (rw [z]; decide)
        refine ⟨-1000002, σb, ?_, rfl, Or.inr (Or.inr (Or.inl rfl))⟩
        rw [playOp, eb, mm_bd_some, if_neg hne]
      obtain ⟨v, σ1, e, hv, hh⟩ := A
      rcases hh with ⟨t, S1, ht, z, _⟩ | ⟨_, hK1⟩
      · exfalso
        have hn := nI_pos (n := t) (by omega)
        rw [← z, hv] at hn
        exact hn (by decide)
      · exact ⟨σ1, by rw [e, hv], hK1⟩
