/-! the invariant, and the methods that act -/
def TX (σ μ : mm_M) : Prop := ∃ L, L ≤ 60 ∧ σ 8 23 0 1 = nI L ∧ μ 10 30 0 6 = nI L ∧ ∀ i, i < L → σ 8 24 0 i = μ 10 35 0 i ∧ ∃ ch, 32 ≤ ch ∧ ch < 127 ∧ σ 8 24 0 i = nI ch
def JB (k : Nat) : Nat := 60 * k + 60
def JJ (k : Nat) (σ : mm_M) : Prop := (∃ N R, HC (JB k) σ N R ∧ HM σ N R) ∧ GS (JB k) σ 0 (σ 10 31 0) ∧ TX σ σ
def CF (σ σ1 : mm_M) : Prop := ∀ q t n i, (q = 0 ∨ (2 ≤ q ∧ q < 7) ∨ q = 10 ∨ (q = 8 ∧ (t = 24 ∨ (t = 23 ∧ i = 1)))) → σ1 q t n i = σ q t n i
def MF (μ μ1 : mm_M) : Prop := ∀ q t n i, (q < 10 ∨ (q = 10 ∧ (t = 32 ∨ t = 34 ∨ t = 35 ∨ (t = 30 ∧ (i = 4 ∨ i = 6))))) → μ1 q t n i = μ q t n i
theorem CF.trans {a b c : mm_M} (h : CF a b) (h2 : CF b c) : CF a c := fun q t n i hh => (h2 q t n i hh).trans (h q t n i hh)
theorem MF.trans {a b c : mm_M} (h : MF a b) (h2 : MF b c) : MF a c := fun q t n i hh => (h2 q t n i hh).trans (h q t n i hh)
theorem MF.rf {a : mm_M} : MF a a := fun _ _ _ _ _ => rfl
theorem MF.mw {μ μ1 : mm_M} {S S1 : Nat → Int32} (h : MF (mw μ S) (mw μ1 S1)) : MF μ μ1 := fun q t n i hh => by
  have := h q t n i hh
  rw [mw_oth μ S (show ¬ (q = 10 ∧ t = 31 ∧ n = 0) by omega), mw_oth μ1 S1 (show ¬ (q = 10 ∧ t = 31 ∧ n = 0) by omega)] at this
  exact this
theorem HM.congr {N : Nat} {μ μ1 : mm_M} {R : Nat → Nat → Int32} (h : HM μ N R) (e4 : μ1 10 30 0 4 = μ 10 30 0 4) (e : ∀ i, μ1 10 34 0 i = μ 10 34 0 i) : HM μ1 N R := by
  obtain ⟨h1, h2, h3⟩ := h
  exact ⟨h1, e4.trans h2, fun i hi v hv => (e _).trans (h3 i hi v hv)⟩
theorem TX.congr {σ μ σ1 μ1 : mm_M} (h : TX σ μ) (e1 : σ1 8 23 0 1 = σ 8 23 0 1) (e2 : ∀ i, σ1 8 24 0 i = σ 8 24 0 i) (e3 : μ1 10 30 0 6 = μ 10 30 0 6) (e4 : ∀ i, μ1 10 35 0 i = μ 10 35 0 i) : TX σ1 μ1 := by
  obtain ⟨L, h1, h2, h3, h4⟩ := h
  exact ⟨L, h1, e1.trans h2, e3.trans h3, fun i hi => ⟨(e2 i).trans ((h4 i hi).1.trans (e4 i).symm), by rw [e2]; exact (h4 i hi).2⟩⟩
theorem JB_up (k : Nat) : JB (k + 1) = JB k + 60 := by unfold JB; omega
theorem JJ.up {k : Nat} {σ : mm_M} (h : JJ k σ) : JJ (k + 1) σ := by
  obtain ⟨⟨N, R, h1, h2⟩, h3, h4⟩ := h
  have e := JB_up k
  exact ⟨⟨N, R, h1.mono (by omega), h2⟩, h3.mono (by omega), h4⟩
theorem JJ.congr {k : Nat} {σ σ2 : mm_M} (h : JJ k σ) (e : ∀ q t n i, (q = 0 ∨ (2 ≤ q ∧ q < 7) ∨ (q = 8 ∧ (t = 24 ∨ (t = 23 ∧ i = 1))) ∨ (q = 10 ∧ (t = 34 ∨ t = 35 ∨ (t = 30 ∧ (i = 4 ∨ i = 6))))) → σ2 q t n i = σ q t n i) (eS : ∀ i, i < 207 → σ2 10 31 0 i = σ 10 31 0 i) : JJ k σ2 := by
  obtain ⟨⟨N, R, h1, h2⟩, h3, h4⟩ := h
  exact ⟨⟨N, R, h1.congr (fun q t n i a b => e q t n i (by omega)), h2.congr (e _ _ _ _ (by omega)) (fun i => e _ _ _ _ (by omega))⟩, h3.congr (fun t n i _ => e _ _ _ _ (by omega)) eS, h4.congr (e _ _ _ _ (by omega)) (fun i => e _ _ _ _ (by omega)) (e _ _ _ _ (by omega)) (fun i => e _ _ _ _ (by omega))⟩
theorem er_nI {t : Nat} (ht : t < 1000000) (h : er (nI t)) : False := by
  have := nI_pos (n := t) (by omega)
  rcases h with h | h | h <;> (rw [h] at this; exact this (by decide))
def TB (B2 : Nat) (S : Nat → Int32) (x : mm_R) (μ : mm_M) (y : mm_R) : Prop := ∃ v σb, x = some (v, σb) ∧ ((∃ t μ1 S1, t < 1000000 ∧ v = nI t ∧ y = fx_X11_acted (nI t) (mw μ1 S1) ∧ MF μ μ1 ∧ GS B2 σb 1 S1) ∨ (er v ∧ ∃ μ1 T, y = some (v, mw μ1 T) ∧ MF μ μ1 ∧ ∀ i, i < 207 → T i = S i))
theorem act_gen {k B2 : Nat} {σ : mm_M} {op tail : mm_M → mm_R} (hJ : JJ k σ) (hB1 : JB k ≤ B2) (hB2 : B2 ≤ JB (k + 1)) (h : ∀ (σ1 μ : mm_M) (S : Nat → Int32), GS (JB k) σ1 1 S → (σ1 8 23 0 1 = σ 8 23 0 1 ∧ (∀ i, σ1 8 24 0 i = σ 8 24 0 i) ∧ μ 10 30 0 6 = σ 10 30 0 6 ∧ ∀ i, μ 10 35 0 i = σ 10 35 0 i) → (∀ i, i < 207 → μ 10 32 0 i = S i) → TB B2 S (op σ1) μ (tail (mw μ S))) (f1 : ∀ σ v σ1, op σ = some (v, σ1) → CF σ σ1) : ∃ v σ1 σ2, (mm_bd (fx_X10_freshTrial σ) fun _ s_1 => (mm_bd (op s_1) fun r_2 s_2 => (mm_bd (fx_X10_keep r_2 s_2) fun r_3 s_3 => (some (r_3, s_3))))) = some (v, σ1) ∧ (mm_bd (fx_X11_begins σ1) fun _ s_1 => tail s_1) = some (v, σ2) ∧ JJ (k + 1) σ2 := by
  obtain ⟨⟨N, R, hC, hM⟩, hG, hT⟩ := hJ
  obtain ⟨σa, ea, ca, fa⟩ := copy0 (r0 := 1) (r1 := 0) (σ := σ) (by omega)
  have G1 : GS (JB k) σa 1 (σ 10 31 0) := hG.copy ca
  have ta : σa 8 23 0 1 = σ 8 23 0 1 ∧ (∀ i, σa 8 24 0 i = σ 8 24 0 i) := ⟨fa _ _ _ _ (by omega), fun i => fa _ _ _ _ (by omega)⟩
  have hfr : fx_X10_freshTrial σ = some (0, σa) := by rw [fx_X10_freshTrial, ea, mm_bd_some]
  -- what the class does, before it keeps
  obtain ⟨v, σb, eb, hb⟩ := h σa (fun q t n => if t = 32 then σ 10 31 0 else σ q t n) (σ 10 31 0) G1 ⟨ta.1, ta.2, rfl, fun _ => rfl⟩ (fun i _ => rfl)
  have Fb := f1 σa v σb eb
  have Cb : HC B2 σb N R := (hC.mono hB1).congr (fun q t n i a b => (Fb q t n i (by omega)).trans (fa q t n i (by omega)))
  have Gb : GS B2 σb 0 (σ 10 31 0) := (hG.mono hB1).congr (fun t n i _ => (Fb _ _ _ _ (by omega)).trans (fa _ _ _ _ (by omega))) (fun _ _ => rfl)
  have Xb : ∀ q t n i, (q = 10 ∨ (q = 8 ∧ (t = 24 ∨ (t = 23 ∧ i = 1)))) → σb q t n i = σ q t n i := fun q t n i hh => (Fb q t n i (by omega)).trans (fa q t n i (by omega))
  have kp : ∃ σ1, fx_X10_keep v σb = some (v, σ1) ∧ ∀ q t n i, 6 < q → σ1 q t n i = σb q t n i := by
    rcases hb with ⟨t, _, S1, ht, rfl, _, _, g1⟩ | ⟨he, _⟩
    · obtain ⟨σ1, e1, _, _, e4⟩ := keep_ok ht Cb Gb g1
      exact ⟨σ1, e1, e4⟩
    · exact ⟨σb, keep_er he, fun _ _ _ _ _ => rfl⟩
  obtain ⟨σ1, ek, fk⟩ := kp
  have hcls : (mm_bd (fx_X10_freshTrial σ) fun _ s_1 => (mm_bd (op s_1) fun r_2 s_2 => (mm_bd (fx_X10_keep r_2 s_2) fun r_3 s_3 => (some (r_3, s_3))))) = some (v, σ1) := by
    rw [hfr, mm_bd_some, eb, mm_bd_some, ek, mm_bd_some]
  have row1 : σ1 10 31 0 = σ 10 31 0 := by
    funext i
    exact (fk _ _ _ _ (by omega)).trans (Xb _ _ _ _ (by omega))
  obtain ⟨μ1, em, begun, fm⟩ := mo_begins σ1 (σ 10 31 0)
  have es : mw σ1 (σ 10 31 0) = σ1 := by rw [← row1]; exact mw_self σ1
  rw [es] at em
  have X1 : ∀ q t n i, (q = 10 ∨ (q = 8 ∧ (t = 24 ∨ (t = 23 ∧ i = 1)))) → σ1 q t n i = σ q t n i := fun q t n i hh => (fk q t n i (by omega)).trans (Xb q t n i hh)
  obtain ⟨v2, σb2, eb2, hb2⟩ := h σa μ1 (σ 10 31 0) G1 ⟨ta.1, ta.2, (fm _ _ _ _ (by omega)).trans (X1 _ _ _ _ (by omega)), fun i => (fm _ _ _ _ (by omega)).trans (X1 _ _ _ _ (by omega))⟩ begun
  rw [eb] at eb2
  obtain ⟨rfl, rfl⟩ : v = v2 ∧ σb = σb2 := by
    have := Option.some.inj eb2
    exact ⟨congrArg Prod.fst this, congrArg Prod.snd this⟩
  have hHM : HM μ1 N R := hM.congr ((fm _ _ _ _ (by omega)).trans (X1 _ _ _ _ (by omega))) (fun i => (fm _ _ _ _ (by omega)).trans (X1 _ _ _ _ (by omega)))
  rcases hb2 with ⟨t, μ2, S2, ht, rfl, etl, fM, g2⟩ | ⟨he, μ2, T, etl, fM, eT⟩
  · obtain ⟨σ1', ek', HC2, GS2, _⟩ := keep_ok ht Cb Gb g2
    rw [ek] at ek'
    have e11 : σ1 = σ1' := congrArg Prod.snd (Option.some.inj ek')
    subst e11
    obtain ⟨μ3, e3, HM2, f3⟩ := acted_ok (S1 := S2) ht (hHM.congr (fM _ _ _ _ (by omega)) (fun i => fM _ _ _ _ (by omega))) (fun i hi => (fM _ _ _ _ (by omega)).trans (begun i hi))
    refine ⟨nI t, σ1, mw μ3 S2, hcls, by rw [em, mm_bd_some, etl, e3], ⟨⟨_, _, (HC2.mono hB2).congr (fun q t n i a b => ?_), HM2.congr (by rw [mw_oth μ3 S2 (by omega)]) (fun i => by rw [mw_oth μ3 S2 (by omega)])⟩, ?_, ?_⟩⟩
    · rw [mw_oth μ3 S2 (by omega), f3 _ _ _ _ (by omega), fM _ _ _ _ (by omega), fm _ _ _ _ (by omega)]
    · rw [mw_row]
      exact (GS2.mono hB2).congr (fun t n i _ => by rw [mw_oth μ3 S2 (by omega), f3 _ _ _ _ (by omega), fM _ _ _ _ (by omega), fm _ _ _ _ (by omega)]) (fun _ _ => rfl)
    · refine hT.congr ?_ (fun i => ?_) ?_ (fun i => ?_)
      · rw [mw_oth μ3 S2 (by omega), f3 _ _ _ _ (by omega), fM _ _ _ _ (by omega), fm _ _ _ _ (by omega), X1 _ _ _ _ (by omega)]
      · rw [mw_oth μ3 S2 (by omega), f3 _ _ _ _ (by omega), fM _ _ _ _ (by omega), fm _ _ _ _ (by omega), X1 _ _ _ _ (by omega)]
      · rw [mw_oth μ3 S2 (by omega), f3 _ _ _ _ (by omega), fM _ _ _ _ (by omega), fm _ _ _ _ (by omega), X1 _ _ _ _ (by omega)]
      · rw [mw_oth μ3 S2 (by omega), f3 _ _ _ _ (by omega), fM _ _ _ _ (by omega), fm _ _ _ _ (by omega), X1 _ _ _ _ (by omega)]
  · have e1b : σ1 = σb := by
      rw [keep_er he] at ek
      exact (congrArg Prod.snd (Option.some.inj ek)).symm
    subst e1b
    refine ⟨v, σ1, mw μ2 T, hcls, by rw [em, mm_bd_some, etl], ⟨⟨N, R, (Cb.mono hB2).congr (fun q t n i a b => ?_), hHM.congr (by rw [mw_oth μ2 T (by omega), fM _ _ _ _ (by omega)]) (fun i => by rw [mw_oth μ2 T (by omega), fM _ _ _ _ (by omega)])⟩, ?_, ?_⟩⟩
    · rw [mw_oth μ2 T (by omega), fM _ _ _ _ (by omega), fm _ _ _ _ (by omega)]
    · rw [mw_row]
      exact (Gb.mono hB2).congr (fun t n i _ => by rw [mw_oth μ2 T (by omega), fM _ _ _ _ (by omega), fm _ _ _ _ (by omega)]) eT
    · refine hT.congr ?_ (fun i => ?_) ?_ (fun i => ?_)
      · rw [mw_oth μ2 T (by omega), fM _ _ _ _ (by omega), fm _ _ _ _ (by omega), X1 _ _ _ _ (by omega)]
      · rw [mw_oth μ2 T (by omega), fM _ _ _ _ (by omega), fm _ _ _ _ (by omega), X1 _ _ _ _ (by omega)]
      · rw [mw_oth μ2 T (by omega), fM _ _ _ _ (by omega), fm _ _ _ _ (by omega), X1 _ _ _ _ (by omega)]
      · rw [mw_oth μ2 T (by omega), fM _ _ _ _ (by omega), fm _ _ _ _ (by omega), X1 _ _ _ _ (by omega)]
theorem bd_id (x : mm_R) : (mm_bd x fun r_3 s_3 => some (r_3, s_3)) = x := by
  cases x with
  | none => rfl
  | some y => rfl
theorem IB.tb {B2 : Nat} {S : Nat → Int32} {x : mm_R} {μ : mm_M} {mop : mm_M → mm_R} (h : IB B2 1 S x (mop (mw μ S))) (hb : ∀ i, i < 207 → μ 10 32 0 i = S i) (f2 : ∀ σ v σ1, mop σ = some (v, σ1) → MF σ σ1) : TB B2 S x μ (mm_bd (mop (mw μ S)) fun r_2 s_2 => (mm_bd (fx_X11_acted r_2 s_2) fun r_3 s_3 => (some (r_3, s_3)))) := by
  obtain ⟨v, σ1, μ1, S1, ex, ey, hh⟩ := h
  have F := (f2 _ _ _ ey).mw
  refine ⟨v, σ1, ex, ?_⟩
  rw [ey, mm_bd_some, bd_id]
  rcases hh with ⟨t, ht, rfl, hG⟩ | ⟨he, _⟩
  · exact Or.inl ⟨t, μ1, S1, ht, rfl, rfl, F, hG⟩
  · obtain ⟨T1, e1, h1⟩ := acted_er (T := S1) he (fun i hi => (F _ _ _ _ (by omega)).trans (hb i hi))
    exact Or.inr ⟨he, μ1, T1, e1, F, h1⟩
theorem J_kind {k : Nat} {σ : mm_M} (hJ : JJ k σ) (a b : Int32) : ∃ v σ1 σ2, fx_X10_kind a b σ = some (v, σ1) ∧ fx_X11_kind a b σ1 = some (v, σ2) ∧ JJ (k + 1) σ2 :=
  act_gen (op := fx_X8_setKind 1 a b) (B2 := JB k) hJ (Nat.le_refl _) (by rw [JB_up]; omega) (fun σ1 μ S hG _ hb => (kind_both hG).tb hb (fun σ v σ1 e q t n i hh => fr_X11_kinds a b σ v σ1 e q t n i (by unfold fw_X11_kinds; omega))) (fun σ v σ1 e q t n i hh => fr_X8_setKind 1 a b σ v σ1 e q t n i (by unfold fw_X8_setKind; omega))
theorem J_wall {k : Nat} {σ : mm_M} (hJ : JJ k σ) (a b : Int32) : ∃ v σ1 σ2, fx_X10_wall a b σ = some (v, σ1) ∧ fx_X11_wall a b σ1 = some (v, σ2) ∧ JJ (k + 1) σ2 :=
  act_gen (op := fx_X8_flipWall 1 a b) (B2 := JB k) hJ (Nat.le_refl _) (by rw [JB_up]; omega) (fun σ1 μ S hG _ hb => (wall_both hG).tb hb (fun σ v σ1 e q t n i hh => fr_X11_walls a b σ v σ1 e q t n i (by unfold fw_X11_walls; omega))) (fun σ v σ1 e q t n i hh => fr_X8_flipWall 1 a b σ v σ1 e q t n i (by unfold fw_X8_flipWall; omega))
theorem J_cart {k : Nat} {σ : mm_M} (hJ : JJ k σ) (a b : Int32) : ∃ v σ1 σ2, fx_X10_cart a b σ = some (v, σ1) ∧ fx_X11_cart a b σ1 = some (v, σ2) ∧ JJ (k + 1) σ2 :=
  act_gen (op := fx_X8_addCart 1 a b) (B2 := JB k) hJ (Nat.le_refl _) (by rw [JB_up]; omega) (fun σ1 μ S hG _ hb => (cart_both (by unfold JB; omega) hG).tb hb (fun σ v σ1 e q t n i hh => fr_X11_comes a b σ v σ1 e q t n i (by unfold fw_X11_comes; omega))) (fun σ v σ1 e q t n i hh => fr_X8_addCart 1 a b σ v σ1 e q t n i (by unfold fw_X8_addCart; omega))
theorem J_card {k : Nat} {σ : mm_M} (hJ : JJ k σ) (a b c d : Int32) : ∃ v σ1 σ2, fx_X10_card a b c d σ = some (v, σ1) ∧ fx_X11_card a b c d σ1 = some (v, σ2) ∧ JJ (k + 1) σ2 :=
  act_gen (op := fx_X8_layCard 1 a b c d) (B2 := JB k) hJ (Nat.le_refl _) (by rw [JB_up]; omega) (fun σ1 μ S hG _ hb => (card_both hG).tb hb (fun σ v σ1 e q t n i hh => fr_X11_cards a b c d σ v σ1 e q t n i (by unfold fw_X11_cards; omega))) (fun σ v σ1 e q t n i hh => fr_X8_layCard 1 a b c d σ v σ1 e q t n i (by unfold fw_X8_layCard; omega))
theorem run_cf {σ σ1 : mm_M} {v : Int32} (e : fx_X7_runNext 1 σ = some (v, σ1)) : CF σ σ1 := fun q t n i hh => fr_X7_runNext 1 σ v σ1 e q t n i (by unfold fw_X7_runNext; omega)
theorem passes_mf {σ σ1 : mm_M} {v : Int32} (e : fx_X11_passes σ = some (v, σ1)) : MF σ σ1 := fun q t n i hh => fr_X11_passes σ v σ1 e q t n i (by unfold fw_X11_passes; omega)
theorem J_phase {k : Nat} (hk : k < 512) {σ : mm_M} (hJ : JJ k σ) : ∃ v σ1 σ2, fx_X10_phase σ = some (v, σ1) ∧ fx_X11_phase σ1 = some (v, σ2) ∧ JJ (k + 1) σ2 :=
  act_gen (op := fx_X7_runNext 1) (B2 := JB k + 1) hJ (Nat.le_succ _) (by rw [JB_up]; omega) (fun σ1 μ S hG _ hb => (run_both (by omega) (by unfold JB; omega) hG).tb hb (fun σ v σ1 e q t n i hh => fr_X11_phases σ v σ1 e q t n i (by unfold fw_X11_phases; omega))) (fun σ v σ1 e => run_cf e)
