/-! the state between two calls, and the methods that act -/
def TC (σ : mm_M) (L : Nat) (ch : Nat → Nat) : Prop := L ≤ 60 ∧ σ 8 23 0 1 = nI L ∧ ∀ i, i < L → σ 8 24 0 i = nI (ch i) ∧ 32 ≤ ch i ∧ ch i < 127
theorem TC.congr {σ σ1 : mm_M} {L : Nat} {ch : Nat → Nat} (h : TC σ L ch) (e1 : σ1 8 23 0 1 = σ 8 23 0 1) (e2 : ∀ i, σ1 8 24 0 i = σ 8 24 0 i) : TC σ1 L ch := by
  obtain ⟨h1, h2, h3⟩ := h
  exact ⟨h1, e1.trans h2, fun i hi => ⟨(e2 i).trans (h3 i hi).1, (h3 i hi).2⟩⟩
def JB (k : Nat) : Nat := 60 * k + 60
theorem JB_up (k : Nat) : JB (k + 1) = JB k + 60 := by unfold JB; omega
def KS (k : Nat) (σ : mm_M) (N : Nat) (R : Nat → Nat → Int32) (S : Nat → Int32) (L : Nat) (ch : Nat → Nat) : Prop := HC (JB k) σ N R ∧ GS (JB k) σ 0 S ∧ TC σ L ch
theorem KS.up {k N L : Nat} {σ : mm_M} {R : Nat → Nat → Int32} {S : Nat → Int32} {ch : Nat → Nat} (h : KS k σ N R S L ch) : KS (k + 1) σ N R S L ch := by
  obtain ⟨h1, h2, h3⟩ := h
  have := JB_up k
  exact ⟨h1.mono (by omega), h2.mono (by omega), h3⟩
def CF (σ σ1 : mm_M) : Prop := ∀ q t n i, (q = 0 ∨ (2 ≤ q ∧ q < 7) ∨ q = 10 ∨ (q = 8 ∧ (t = 24 ∨ (t = 23 ∧ i = 1)))) → σ1 q t n i = σ q t n i
def MF (μ μ1 : mm_M) : Prop := ∀ q t n i, (q < 10 ∨ (q = 10 ∧ (t = 32 ∨ t = 34 ∨ t = 35 ∨ (t = 30 ∧ (i = 4 ∨ i = 6))))) → μ1 q t n i = μ q t n i
theorem CF.trans {a b c : mm_M} (h : CF a b) (h2 : CF b c) : CF a c := fun q t n i hh => (h2 q t n i hh).trans (h q t n i hh)
theorem CF.rf {a : mm_M} : CF a a := fun _ _ _ _ _ => rfl
theorem MF.trans {a b c : mm_M} (h : MF a b) (h2 : MF b c) : MF a c := fun q t n i hh => (h2 q t n i hh).trans (h q t n i hh)
theorem MF.rf {a : mm_M} : MF a a := fun _ _ _ _ _ => rfl
theorem MF.mw {μ μ1 : mm_M} {S S1 : Nat → Int32} (h : MF (mw μ S) (mw μ1 S1)) : MF μ μ1 := fun q t n i hh => by
  have := h q t n i hh
  rw [mw_oth μ S (show ¬ (q = 10 ∧ t = 31 ∧ n = 0) by omega), mw_oth μ1 S1 (show ¬ (q = 10 ∧ t = 31 ∧ n = 0) by omega)] at this
  exact this
/-- what asks only leaves the state as it was -/
theorem KS.cf {k N L : Nat} {σ σ1 : mm_M} {R : Nat → Nat → Int32} {S : Nat → Int32} {ch : Nat → Nat} (h : KS k σ N R S L ch) (f : CF σ σ1) : KS k σ1 N R S L ch := by
  obtain ⟨h1, h2, h3⟩ := h
  exact ⟨h1.congr (fun q t n i a b => f q t n i (by omega)), h2.congr (fun t n i _ => f _ _ _ _ (by omega)) (fun _ _ => rfl), h3.congr (f _ _ _ _ (by omega)) (fun i => f _ _ _ _ (by omega))⟩
theorem bd_id (x : mm_R) : (mm_bd x fun r_3 s_3 => some (r_3, s_3)) = x := by
  cases x with
  | none => rfl
  | some y => rfl
/-- what an act answers, and what it leaves -/
def AC (k N : Nat) (R : Nat → Nat → Int32) (S : Nat → Int32) (L : Nat) (ch : Nat → Nat) (V : Int32 → Prop) (P : Nat → (Nat → Int32) → Prop) (x : mm_R) : Prop := ∃ v σ1, x = some (v, σ1) ∧ V v ∧ ((∃ t S1, t < 1000000 ∧ v = nI t ∧ KS (k + 1) σ1 (pN N) (pR N R S) S1 L ch ∧ P t S1) ∨ (er v ∧ KS (k + 1) σ1 N R S L ch))
theorem act_c {k N L B2 : Nat} {σ : mm_M} {R : Nat → Nat → Int32} {S : Nat → Int32} {ch : Nat → Nat} {V : Int32 → Prop} {P : Nat → (Nat → Int32) → Prop} {op : mm_M → mm_R} (hK : KS k σ N R S L ch) (hB1 : JB k ≤ B2) (hB2 : B2 ≤ JB (k + 1)) (h : ∀ σ1 : mm_M, GS (JB k) σ1 1 S → TC σ1 L ch → ∃ v σb, op σ1 = some (v, σb) ∧ V v ∧ ((∃ t S1, t < 1000000 ∧ v = nI t ∧ GS B2 σb 1 S1 ∧ P t S1) ∨ er v)) (f1 : ∀ σ v σ1, op σ = some (v, σ1) → CF σ σ1) : AC k N R S L ch V P (mm_bd (fx_X10_freshTrial σ) fun _ s_1 => (mm_bd (op s_1) fun r_2 s_2 => (mm_bd (fx_X10_keep r_2 s_2) fun r_3 s_3 => (some (r_3, s_3))))) := by
  obtain ⟨hC, hG, hT⟩ := hK
  obtain ⟨σa, ea, ca, fa⟩ := copy0 (r0 := 1) (r1 := 0) (σ := σ) (by omega)
  have G1 : GS (JB k) σa 1 S := hG.copy ca
  have T1 : TC σa L ch := hT.congr (fa _ _ _ _ (by omega)) (fun i => fa _ _ _ _ (by omega))
  have hfr : fx_X10_freshTrial σ = some (0, σa) := by rw [fx_X10_freshTrial, ea, mm_bd_some]
  obtain ⟨v, σb, eb, hv, hb⟩ := h σa G1 T1
  have Fb := f1 σa v σb eb
  have Cb : HC B2 σb N R := (hC.mono hB1).congr (fun q t n i a b => (Fb q t n i (by omega)).trans (fa q t n i (by omega)))
  have Gb : GS B2 σb 0 S := (hG.mono hB1).congr (fun t n i _ => (Fb _ _ _ _ (by omega)).trans (fa _ _ _ _ (by omega))) (fun _ _ => rfl)
  have Tb : TC σb L ch := T1.congr (Fb _ _ _ _ (by omega)) (fun i => Fb _ _ _ _ (by omega))
  rcases hb with ⟨t, S1, ht, rfl, g1, hP⟩ | he
  · obtain ⟨σ1, e1, C1, g2, f2⟩ := keep_ok ht Cb Gb g1
    refine ⟨nI t, σ1, by rw [hfr, mm_bd_some, eb, mm_bd_some, e1, mm_bd_some], hv, Or.inl ⟨t, S1, ht, rfl, ⟨C1.mono hB2, g2.mono hB2, Tb.congr (f2 _ _ _ _ (by omega)) (fun i => f2 _ _ _ _ (by omega))⟩, hP⟩⟩
  · exact ⟨v, σb, by rw [hfr, mm_bd_some, eb, mm_bd_some, keep_er he, mm_bd_some], hv, Or.inr ⟨he, Cb.mono hB2, Gb.mono hB2, Tb⟩⟩
theorem IB.ac {B r : Nat} {S : Nat → Int32} {V : Int32 → Prop} {P : (Nat → Int32) → Prop} {x y : mm_R} (h : IB B r S V P x y) : ∃ v σb, x = some (v, σb) ∧ V v ∧ ((∃ t S1, t < 1000000 ∧ v = nI t ∧ GS B σb r S1 ∧ P S1) ∨ er v) := by
  obtain ⟨v, σ1, μ1, S1, e1, _, hv, hh⟩ := h
  refine ⟨v, σ1, e1, hv, ?_⟩
  rcases hh with ⟨t, ht, e, g, p⟩ | ⟨he, _⟩
  · exact Or.inl ⟨t, S1, ht, e, g, p⟩
  · exact Or.inr he
section AA
variable {k N L : Nat} {σ : mm_M} {R : Nat → Nat → Int32} {S : Nat → Int32} {ch : Nat → Nat}
theorem A_kind (hK : KS k σ N R S L ch) (a b : Int32) : AC k N R S L ch (fun v => v = vKind S a b) (fun _ _ => True) (fx_X10_kind a b σ) :=
  act_c (op := fx_X8_setKind 1 a b) (B2 := JB k) hK (Nat.le_refl _) (by rw [JB_up]; omega) (fun σ1 hG _ => (kind_both (μ := σ1) hG).ac) (fun σ v σ1 e q t n i hh => fr_X8_setKind 1 a b σ v σ1 e q t n i (by unfold fw_X8_setKind; omega))
theorem A_wall (hK : KS k σ N R S L ch) (a b : Int32) : AC k N R S L ch (fun v => v = vWall S a b) (fun _ _ => True) (fx_X10_wall a b σ) :=
  act_c (op := fx_X8_flipWall 1 a b) (B2 := JB k) hK (Nat.le_refl _) (by rw [JB_up]; omega) (fun σ1 hG _ => (wall_both (μ := σ1) hG).ac) (fun σ v σ1 e q t n i hh => fr_X8_flipWall 1 a b σ v σ1 e q t n i (by unfold fw_X8_flipWall; omega))
theorem A_cart (hK : KS k σ N R S L ch) (a b : Int32) : AC k N R S L ch (fun v => v = vCart S a b) (fun _ _ => True) (fx_X10_cart a b σ) :=
  act_c (op := fx_X8_addCart 1 a b) (B2 := JB k) hK (Nat.le_refl _) (by rw [JB_up]; omega) (fun σ1 hG _ => (cart_both (μ := σ1) (by unfold JB; omega) hG).ac) (fun σ v σ1 e q t n i hh => fr_X8_addCart 1 a b σ v σ1 e q t n i (by unfold fw_X8_addCart; omega))
theorem A_card (hK : KS k σ N R S L ch) (a b c d : Int32) : AC k N R S L ch (vCard S a b c d) (fun _ => pCard S a b c d) (fx_X10_card a b c d σ) :=
  act_c (op := fx_X8_layCard 1 a b c d) (B2 := JB k) hK (Nat.le_refl _) (by rw [JB_up]; omega) (fun σ1 hG _ => (card_both (μ := σ1) hG).ac) (fun σ v σ1 e q t n i hh => fr_X8_layCard 1 a b c d σ v σ1 e q t n i (by unfold fw_X8_layCard; omega))
end AA
theorem run_cf {σ σ1 : mm_M} {v : Int32} (e : fx_X7_runNext 1 σ = some (v, σ1)) : CF σ σ1 := fun q t n i hh => fr_X7_runNext 1 σ v σ1 e q t n i (by unfold fw_X7_runNext; omega)
theorem passes_mf {σ σ1 : mm_M} {v : Int32} (e : fx_X11_passes σ = some (v, σ1)) : MF σ σ1 := fun q t n i hh => fr_X11_passes σ v σ1 e q t n i (by unfold fw_X11_passes; omega)
section AA
variable {k N L : Nat} {σ : mm_M} {R : Nat → Nat → Int32} {S : Nat → Int32} {ch : Nat → Nat}
theorem A_phase (hk : k < 512) (hK : KS k σ N R S L ch) : AC k N R S L ch (vRun S) (fun _ S1 => S1 5 = S 5 + 1) (fx_X10_phase σ) :=
  act_c (op := fx_X7_runNext 1) (B2 := JB k + 1) hK (Nat.le_succ _) (by rw [JB_up]; omega) (fun σ1 hG _ => (run_both (μ := σ1) (by omega) (by unfold JB; omega) hG).ac) (fun σ v σ1 e => run_cf e)
end AA
