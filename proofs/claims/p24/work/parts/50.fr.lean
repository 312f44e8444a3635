theorem lt_of_eq_of_lt {a b c : Nat} (h : a = b) (h2 : b < c) : a < c := h ▸ h2
/-! frames: what a function may change -/
def mm_fr (W : Nat → Nat → Nat → Prop) (σ σ1 : mm_M) : Prop := ∀ q t n i, ¬ W q t i → σ1 q t n i = σ q t n i
theorem mm_fr.rf {W : Nat → Nat → Nat → Prop} {σ : mm_M} : mm_fr W σ σ := fun _ _ _ _ _ => rfl
theorem mm_fr.trans {W : Nat → Nat → Nat → Prop} {σ σ1 σ2 : mm_M} (h : mm_fr W σ σ1) (h2 : mm_fr W σ1 σ2) : mm_fr W σ σ2 := fun q t n i hw => (h2 q t n i hw).trans (h q t n i hw)
theorem mm_fr.mono {W V : Nat → Nat → Nat → Prop} {σ σ1 : mm_M} (h : mm_fr W σ σ1) (hv : ∀ q t i, W q t i → V q t i) : mm_fr V σ σ1 := fun q t n i hw => h q t n i (fun z => hw (hv q t i z))
theorem mm_fr.eq {W : Nat → Nat → Nat → Prop} {σ σ1 : mm_M} (h : σ1 = σ) : mm_fr W σ σ1 := fun q t n i _ => by rw [h]
theorem mm_fr.none {W : Nat → Nat → Nat → Prop} {σ σ1 : mm_M} (hw : ∀ q t i, ¬ W q t i) (h : mm_fr W σ σ1) : σ1 = σ := by
  funext q t n i
  exact h q t n i (hw q t i)
theorem mm_fr.ret {W : Nat → Nat → Nat → Prop} {σ s σ1 : mm_M} {α : Type} {a rv : α} (h : some (a, s) = some (rv, σ1)) (F : mm_fr W σ s) : mm_fr W σ σ1 := by
  cases h
  exact F
theorem mm_fr.w {W : Nat → Nat → Nat → Prop} {σ s : mm_M} {r t n : Nat} {g : Nat → Int32} (e : s = mm_w σ r t n g) (h : ∀ i, W r t i) : mm_fr W σ s := fun q t1 n1 i hw => by
  rw [e]
  unfold mm_w
  split
  · rename_i hc
    rw [hc.1, hc.2.1] at hw
    exact absurd (h i) hw
  · rfl
theorem mm_fr.a {W : Nat → Nat → Nat → Prop} {σ s : mm_M} {r t n k : Nat} {v : Int32} (e : s = mm_u σ r t n k v) (h : ∀ i, W r t i) : mm_fr W σ s := mm_fr.w e h
theorem mm_fr.u {W : Nat → Nat → Nat → Prop} {σ s : mm_M} {r t n k : Nat} {v : Int32} (e : s = mm_u σ r t n k v) (h : W r t k) : mm_fr W σ s := fun q t1 n1 i hw => by
  rw [e]
  unfold mm_u mm_w
  split
  · rename_i hc
    obtain ⟨h1, h2, h3⟩ := hc
    subst h1; subst h2; subst h3
    unfold upd
    split
    · rename_i hi
      rw [hi] at hw
      exact absurd h hw
    · rfl
  · rfl
