/-! a step: the chain of carts that it moves -/
theorem nx_dir {q q2 d : Nat} (hq : q < 64) (hd : d < 4) (hq2 : q2 < 64) (e : sp_nx q d = nI q2) : ((d = 1 ∨ d = 2) ∧ q < q2) ∨ ((d = 0 ∨ d = 3) ∧ q2 < q) := by
  unfold sp_nx at e
  have hm := m1_nI (k := q2) (by omega)
  rcases (show d = 0 ∨ d = 1 ∨ d = 2 ∨ d = 3 by omega) with rfl | rfl | rfl | rfl
  · rw [if_pos rfl] at e
    split at e
    · have := (nI_e (by omega) (by omega)).mp e
      omega
    · exact absurd e hm
  · rw [if_neg (by decide), if_pos rfl] at e
    split at e
    · have := (nI_e (by omega) (by omega)).mp e
      omega
    · exact absurd e hm
  · rw [if_neg (by decide), if_neg (by decide), if_pos rfl] at e
    split at e
    · have := (nI_e (by omega) (by omega)).mp e
      omega
    · exact absurd e hm
  · rw [if_neg (by decide), if_neg (by decide), if_neg (by decide)] at e
    split at e
    · have := (nI_e (by omega) (by omega)).mp e
      omega
    · exact absurd e hm
def CH (S : Nat → Int32) (c d : Nat) (row p : Nat → Nat) (k : Nat) : Prop :=
  ∀ i, i < k → row i < c ∧ p i < 64 ∧ S (139 + 17 * row i + 1) = nI (p i) ∧ (i + 1 < k → sp_nx (p i) d = nI (p (i + 1)))
theorem CH.lt {S : Nat → Int32} {c d : Nat} {row p : Nat → Nat} {k : Nat} (h : CH S c d row p k) (hd : d < 4) : ∀ (s i : Nat), i + s + 1 < k → ((d = 1 ∨ d = 2) ∧ p i < p (i + s + 1)) ∨ ((d = 0 ∨ d = 3) ∧ p (i + s + 1) < p i)
  | 0, i, hk => nx_dir (h i (by omega)).2.1 hd (h (i + 1) (by omega)).2.1 ((h i (by omega)).2.2.2 (by omega))
  | s + 1, i, hk => by
    have h1 := CH.lt h hd s i (by omega)
    have h2 := nx_dir (h (i + s + 1) (by omega)).2.1 hd (h (i + s + 1 + 1) (by omega)).2.1 ((h (i + s + 1) (by omega)).2.2.2 (by omega))
    have e : i + (s + 1) + 1 = i + s + 1 + 1 := by omega
    rw [e]
    omega
theorem CH.inj {S : Nat → Int32} {c d : Nat} {row p : Nat → Nat} {k : Nat} (h : CH S c d row p k) (hd : d < 4) {i j : Nat} (hij : i < j) (hj : j < k) : row i ≠ row j := by
  intro e
  obtain ⟨s, rfl⟩ : ∃ s, j = i + s + 1 := ⟨j - i - 1, by omega⟩
  have a := (h i (by omega)).2.2.1
  have b := (h (i + s + 1) (by omega)).2.2.1
  rw [e] at a
  have := (nI_e (by have := (h i (by omega)).2.1; omega) (by have := (h (i + s + 1) (by omega)).2.1; omega)).mp (a.symm.trans b)
  have := CH.lt h hd s i hj
  omega
theorem CH.le4 {S : Nat → Int32} {c d : Nat} {row p : Nat → Nat} {k : Nat} (h : CH S c d row p k) (hd : d < 4) (hc : c ≤ 4) : k ≤ 4 := by
  by_cases hk : k ≤ 4
  · exact hk
  · have a0 := (h 0 (by omega)).1
    have a1 := (h 1 (by omega)).1
    have a2 := (h 2 (by omega)).1
    have a3 := (h 3 (by omega)).1
    have a4 := (h 4 (by omega)).1
    have b01 := CH.inj h hd (i := 0) (j := 1) (by omega) (by omega)
    have b02 := CH.inj h hd (i := 0) (j := 2) (by omega) (by omega)
    have b03 := CH.inj h hd (i := 0) (j := 3) (by omega) (by omega)
    have b04 := CH.inj h hd (i := 0) (j := 4) (by omega) (by omega)
    have b12 := CH.inj h hd (i := 1) (j := 2) (by omega) (by omega)
    have b13 := CH.inj h hd (i := 1) (j := 3) (by omega) (by omega)
    have b14 := CH.inj h hd (i := 1) (j := 4) (by omega) (by omega)
    have b23 := CH.inj h hd (i := 2) (j := 3) (by omega) (by omega)
    have b24 := CH.inj h hd (i := 2) (j := 4) (by omega) (by omega)
    have b34 := CH.inj h hd (i := 3) (j := 4) (by omega) (by omega)
    generalize row 0 = r0 at *
    generalize row 1 = r1 at *
    generalize row 2 = r2 at *
    generalize row 3 = r3 at *
    generalize row 4 = r4 at *
    exfalso
    omega
theorem CH.ext {S : Nat → Int32} {c d : Nat} {row p : Nat → Nat} {k n q : Nat} (h : CH S c d row p k) (hn : n < c) (hq : q < 64) (e : S (139 + 17 * n + 1) = nI q) (hx : k = 0 ∨ sp_nx (p (k - 1)) d = nI q) : CH S c d (fun i => if i = k then n else row i) (fun i => if i = k then q else p i) (k + 1) := by
  intro i hi
  by_cases hik : i = k
  · subst hik
    simp only [if_true]
    exact ⟨hn, hq, e, fun z => absurd z (by omega)⟩
  · simp only [if_neg hik]
    obtain ⟨a, b, g, w⟩ := h i (by omega)
    refine ⟨a, b, g, fun z => ?_⟩
    by_cases hk2 : i + 1 = k
    · rw [if_pos hk2]
      rcases hx with hx | hx
      · omega
      · have e3 : k - 1 = i := by omega
        rw [e3] at hx
        exact hx
    · rw [if_neg hk2]
      exact w (by omega)
def FREE (S : Nat → Int32) (c : Nat) (v : Int32) : Prop := v = -1 ∨ ∃ q, q < 64 ∧ v = nI q ∧ ∀ m, m < c → S (139 + 17 * m + 1) ≠ nI q
theorem find_L {B c f r d : Nat} {x x2 : Int32} {S : Nat → Int32} (hW : WF B c f S) (hr : r < 6) (hd : d < 4) : ∀ (e k fu fu2 : Nat) (row p : Nat → Nat) (v : Int32) (σ μ : mm_M), k + e = 5 → e < fu → e < fu2 → RS c f σ r S → CH S c d row p k → (∀ i, i < k → σ 7 15 0 i = nI (row i)) → (∀ i, i < k → μ 10 36 0 i = nI (row i)) → ((v = -1 ∧ 0 < k ∧ FREE S c (sp_nx (p (k - 1)) d)) ∨ ∃ n q, n < c ∧ v = nI n ∧ q < 64 ∧ S (139 + 17 * n + 1) = nI q ∧ (k = 0 ∨ sp_nx (p (k - 1)) d = nI q)) →
    (∃ σ1 μ1, fx_X2_step_L6 r x (nI d) fu (nI k) v σ = some (0, σ1) ∧ fx_X11_steps1_L8 x2 (nI d) fu2 (nI k) v (mw μ S) = some (0, mw μ1 S) ∧ RS c f σ1 r S) ∨
    ∃ (L : Nat) (row p : Nat → Nat) (σ1 μ1 : mm_M), 0 < L ∧ L ≤ 4 ∧ CH S c d row p L ∧ (∀ i, i < L → σ1 7 15 0 i = nI (row i)) ∧ (∀ i, i < L → μ1 10 36 0 i = nI (row i)) ∧ FREE S c (sp_nx (p (L - 1)) d) ∧ RS c f σ1 r S ∧
      fx_X2_step_L6 r x (nI d) fu (nI k) v σ = fx_X2_step_L75 r x (nI d) mm_FU (nI L) 0 σ1 ∧ fx_X11_steps1_L8 x2 (nI d) fu2 (nI k) v (mw μ S) = fx_X11_steps1_L79 x2 (nI d) mm_FU (nI L - 1) (mw μ1 S) := by
  intro e
  induction e with
  | zero =>
    intro k fu fu2 row p v σ μ hk hf hf2 hR hC hs hm hv
    have := hC.le4 hd hW.c4
    omega
  | succ e ih =>
    intro k fu fu2 row p v σ μ hk hf hf2 hR hC hs hm hv
    obtain ⟨g, rfl⟩ : ∃ g, fu = g + 1 := ⟨fu - 1, by omega⟩
    obtain ⟨g2, rfl⟩ : ∃ g, fu2 = g + 1 := ⟨fu2 - 1, by omega⟩
    have hk4 := hC.le4 hd hW.c4
    rcases hv with ⟨rfl, h0, hF⟩ | ⟨n, q, hn, rfl, hq, hcell, hx⟩
    · refine Or.inr ⟨k, row, p, σ, μ, h0, hk4, hC, hs, hm, hF, hR, ?_, ?_⟩
      · rw [fx_X2_step_L6, if_pos rfl]
      · rw [fx_X11_steps1_L8, if_pos m1_lt0, mm_li_e]
    · have hC2 := hC.ext hn hq hcell hx
      have hk3 := hC2.le4 hd hW.c4
      have hc4 := hW.c4
      have ecell : σ r 6 n 3 = nI q := (hR.ct hn (k := 1) (by omega)).trans hcell
      have eL : fx_X2_step_L6 r x (nI d) (g + 1) (nI k) (nI n) σ = if ((S (75 + q) >>> (nI d &&& 31)) &&& 1) = 0 then mm_bd (fx_X8_cartOn r (sp_nx q d) (mm_u σ 7 15 0 k (nI n))) fun r_11 s_11 => (fx_X2_step_L6 r x (nI d) g (nI (k + 1)) r_11 s_11) else some (0, σ) := by
        rw [fx_X2_step_L6, if_neg (nI_m1 (by omega)), if_neg (nle_lit (x := 4) (b := 4) rfl (by omega) (by omega) : ¬ (4 : Int32) ≤ nI k), mm_gd_t (mm_ix_n (by omega) (by omega)), mm_li_e, nI_cl (by omega), cc_hasWall r σ ecell hq, mm_bd_some, hR.wl hq]
        by_cases hw : ((S (75 + q) >>> (nI d &&& 31)) &&& 1) = 0
        · rw [if_pos hw, if_pos rfl, if_pos hw, mm_gd_t (mm_ix_n (by omega) (by omega)), mm_lt_e, mm_li_e, nI_cl (by omega), nI_1, cc_neighbour _ ecell rfl hq hd, mm_bd_some]
        · rw [if_neg hw, if_neg (show ¬ (1 : Int32) = 0 by decide), if_neg hw]
      have eR : fx_X11_steps1_L8 x2 (nI d) (g2 + 1) (nI k) (nI n) (mw μ S) = if ((S (75 + q) >>> (nI d &&& 31)) &&& 1) = 0 then (if 0 ≤ sp_nx q d then mm_bd (fx_X11_cartOn (sp_nx q d) (mw (mm_u μ 10 36 0 k (nI n)) S)) fun r_12 s_12 => (fx_X11_steps1_L8 x2 (nI d) g2 (nI (k + 1)) r_12 s_12) else fx_X11_steps1_L8 x2 (nI d) g2 (nI (k + 1)) (-1) (mw (mm_u μ 10 36 0 k (nI n)) S)) else some (0, mw (mm_u μ 10 36 0 k (nI n)) S) := by
        rw [fx_X11_steps1_L8, if_neg (nI_pos (by omega)), mm_gd_t (mm_ix_n (by omega) (by omega)), mm_lt_e, mm_li_e, nI_cl (by omega), nI_1, mw_s μ S _ (by omega), mo_of (w := 1) (k := 1) _ S rfl rfl (by omega), mm_bd_some, mo_isWall _ S hcell hq, mm_bd_some]
        by_cases hw : ((S (75 + q) >>> (nI d &&& 31)) &&& 1) = 0
        · have hw1 : ¬ ((S (75 + q) >>> (nI d &&& 31)) &&& 1) = 1 := fun z => (and1n _).mp z hw
          rw [if_neg hw1, if_pos rfl, if_pos hw, mo_of (w := 1) (k := 1) _ S rfl rfl (by omega), mm_bd_some, md_next _ hcell rfl hq hd, mm_bd_some]
        · rw [if_pos ((and1n _).mpr hw), if_neg (show ¬ (1 : Int32) = 0 by decide), if_neg hw]
      rw [eL, eR]
      by_cases hw : ((S (75 + q) >>> (nI d &&& 31)) &&& 1) = 0
      · rw [if_pos hw, if_pos hw]
        have hR2 : RS c f (mm_u σ 7 15 0 k (nI n)) r S := hR.congr (fun t n i ht => by rw [mm_u_ap, if_neg (by omega)])
        have hs2 : ∀ i, i < k + 1 → (mm_u σ 7 15 0 k (nI n)) 7 15 0 i = nI ((fun i => if i = k then n else row i) i) := by
          intro i hi
          rw [mm_u_ap]
          by_cases hik : i = k
          · subst hik
            rw [if_pos ⟨rfl, rfl, rfl, rfl⟩]
            simp only [if_true]
          · rw [if_neg (by omega)]
            simp only [if_neg hik]
            exact hs i (by omega)
        have hm2 : ∀ i, i < k + 1 → (mm_u μ 10 36 0 k (nI n)) 10 36 0 i = nI ((fun i => if i = k then n else row i) i) := by
          intro i hi
          rw [mm_u_ap]
          by_cases hik : i = k
          · subst hik
            rw [if_pos ⟨rfl, rfl, rfl, rfl⟩]
            simp only [if_true]
          · rw [if_neg (by omega)]
            simp only [if_neg hik]
            exact hm i (by omega)
        have hp2 : (if k + 1 - 1 = k then q else p (k + 1 - 1)) = q := if_pos (by omega)
        rcases sp_nx_in (d := d) hq with hN | ⟨q2, hq2, hN⟩
        · rw [hN, if_neg (show ¬ (0 : Int32) ≤ -1 by decide), cc_cartOut hW hR2, mm_bd_some]
          exact ih (k + 1) g g2 _ _ (-1) _ _ (by omega) (by omega) (by omega) hR2 hC2 hs2 hm2 (Or.inl ⟨rfl, by omega, by rw [hp2]; exact Or.inl hN⟩)
        · rw [hN, if_pos (nI_pos' (by omega)), cc_cartOn hW hR2 rfl hq2, mm_bd_some, mo_cartOn _ S rfl hW.s0 hW.c4, mm_bd_some]
          refine ih (k + 1) g g2 _ _ _ _ _ (by omega) (by omega) (by omega) hR2 hC2 hs2 hm2 ?_
          rcases sp_on_spec S q2 c hW.c4 with ⟨a, b⟩ | ⟨m, a, b, e3⟩
          · exact Or.inl ⟨a, by omega, by rw [hp2]; exact Or.inr ⟨q2, hq2, hN, b⟩⟩
          · exact Or.inr ⟨m, q2, a, b, hq2, e3, Or.inr (by rw [hp2]; exact hN)⟩
      · rw [if_neg hw, if_neg hw]
        exact Or.inl ⟨σ, _, rfl, rfl, hR⟩
/-- a cart comes to a free cell, or out -/
theorem WF.enter {B c f n : Nat} {v : Int32} {S : Nat → Int32} (h : WF B c f S) (hn : n < c) (hin : S (139 + 17 * n + 1) ≠ -1) (hv : FREE S c v) : WF B c f (sp_enter S n v) := by
  have hW := h.ct hn
  have ho : isN (S (139 + 17 * n + 5)) B := by
    obtain ⟨a1, a2, a3, a4, a5, a6, a7, a8⟩ := hW
    exact a7.elim (fun z => absurd z hin) id
  have out : WF B c f (upd (upd S (139 + 17 * n + 1) (-1)) (139 + 17 * n + 5) (S (139 + 17 * n + 5) + 1)) := by
    refine (h.cell hn (Or.inl rfl)).cart hn (k := 5) (by omega) (by omega) (fun z => absurd z (by omega)) (fun z => absurd z (by omega)) (fun z => absurd z (by omega)) (fun z => absurd z (by omega)) (fun _ => ⟨?_, Or.inl pk_us⟩)
    obtain ⟨k, hk, e⟩ := ho
    exact ⟨k + 1, by omega, by rw [e, nI_1]⟩
  unfold sp_enter
  split
  · exact out
  · next hh =>
    refine h.cell hn ?_
    rcases hv with hv | ⟨q, hq, hv, hf⟩
    · exact absurd (Or.inl (hv ▸ m1_lt0)) hh
    · exact Or.inr ⟨⟨q, hq, hv⟩, ho, fun m hm _ => hv ▸ hf m hm⟩
theorem sp_enter_in {S : Nat → Int32} {n : Nat} {v : Int32} : sp_enter S n v (139 + 17 * n + 1) = -1 ∨ sp_enter S n v (139 + 17 * n + 1) = v := by
  unfold sp_enter
  split
  · rw [pk_un (by omega), pk_us]
    exact Or.inl rfl
  · rw [pk_us]
    exact Or.inr rfl
theorem nx_ne {q d : Nat} (hq : q < 64) (hd : d < 4) : sp_nx q d ≠ nI q := fun e => by
  have := nx_dir hq hd hq e
  omega
theorem mv_wf {B c f d : Nat} {row p : Nat → Nat} (hd : d < 4) : ∀ (i : Nat) (T : Nat → Int32), WF B c f T → CH T c d row p i → (i = 0 ∨ FREE T c (sp_nx (p (i - 1)) d)) → WF B c f (mvN row (fun i => sp_nx (p i) d) i T)
  | 0, T, hW, _, _ => hW
  | j + 1, T, hW, hC, hF => by
    obtain ⟨hr, hp, hcell, _⟩ := hC j (by omega)
    have hT : ∀ v, mvN row (fun i => sp_nx (p i) d) (j + 1) T = v → mvN row (fun i => sp_nx (p i) d) j (sp_enter T (row j) (sp_nx (p j) d)) = v := by
      intro v hv
      rw [mvN_sw row _ (row j) _ ?_ j T (fun i hi => ⟨CH.inj hC hd hi (by omega), ?_⟩)]
      · exact hv
      · rcases sp_nx_in (d := d) hp with e | ⟨k, hk, e⟩
        · rw [e]; exact Or.inl m1_lt0
        · rw [e, nI_cl (by omega)]; exact Or.inr hk
      · rcases sp_nx_in (d := d) (hC i (by omega)).2.1 with e | ⟨k, hk, e⟩
        · rw [e]; exact Or.inl m1_lt0
        · rw [e, nI_cl (by omega)]; exact Or.inr hk
    rw [← hT _ rfl]
    have hF2 : FREE T c (sp_nx (p j) d) := hF.elim (fun z => absurd z (by omega)) (fun z => z)
    have hW2 := hW.enter hr (by rw [hcell]; exact nI_m1 (by omega)) hF2
    have hC2 : CH (sp_enter T (row j) (sp_nx (p j) d)) c d row p j := by
      intro i hi
      obtain ⟨a, b, g, w⟩ := hC i (by omega)
      have hne := CH.inj hC hd hi (by omega)
      exact ⟨a, b, (sp_enter_un T _ _ (by omega) (by omega)).trans g, fun z => w (by omega)⟩
    refine mv_wf hd j _ hW2 hC2 ?_
    by_cases hj : j = 0
    · exact Or.inl hj
    · refine Or.inr (Or.inr ⟨p j, hp, ?_, fun m hm e => ?_⟩)
      · obtain ⟨k, rfl⟩ : ∃ k, j = k + 1 := ⟨j - 1, by omega⟩
        exact (hC k (by omega)).2.2.2 (by omega)
      · by_cases hmj : m = row j
        · subst hmj
          rcases sp_enter_in (S := T) (n := row j) (v := sp_nx (p j) d) with z | z
          · exact m1_nI (by omega) (z.symm.trans e)
          · exact nx_ne hp hd (z.symm.trans e)
        · rw [sp_enter_un T _ _ (by omega) (by omega)] at e
          have := hW.ap hm hr hmj (e.trans hcell.symm)
          exact m1_nI (by omega) (this.symm.trans e)
theorem cls_move {B c f r d L : Nat} {x : Int32} {row p : Nat → Nat} {S : Nat → Int32} (hW : WF B c f S) (hr : r < 6) (hd : d < 4) (hL : L ≤ 4) (hC : CH S c d row p L) : ∀ (e i fu : Nat) (σ : mm_M), i + e = L → e < fu → RS c f σ r (mvN row (fun i => sp_nx (p i) d) i S) → (∀ i, i < L → σ 7 15 0 i = nI (row i)) → ∃ σ2, fx_X2_step_L75 r x (nI d) fu (nI L) (nI i) σ = some (1, σ2) ∧ RS c f σ2 r (upd (mvN row (fun i => sp_nx (p i) d) L S) 6 (S 6 + (nI L - 1))) := by
  have hc := hW.c4
  have hf4 := hW.f4
  have rc : ∀ i, i < L → row i < c := fun i hi => (hC i hi).1
  have m6 : ∀ i, i ≤ L → mvN row (fun i => sp_nx (p i) d) i S 6 = S 6 := fun i hi => mvN_un row _ i S (fun j hj => ⟨by omega, by omega⟩)
  intro e
  induction e with
  | zero =>
    intro i fu σ hk hf hR hs
    obtain ⟨g, rfl⟩ : ∃ g, fu = g + 1 := ⟨fu - 1, by omega⟩
    have : i = L := by omega
    subst this
    rw [fx_X2_step_L75, if_pos (le_lit rfl (Nat.le_refl _) (by omega)), mm_lt_e]
    refine ⟨_, rfl, ?_⟩
    have e6 : σ r 0 0 6 = S 6 := hR.2.2.2.2.1.trans (m6 i (by omega))
    rw [e6]
    exact hR.glob hc hf4 (a := 6) (b := 6) (by omega) _
  | succ e ih =>
    intro i fu σ hk hf hR hs
    obtain ⟨g, rfl⟩ : ∃ g, fu = g + 1 := ⟨fu - 1, by omega⟩
    obtain ⟨hri, hpi, hcell, _⟩ := hC i (by omega)
    have ecell : σ r 6 (row i) 3 = nI (p i) := by
      refine (hR.ct hri (k := 1) (by omega)).trans ((mvN_un row _ i S (fun j hj => ?_)).trans hcell)
      have := CH.inj hC hd hj (by omega)
      exact ⟨by omega, by omega⟩
    rw [fx_X2_step_L75, if_neg (nle_lit rfl (by omega) (by omega) : ¬ nI L ≤ nI i), mm_gd_t (mm_ix_n (by omega) (by omega)), nI_cl (by omega), hs i (by omega), mm_gd_t (mm_ix_n (by omega) (by omega)), nI_cl (by omega), cc_neighbour σ ecell rfl hpi hd, mm_bd_some]
    obtain ⟨σ1, h1, h2⟩ := cc_enter hR hc hf4 hri (v := sp_nx (p i) d) (sp_nx_in hpi)
    rw [h1, mm_bd_some, mm_li_e, nI_1]
    refine ih (i + 1) g σ1 (by omega) (by omega) h2 (fun k hk => ?_)
    have F := fr_X8_enter r r (row i) (sp_nx (p i) d) σ 0 σ1 h1
    rw [F.row (q := 7) (t := 15) (n := 0) (fun j hj => by unfold fw_X8_enter at hj; omega)]
    exact hs k hk
theorem upd_uu (f : Nat → Int32) (i : Nat) (x y : Int32) : upd (upd f i x) i y = upd f i y := by
  funext k
  unfold upd
  split <;> rfl
theorem mod_move {c d : Nat} {x : Int32} {row p : Nat → Nat} {μ : mm_M} (hd : d < 4) (hc : c ≤ 4) : ∀ (i fu : Nat) (T : Nat → Int32), i < fu → i ≤ 4 → CH T c d row p i → (∀ j, j < i → μ 10 36 0 j = nI (row j)) → fx_X11_steps1_L79 x (nI d) fu (nI i - 1) (mw μ T) = some (1, mw μ (if i = 0 then T else upd (mvN row (fun i => sp_nx (p i) d) i T) 6 (T 6 + (nI i - 1)))) := by
  intro i
  induction i with
  | zero =>
    intro fu T hf h4 hC hm
    obtain ⟨g, rfl⟩ : ∃ g, fu = g + 1 := ⟨fu - 1, by omega⟩
    rw [fx_X11_steps1_L79, if_pos (show nI 0 - 1 < (0 : Int32) by decide), if_pos rfl]
  | succ j ih =>
    intro fu T hf h4 hC hm
    obtain ⟨g, rfl⟩ : ∃ g, fu = g + 1 := ⟨fu - 1, by omega⟩
    obtain ⟨hr, hp, hcell, _⟩ := hC j (by omega)
    have ej : nI (j + 1) - 1 = nI j := pk_sub (a := j + 1) (b := 1) (by omega)
    have e36 : ∀ T, mw μ T 10 36 0 j = nI (row j) := fun T => by rw [mw_oth μ T (by omega)]; exact hm j (by omega)
    have hin : ∀ k, k < 64 → sp_nx (p j) d = nI k → True := fun _ _ _ => trivial
    have htg : ∀ i, i < j + 1 → sp_nx (p i) d < 0 ∨ (sp_nx (p i) d).toNatClampNeg < 64 := by
      intro i hi
      rcases sp_nx_in (d := d) (hC i hi).2.1 with e | ⟨k, hk, e⟩
      · rw [e]; exact Or.inl m1_lt0
      · rw [e, nI_cl (by omega)]; exact Or.inr hk
    have hC2 : ∀ v, CH (upd (sp_enter T (row j) (sp_nx (p j) d)) 6 v) c d row p j := by
      intro v i hi
      obtain ⟨a, b, g, w⟩ := hC i (by omega)
      have hne := CH.inj hC hd hi (by omega)
      exact ⟨a, b, (pk_un (by omega)).trans ((sp_enter_un T _ _ (by omega) (by omega)).trans g), fun z => w (by omega)⟩
    have e6 : sp_enter T (row j) (sp_nx (p j) d) 6 = T 6 := sp_enter_un T _ _ (by omega) (by omega)
    have hJ : ∀ w3, fx_X11_steps1_J133 x (nI d) (fun z0 z => fx_X11_steps1_L79 x (nI d) g z0 z) (nI j) 6 (T 6) w3 (mw μ (sp_enter T (row j) (sp_nx (p j) d))) = fx_X11_steps1_L79 x (nI d) g (nI j - 1) (mw μ (upd (sp_enter T (row j) (sp_nx (p j) d)) 6 (T 6 + w3))) := by
      intro w3
      have hm1 : nI j + (-1 : Int32) = nI j - 1 := by rw [Int32.sub_eq_add_neg]
      rw [fx_X11_steps1_J133, mm_gd_t (by decide), mm_lt_e, mm_li_e, hm1]
      show fx_X11_steps1_L79 x (nI d) g (nI j - 1) (mm_u (mw μ (sp_enter T (row j) (sp_nx (p j) d))) 10 31 0 6 (T 6 + w3)) = _
      rw [mw_u]
    rw [fx_X11_steps1_L79, ej, if_neg (nI_pos (by omega)), mm_gd_t (mm_ix_n (by omega) (by omega)), nI_cl (by omega), e36, mo_of (w := 1) (k := 1) μ T rfl rfl (by omega), mm_bd_some, md_next _ hcell rfl hp hd, mm_bd_some, mm_gd_t (mm_ix_n (by omega) (by omega)), e36, mo_comesTo μ T rfl (by omega) (sp_nx_in hp), mm_bd_some]
    have e60 : mw μ (sp_enter T (row j) (sp_nx (p j) d)) 10 31 0 (6 : Int32).toNatClampNeg = T 6 := by
      rw [mw_row]; exact e6
    rw [e60]
    by_cases hj : j = 0
    · subst hj
      rw [if_pos (show nI 0 ≤ (0 : Int32) by decide), hJ, ih g _ (by omega) (by omega) (hC2 _) (fun j hj => absurd hj (by omega)), if_pos rfl, if_neg (by omega)]
      rfl
    · obtain ⟨s, rfl⟩ : ∃ s, j = s + 1 := ⟨j - 1, by omega⟩
      rw [if_neg (show ¬ nI (s + 1) ≤ (0 : Int32) from nle_lit (x := nI (s + 1)) (b := s + 1) (a := 0) rfl (by omega) (by omega)), hJ, ih g _ (by omega) (by omega) (hC2 _) (fun j hj => hm j (by omega)), if_neg (by omega), if_neg (by omega)]
      congr 3
      rw [mvN_6 row _ _ (s + 1) _ (fun i hi => htg i (by omega)), upd_uu, pk_us, mvN_sw row _ (row (s + 1)) _ (htg (s + 1) (by omega)) (s + 1) T (fun i hi => ⟨CH.inj hC hd hi (by omega), htg i (by omega)⟩)]
      congr 1
      have e1 : nI (s + 1) - 1 = nI s := pk_sub (a := s + 1) (b := 1) (by omega)
      rw [e1, ← nI_1, Int32.add_assoc, Int32.add_comm 1 (nI s)]
/-- nobody's count of times out falls -/
def MO (j c : Nat) (S S1 : Nat → Int32) : Prop := ∀ n, n < c → ∀ k, S (139 + 17 * n + 5) = nI k → ∃ k2, k ≤ k2 ∧ k2 ≤ k + j ∧ S1 (139 + 17 * n + 5) = nI k2 ∧ (k2 = k → S (139 + 17 * n + 1) ≠ -1 → S1 (139 + 17 * n + 1) ≠ -1)
theorem MO.of {c j : Nat} {S S1 : Nat → Int32} (h : ∀ n, n < c → S1 (139 + 17 * n + 5) = S (139 + 17 * n + 5)) (h2 : ∀ n, n < c → S (139 + 17 * n + 1) ≠ -1 → S1 (139 + 17 * n + 1) ≠ -1) : MO j c S S1 := fun n hn k e => ⟨k, Nat.le_refl _, Nat.le_add_right _ _, (h n hn).trans e, fun _ => h2 n hn⟩
theorem MO.eq {c j : Nat} {S S1 : Nat → Int32} (h : ∀ n, n < c → S1 (139 + 17 * n + 5) = S (139 + 17 * n + 5)) (h2 : ∀ n, n < c → S1 (139 + 17 * n + 1) = S (139 + 17 * n + 1)) : MO j c S S1 := MO.of h (fun n hn z => by rw [h2 n hn]; exact z)
theorem MO.rf {c j : Nat} {S : Nat → Int32} : MO j c S S := MO.eq (fun _ _ => rfl) (fun _ _ => rfl)
theorem MO.trans {c i j : Nat} {S T U : Nat → Int32} (h : MO i c S T) (h2 : MO j c T U) : MO (i + j) c S U := fun n hn k e => by
  obtain ⟨a, ha, ha2, e1, f1⟩ := h n hn k e
  obtain ⟨b, hb, hb2, e2, f2⟩ := h2 n hn a e1
  exact ⟨b, Nat.le_trans ha hb, by omega, e2, fun z w => f2 (by omega) (f1 (by omega) w)⟩
theorem MO.le {c i j : Nat} {S T : Nat → Int32} (h : MO i c S T) (hij : i ≤ j) : MO j c S T := fun n hn k e => by
  obtain ⟨a, ha, ha2, e1, f1⟩ := h n hn k e
  exact ⟨a, ha, by omega, e1, f1⟩
theorem sp_enter_mo {c : Nat} (S : Nat → Int32) (n : Nat) (v : Int32) : MO 1 c S (sp_enter S n v) := by
  intro m hm k e
  by_cases hmn : m = n
  · subst hmn
    unfold sp_enter
    split
    · rw [pk_us, e, nI_1]
      exact ⟨k + 1, Nat.le_succ k, Nat.le_refl _, rfl, fun z => absurd z (by omega)⟩
    · next hh =>
      rw [pk_un (show 139 + 17 * m + 5 ≠ 139 + 17 * m + 1 by omega), pk_us, e]
      exact ⟨k, Nat.le_refl _, Nat.le_succ k, rfl, fun _ _ z => hh (Or.inl (z ▸ m1_lt0))⟩
  · rw [sp_enter_un S n v (by omega) (by omega), sp_enter_un S n v (i := 139 + 17 * m + 1) (by omega) (by omega)]
    exact ⟨k, Nat.le_refl _, Nat.le_succ k, e, fun _ z => z⟩
theorem mvN_mo {c : Nat} (row : Nat → Nat) (tg : Nat → Int32) (S : Nat → Int32) : ∀ k, MO k c S (mvN row tg k S)
  | 0 => MO.rf
  | k + 1 => (mvN_mo row tg S k).trans (sp_enter_mo _ _ _)
/-- one step, on both sides -/
theorem step_both {B c f r n d : Nat} {σ μ : mm_M} {S : Nat → Int32} (hW : WF B c f S) (hR : RS c f σ r S) (hr : r < 6) (hn : n < c) (hd : d < 4) (hin : S (139 + 17 * n + 1) ≠ -1) : ∃ v S1 σ1 μ1, fx_X2_step r (nI n) (nI d) σ = some (v, σ1) ∧ fx_X11_steps1 (nI n) (nI d) (mw μ S) = some (v, mw μ1 S1) ∧ (v = 0 ∨ v = 1) ∧ WF B c f S1 ∧ RS c f σ1 r S1 ∧ MO 4 c S S1 := by
  obtain ⟨q, hq, hcell⟩ := (hW.ct hn).cell.elim (fun z => absurd z hin) id
  rw [fx_X2_step, fx_X11_steps1]
  rcases find_L (x := nI n) (x2 := nI n) hW hr hd 5 0 mm_FU mm_FU (fun _ => 0) (fun _ => 0) (nI n) σ μ (by omega) (by unfold mm_FU; omega) (by unfold mm_FU; omega) hR (fun i hi => absurd hi (by omega)) (fun i hi => absurd hi (by omega)) (fun i hi => absurd hi (by omega)) (Or.inr ⟨n, q, hn, rfl, hq, hcell, Or.inl rfl⟩) with ⟨σ1, μ1, e1, e2, h⟩ | ⟨L, row, p, σ1, μ1, h0, h4, hC, hs, hm, hF, hR1, e1, e2⟩
  · exact ⟨0, S, σ1, μ1, e1, e2, Or.inl rfl, hW, h, MO.rf⟩
  · obtain ⟨σ2, e3, hR2⟩ := cls_move (x := nI n) hW hr hd h4 hC L 0 mm_FU σ1 (by omega) (by unfold mm_FU; omega) hR1 hs
    have e4 := mod_move (x := nI n) (μ := μ1) hd hW.c4 L mm_FU S (by unfold mm_FU; omega) h4 hC hm
    rw [if_neg (by omega)] at e4
    exact ⟨1, _, σ2, μ1, e1.trans e3, e2.trans e4, Or.inr rfl, (mv_wf hd L S hW hC (Or.inr hF)).glob (by omega) _, hR2, ((mvN_mo _ _ _ L).trans (MO.eq (j := 0) (fun n hn => pk_un (by omega)) (fun n hn => pk_un (by omega)))).le h4⟩
