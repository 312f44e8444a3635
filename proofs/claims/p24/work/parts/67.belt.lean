/-! belts -/
def bo (S : Nat → Int32) (n : Nat) : Prop := ∃ q k, q < 64 ∧ k < 4 ∧ S (139 + 17 * n + 1) = nI q ∧ S (11 + q) = nI (k + 1)
def bc (S : Nat → Int32) (n : Nat) : Prop := ∃ q k, q < 64 ∧ k < 4 ∧ S (139 + 17 * n + 1) = nI q ∧ S (11 + q) = nI (k + 1) ∧ ((S (75 + q) >>> (nI k &&& 31)) &&& 1) = 0
def bw (S : Nat → Int32) (n : Nat) : Int32 := if S (139 + 17 * n + 1) = -1 then -1 else if S (11 + (S (139 + 17 * n + 1)).toNatClampNeg) < 1 ∨ 4 < S (11 + (S (139 + 17 * n + 1)).toNatClampNeg) then -1 else sp_nx (S (139 + 17 * n + 1)).toNatClampNeg (S (11 + (S (139 + 17 * n + 1)).toNatClampNeg) - 1).toNatClampNeg
theorem belt_case {B c f n : Nat} {S : Nat → Int32} (hW : WF B c f S) (hn : n < c) : (S (139 + 17 * n + 1) = -1 ∧ bw S n = -1 ∧ ¬ bo S n ∧ ¬ bc S n) ∨ (∃ q j, q < 64 ∧ j < 9 ∧ S (139 + 17 * n + 1) = nI q ∧ S (11 + q) = nI j ∧ (j = 0 ∨ 5 ≤ j) ∧ bw S n = -1 ∧ ¬ bo S n ∧ ¬ bc S n) ∨ ∃ q k, q < 64 ∧ k < 4 ∧ S (139 + 17 * n + 1) = nI q ∧ S (11 + q) = nI (k + 1) ∧ bw S n = sp_nx q k ∧ bo S n ∧ (bc S n ↔ ((S (75 + q) >>> (nI k &&& 31)) &&& 1) = 0) := by
  rcases (hW.ct hn).cell with e | ⟨q, hq, e⟩
  · refine Or.inl ⟨e, if_pos e, ?_, ?_⟩
    · rintro ⟨q, k, a, b, d, g⟩
      exact m1_nI (by omega) (e.symm.trans d)
    · rintro ⟨q, k, a, b, d, g, w⟩
      exact m1_nI (by omega) (e.symm.trans d)
  · obtain ⟨j, hj, ej⟩ := hW.kd hq
    have eq1 : ∀ q2, q2 < 64 → S (139 + 17 * n + 1) = nI q2 → q2 = q := fun q2 h2 e2 => (nI_e (by omega) (by omega)).mp (e2.symm.trans e)
    by_cases hjb : j = 0 ∨ 5 ≤ j
    · refine Or.inr (Or.inl ⟨q, j, hq, hj, e, ej, hjb, ?_, ?_, ?_⟩)
      · unfold bw
        rw [e, if_neg (nI_m1 (by omega)), nI_cl (by omega), ej, if_pos]
        rcases hjb with h | h
        · subst h; exact Or.inl (by decide)
        · exact Or.inr (lt_lit (a := 4) rfl (by omega) (by omega))
      · rintro ⟨q2, k, a, b, d, g⟩
        have := eq1 q2 a d
        subst this
        have := (nI_e (by omega) (by omega)).mp (ej.symm.trans g)
        omega
      · rintro ⟨q2, k, a, b, d, g, w⟩
        have := eq1 q2 a d
        subst this
        have := (nI_e (by omega) (by omega)).mp (ej.symm.trans g)
        omega
    · obtain ⟨k, rfl⟩ : ∃ k, j = k + 1 := ⟨j - 1, by omega⟩
      refine Or.inr (Or.inr ⟨q, k, hq, by omega, e, ej, ?_, ⟨q, k, hq, by omega, e, ej⟩, ?_, fun w => ⟨q, k, hq, by omega, e, ej, w⟩⟩)
      · have e1 : nI (k + 1) - 1 = nI k := pk_sub (a := k + 1) (b := 1) (by omega)
        unfold bw
        rw [e, if_neg (nI_m1 (by omega)), nI_cl (by omega), ej, if_neg, e1, nI_cl (by omega)]
        rintro (h | h)
        · exact nlt_lit (x := 1) (b := 1) rfl (by omega) (by omega) h
        · exact nlt_lit (a := 4) (b := k + 1) rfl (by omega) (by omega) h
      · rintro ⟨q2, k2, a, b, d, g, w⟩
        have := eq1 q2 a d
        subst this
        have := (nI_e (by omega) (by omega)).mp (ej.symm.trans g)
        have : k = k2 := by omega
        subst this
        exact w
theorem bw_in {B c f n : Nat} {S : Nat → Int32} (hW : WF B c f S) (hn : n < c) : bw S n = -1 ∨ ∃ q, q < 64 ∧ bw S n = nI q := by
  rcases belt_case hW hn with ⟨_, h, _⟩ | ⟨q, j, _, _, _, _, _, h, _⟩ | ⟨q, k, hq, hk, _, _, h, _⟩
  · exact Or.inl h
  · exact Or.inl h
  · rw [h]; exact sp_nx_in hq
theorem bw_bo {B c f n : Nat} {S : Nat → Int32} (hW : WF B c f S) (hn : n < c) (h : bw S n ≠ -1) : bo S n := by
  rcases belt_case hW hn with ⟨_, h1, _⟩ | ⟨q, j, _, _, _, _, _, h1, _⟩ | ⟨q, k, hq, hk, _, _, h1, h2, _⟩
  · exact absurd h1 h
  · exact absurd h1 h
  · exact h2
theorem bo_in {S : Nat → Int32} {n : Nat} (h : bo S n) : S (139 + 17 * n + 1) ≠ -1 := by
  obtain ⟨q, k, a, b, d, g⟩ := h
  rw [d]
  exact nI_m1 (by omega)
theorem bw_ne {B c f n : Nat} {S : Nat → Int32} (hW : WF B c f S) (hn : n < c) (h : bw S n ≠ -1) : S (139 + 17 * n + 1) ≠ bw S n := by
  rcases belt_case hW hn with ⟨_, h1, _⟩ | ⟨q, j, _, _, _, _, _, h1, _⟩ | ⟨q, k, hq, hk, e, _, h1, h2, _⟩
  · exact absurd h1 h
  · exact absurd h1 h
  · rw [e, h1]
    exact fun z => nx_ne hq hk z.symm
/-- the class asks all carts -/
theorem ask_1 {B c f r n : Nat} {S : Nat → Int32} {σ : mm_M} (fu : Nat) (hW : WF B c f S) (hr : r < 6) (hn : n < c) (hR : RS c f σ r S) : ∃ a g, fx_X0_askAll_L2 r (fu + 1) (nI n) σ = fx_X0_askAll_L2 r fu (nI (n + 1)) (mm_u (mm_u (mm_u σ 7 17 0 n a) 7 18 0 n (bw S n)) 7 19 0 n g) ∧ (a = 0 ↔ ¬ bo S n) ∧ (g = 0 ↔ ¬ bc S n) := by
  have hc4 := hW.c4
  have hc0 : σ r 0 0 2 = nI c := hR.s0.trans hW.s0
  have ec : σ r 6 n 3 = S (139 + 17 * n + 1) := hR.ct hn (k := 1) (by omega)
  have G : ∀ x, mm_gd (mm_ix (nI n) 4 = true) x = x := fun x => mm_gd_t (mm_ix_n (by omega) (by omega)) x
  have c1 : (nI n).toNatClampNeg = n := nI_cl (by omega)
  have B0 : ∀ x, mm_gd ((0 : Int32) = 0 ∨ (0 : Int32) = 1) x = x := fun x => mm_gd_t (Or.inl rfl) x
  have B1 : ∀ x, mm_gd ((1 : Int32) = 0 ∨ (1 : Int32) = 1) x = x := fun x => mm_gd_t (Or.inr rfl) x
  have w17 : ∀ (σ : mm_M) v, mm_u σ 7 17 0 n v 7 17 0 n = v := fun σ v => by rw [mm_u_ap, if_pos ⟨rfl, rfl, rfl, rfl⟩]
  have w17b : ∀ (σ : mm_M) v w, mm_u (mm_u σ 7 17 0 n v) 7 18 0 n w 7 17 0 n = v := fun σ v w => by rw [mm_u_ap, if_neg (by omega), w17]
  have Z : ∀ v3 v5, fx_X0_askAll_J57 r (fun z0 z => fx_X0_askAll_L2 r fu z0 z) (nI n) v3 v5 (nI n) σ = fx_X0_askAll_L2 r fu (nI (n + 1)) (mm_u (mm_u (mm_u σ 7 17 0 n 0) 7 18 0 n (-1)) 7 19 0 n 0) := by
    intro v3 v5
    rw [fx_X0_askAll_J57, fx_X0_askAll_J58, G, B0, mm_lt_e, c1, G, w17, if_pos rfl, fx_X0_askAll_J83, G, mm_lt_e, c1, G, w17b, if_pos rfl, fx_X0_askAll_J115, fx_X0_askAll_J116, G, B0, mm_lt_e, mm_li_e, c1, nI_1]
  rw [fx_X0_askAll_L2, hc0, if_neg (nle_lit rfl (by omega) (by omega) : ¬ nI c ≤ nI n), G, c1, mm_li_e, ec]
  rcases belt_case hW hn with ⟨e, h1, h2, h3⟩ | ⟨q, j, hq, hj, e, ej, hjb, h1, h2, h3⟩ | ⟨q, k, hq, hk, e, ek, h1, h2, h3⟩
  · refine ⟨0, 0, ?_, ⟨fun _ => h2, fun _ => rfl⟩, ⟨fun _ => h3, fun _ => rfl⟩⟩
    rw [e, cc_kindOut, mm_bd_some, mm_li_e, if_pos (show (-1 : Int32) < 1 by decide), Z, h1]
  · refine ⟨0, 0, ?_, ⟨fun _ => h2, fun _ => rfl⟩, ⟨fun _ => h3, fun _ => rfl⟩⟩
    rw [cc_kindOn r σ e hq, mm_bd_some, mm_li_e, hR.kd hq, ej, h1]
    rcases hjb with h | h
    · subst h
      rw [if_pos (show nI 0 < 1 by decide), Z]
    · rw [if_neg (nlt_lit (x := 1) (b := 1) rfl (by omega) (by omega)), if_pos (show (4 : Int32) < nI j from lt_lit (a := 4) rfl (by omega) (by omega)), Z]
  · have e1 : nI (k + 1) - 1 = nI k := pk_sub (a := k + 1) (b := 1) (by omega)
    have hwl : ∀ v w, mm_u (mm_u σ 7 17 0 n v) 7 18 0 n w r 3 0 q = S (75 + q) := fun v w => by rw [mm_u_ap, if_neg (by omega), mm_u_ap, if_neg (by omega), hR.wl hq]
    rw [cc_kindOn r σ e hq, mm_bd_some, mm_li_e, hR.kd hq, ek, h1, e1, if_neg (nlt_lit (x := 1) (b := 1) rfl (by omega) (by omega)), if_neg (show ¬ (4 : Int32) < nI (k + 1) from nlt_lit (a := 4) rfl (by omega) (by omega)), fx_X0_askAll_J58, G, B1, mm_lt_e, c1, G, w17, if_neg (show ¬ (1 : Int32) = 0 by decide), cc_neighbour _ e rfl hq hk, mm_bd_some, fx_X0_askAll_J83, G, mm_lt_e, c1, G, w17b, if_neg (show ¬ (1 : Int32) = 0 by decide), cc_hasWall r _ e hq, hwl, mm_bd_some]
    by_cases hw : ((S (75 + q) >>> (nI k &&& 31)) &&& 1) = 0
    · refine ⟨1, 1, ?_, ⟨fun z => absurd z (by decide), fun z => absurd h2 z⟩, ⟨fun z => absurd z (by decide), fun z => absurd (h3.mpr hw) z⟩⟩
      rw [if_pos hw, if_pos rfl, fx_X0_askAll_J116, G, B1, mm_lt_e, mm_li_e, c1, nI_1]
    · refine ⟨1, 0, ?_, ⟨fun z => absurd z (by decide), fun z => absurd h2 z⟩, ⟨fun _ z => hw (h3.mp z), fun _ => rfl⟩⟩
      rw [if_neg hw, if_neg (show ¬ (1 : Int32) = 0 by decide), fx_X0_askAll_J115, fx_X0_askAll_J116, G, B0, mm_lt_e, mm_li_e, c1, nI_1]
def BC (c f r : Nat) (S : Nat → Int32) (k : Nat) (σ : mm_M) : Prop := RS c f σ r S ∧ (∀ n, n < k → (σ 7 17 0 n = 0 ↔ ¬ bo S n)) ∧ ∀ n, n < k → σ 7 18 0 n = bw S n
theorem ask_L {B c f r : Nat} {S : Nat → Int32} (hW : WF B c f S) (hr : r < 6) : ∀ (e k fu : Nat) (σ : mm_M), k + e = c → e < fu → BC c f r S k σ → (∀ n, n < k → (σ 7 19 0 n = 0 ↔ ¬ bc S n)) → ∃ σ1, fx_X0_askAll_L2 r fu (nI k) σ = some (0, σ1) ∧ BC c f r S c σ1 ∧ ∀ n, n < c → (σ1 7 19 0 n = 0 ↔ ¬ bc S n) := by
  have hc4 := hW.c4
  intro e
  induction e with
  | zero =>
    intro k fu σ hk hf hB h19
    obtain ⟨g, rfl⟩ : ∃ g, fu = g + 1 := ⟨fu - 1, by omega⟩
    have : k = c := by omega
    subst this
    have hc0 : σ r 0 0 2 = nI k := hB.1.s0.trans hW.s0
    rw [fx_X0_askAll_L2, hc0, if_pos (le_lit rfl (Nat.le_refl _) (by omega))]
    exact ⟨σ, rfl, hB, h19⟩
  | succ e ih =>
    intro k fu σ hk hf hB h19
    obtain ⟨g, rfl⟩ : ∃ g, fu = g + 1 := ⟨fu - 1, by omega⟩
    obtain ⟨a, b, e1, h1, h2⟩ := ask_1 g hW hr (n := k) (by omega) hB.1
    rw [e1]
    have V : ∀ t i, t = 17 ∨ t = 18 ∨ t = 19 → i ≠ k → (mm_u (mm_u (mm_u σ 7 17 0 k a) 7 18 0 k (bw S k)) 7 19 0 k b) 7 t 0 i = σ 7 t 0 i := fun t i ht hi => by rw [mm_u_ap, if_neg (by omega), mm_u_ap, if_neg (by omega), mm_u_ap, if_neg (by omega)]
    refine ih (k + 1) g _ (by omega) (by omega) ⟨hB.1.congr (fun t m i ht => by rw [mm_u_ap, if_neg (by omega), mm_u_ap, if_neg (by omega), mm_u_ap, if_neg (by omega)]), fun n hn => ?_, fun n hn => ?_⟩ (fun n hn => ?_)
    · by_cases hnk : n = k
      · subst hnk
        rw [mm_u_ap, if_neg (by omega), mm_u_ap, if_neg (by omega), mm_u_ap, if_pos ⟨rfl, rfl, rfl, rfl⟩]
        exact h1
      · rw [V 17 n (by omega) hnk]
        exact hB.2.1 n (by omega)
    · by_cases hnk : n = k
      · subst hnk
        rw [mm_u_ap, if_neg (by omega), mm_u_ap, if_pos ⟨rfl, rfl, rfl, rfl⟩]
      · rw [V 18 n (by omega) hnk]
        exact hB.2.2 n (by omega)
    · by_cases hnk : n = k
      · subst hnk
        rw [mm_u_ap, if_pos ⟨rfl, rfl, rfl, rfl⟩]
        exact h2
      · rw [V 19 n (by omega) hnk]
        exact h19 n (by omega)
/-- the model's own -/
theorem mo_onBelt {B c f n : Nat} {S : Nat → Int32} (μ : mm_M) (hW : WF B c f S) (hn : n < c) : ∃ v, fx_X11_isOnBelt (nI n) (mw μ S) = some (v, mw μ S) ∧ (v = 0 ↔ ¬ bo S n) := by
  have hc4 := hW.c4
  have e11 : ∀ q, (11 : Int32) + nI q = nI (11 + q) := fun q => by show nI 11 + nI q = _; rw [nI_add]
  rw [fx_X11_isOnBelt, mo_isOut μ S rfl (by omega), mm_bd_some]
  rcases belt_case hW hn with ⟨e, h1, h2, h3⟩ | ⟨q, j, hq, hj, e, ej, hjb, h1, h2, h3⟩ | ⟨q, k, hq, hk, e, ek, h1, h2, h3⟩
  · rw [if_pos ((out_iff (hW.ct hn)).mpr e), if_neg (show ¬ (1 : Int32) = 0 by decide)]
    exact ⟨0, rfl, fun _ => h2, fun _ => rfl⟩
  · rw [if_neg (fun z => nI_m1 (by omega) (e.symm.trans ((out_iff (hW.ct hn)).mp z))), if_pos rfl, mo_of (w := 1) (k := 1) μ S rfl rfl (by omega), mm_bd_some, e, e11, mm_gd_t (mm_ix_n (by omega) (by omega)), nI_cl (by omega), mw_row, ej, md_in, mm_bd_some]
    have hk : ¬ ((1 : Int32) ≤ nI j ∧ nI j ≤ 4) := by
      rintro ⟨z1, z2⟩
      rcases hjb with h | h
      · subst h; exact absurd z1 (by decide)
      · exact nle_lit (a := 4) (b := j) rfl (by omega) (by omega) z2
    rw [if_neg hk, if_pos rfl]
    exact ⟨0, rfl, fun _ => h2, fun _ => rfl⟩
  · have hk1 : (1 : Int32) ≤ nI (k + 1) ∧ nI (k + 1) ≤ 4 := ⟨le_lit (a := k + 1) (x := 1) (b := 1) rfl (by omega) (by omega), le_lit (a := 4) (b := k + 1) rfl (by omega) (by omega)⟩
    rw [if_neg (fun z => nI_m1 (by omega) (e.symm.trans ((out_iff (hW.ct hn)).mp z))), if_pos rfl, mo_of (w := 1) (k := 1) μ S rfl rfl (by omega), mm_bd_some, e, e11, mm_gd_t (mm_ix_n (by omega) (by omega)), nI_cl (by omega), mw_row, ek, md_in, mm_bd_some, if_pos hk1, if_neg (show ¬ (1 : Int32) = 0 by decide)]
    exact ⟨1, rfl, fun z => absurd z (by decide), fun z => absurd h2 z⟩
theorem mo_wants {B c f n : Nat} {S : Nat → Int32} (μ : mm_M) (hW : WF B c f S) (hn : n < c) : fx_X11_wants (nI n) (mw μ S) = some (bw S n, mw μ S) := by
  have hc4 := hW.c4
  have e11 : ∀ q, (11 : Int32) + nI q = nI (11 + q) := fun q => by show nI 11 + nI q = _; rw [nI_add]
  obtain ⟨v, ev, hv⟩ := mo_onBelt μ hW hn
  rw [fx_X11_wants, ev, mm_bd_some]
  rcases belt_case hW hn with ⟨e, h1, h2, h3⟩ | ⟨q, j, hq, hj, e, ej, hjb, h1, h2, h3⟩ | ⟨q, k, hq, hk, e, ek, h1, h2, h3⟩
  · rw [if_pos (hv.mpr h2), h1]
  · rw [if_pos (hv.mpr h2), h1]
  · have e1 : nI (k + 1) - 1 = nI k := pk_sub (a := k + 1) (b := 1) (by omega)
    rw [if_neg (fun z => hv.mp z h2), mo_of (w := 1) (k := 1) μ S rfl rfl (by omega), mm_bd_some, mo_of (w := 1) (k := 1) μ S rfl rfl (by omega), mm_bd_some, e, e11, mm_gd_t (mm_ix_n (by omega) (by omega)), nI_cl (by omega), mw_row, ek, e1, md_next _ rfl rfl hq hk, mm_bd_some, h1]
theorem blt_1 {B c f n : Nat} {S : Nat → Int32} (fu : Nat) (μ : mm_M) (hW : WF B c f S) (hn : n < c) : ∃ g, fx_X11_belts_L2 (fu + 1) (nI n) (mw μ S) = fx_X11_belts_L2 fu (nI (n + 1)) (mw (mm_u (mm_u μ 10 38 0 n g) 10 39 0 n (bw S n)) S) ∧ (g = 0 ↔ ¬ bc S n) := by
  have hc4 := hW.c4
  have e11 : ∀ q, (11 : Int32) + nI q = nI (11 + q) := fun q => by show nI 11 + nI q = _; rw [nI_add]
  have G : ∀ x, mm_gd (mm_ix (nI n) 4 = true) x = x := fun x => mm_gd_t (mm_ix_n (by omega) (by omega)) x
  have c1 : (nI n).toNatClampNeg = n := nI_cl (by omega)
  have J : ∀ g : Int32, g = 0 ∨ g = 1 → fx_X11_belts_J59 (fun z0 z => fx_X11_belts_L2 fu z0 z) (nI n) (nI n) g (mw μ S) = fx_X11_belts_L2 fu (nI (n + 1)) (mw (mm_u (mm_u μ 10 38 0 n g) 10 39 0 n (bw S n)) S) := by
    intro g hg
    rw [fx_X11_belts_J59, G, mm_gd_t hg, mm_lt_e, c1, mw_s μ S _ (by omega), mo_wants _ hW hn, mm_bd_some, G, mm_lt_e, mw_s _ S _ (by omega), mm_li_e, nI_1]
  have hc1 : mw μ S 10 31 0 (0 : Int32).toNatClampNeg = nI c := by rw [mw_row]; exact hW.s0
  obtain ⟨v, ev, hv⟩ := mo_onBelt μ hW hn
  rw [fx_X11_belts_L2, hc1, if_neg (nle_lit rfl (by omega) (by omega) : ¬ nI c ≤ nI n), ev, mm_bd_some]
  have Z : ¬ bo S n → ¬ bc S n → ∀ X : mm_R, ∃ g, (if v = 0 then fx_X11_belts_J58 (fun z0 z => fx_X11_belts_L2 fu z0 z) (nI n) (nI n) (mw μ S) else X) = fx_X11_belts_L2 fu (nI (n + 1)) (mw (mm_u (mm_u μ 10 38 0 n g) 10 39 0 n (bw S n)) S) ∧ (g = 0 ↔ ¬ bc S n) := by
    intro h2 h3 X
    refine ⟨0, ?_, fun _ => h3, fun _ => rfl⟩
    rw [if_pos (hv.mpr h2), fx_X11_belts_J58, J 0 (Or.inl rfl)]
  rcases belt_case hW hn with ⟨e, h1, h2, h3⟩ | ⟨q, j, hq, hj, e, ej, hjb, h1, h2, h3⟩ | ⟨q, k, hq, hk, e, ek, h1, h2, h3⟩
  · exact Z h2 h3 _
  · exact Z h2 h3 _
  · have e1 : nI (k + 1) - 1 = nI k := pk_sub (a := k + 1) (b := 1) (by omega)
    rw [if_neg (fun z => hv.mp z h2), mo_of (w := 1) (k := 1) μ S rfl rfl (by omega), mm_bd_some, mo_of (w := 1) (k := 1) μ S rfl rfl (by omega), mm_bd_some, e, e11, mm_gd_t (mm_ix_n (by omega) (by omega)), nI_cl (by omega), mw_row, ek, e1, mo_isWall _ S rfl hq, mm_bd_some]
    by_cases hw : ((S (75 + q) >>> (nI k &&& 31)) &&& 1) = 0
    · refine ⟨1, ?_, fun z => absurd z (by decide), fun z => absurd (h3.mpr hw) z⟩
      rw [if_neg (fun z => (and1n _).mp z hw), if_pos rfl, J 1 (Or.inr rfl)]
    · refine ⟨0, ?_, fun _ z => hw (h3.mp z), fun _ => rfl⟩
      rw [if_pos ((and1n _).mpr hw), if_neg (show ¬ (1 : Int32) = 0 by decide), fx_X11_belts_J58, J 0 (Or.inl rfl)]
theorem blt_L {B c f : Nat} {S : Nat → Int32} (hW : WF B c f S) : ∀ (e k fu : Nat) (μ : mm_M), k + e = c → e < fu → (∀ n, n < k → (μ 10 38 0 n = 0 ↔ ¬ bc S n) ∧ μ 10 39 0 n = bw S n) → ∃ μ1, fx_X11_belts_L2 fu (nI k) (mw μ S) = fx_X11_belts_L79 mm_FU 1 (mw μ1 S) ∧ ∀ n, n < c → (μ1 10 38 0 n = 0 ↔ ¬ bc S n) ∧ μ1 10 39 0 n = bw S n := by
  have hc4 := hW.c4
  intro e
  induction e with
  | zero =>
    intro k fu μ hk hf hB
    obtain ⟨g, rfl⟩ : ∃ g, fu = g + 1 := ⟨fu - 1, by omega⟩
    have : k = c := by omega
    subst this
    have hc1 : mw μ S 10 31 0 (0 : Int32).toNatClampNeg = nI k := by rw [mw_row]; exact hW.s0
    rw [fx_X11_belts_L2, hc1, if_pos (le_lit rfl (Nat.le_refl _) (by omega))]
    exact ⟨μ, rfl, hB⟩
  | succ e ih =>
    intro k fu μ hk hf hB
    obtain ⟨g, rfl⟩ : ∃ g, fu = g + 1 := ⟨fu - 1, by omega⟩
    obtain ⟨b, e1, h1⟩ := blt_1 g μ hW (n := k) (by omega)
    rw [e1]
    refine ih (k + 1) g _ (by omega) (by omega) (fun n hn => ?_)
    by_cases hnk : n = k
    · subst hnk
      rw [mm_u_ap, if_neg (by omega), mm_u_ap, if_pos ⟨rfl, rfl, rfl, rfl⟩, mm_u_ap, if_pos ⟨rfl, rfl, rfl, rfl⟩]
      exact ⟨h1, rfl⟩
    · rw [mm_u_ap, if_neg (by omega), mm_u_ap, if_neg (by omega), mm_u_ap, if_neg (by omega), mm_u_ap, if_neg (by omega)]
      exact hB n (by omega)
