/-! a round's end -/
theorem RS.reg {c f r n j : Nat} {σ σ2 : mm_M} {S : Nat → Int32} {mv rk : Int32} (h : RS c f σ r S) (hc : c ≤ 4) (hf : f ≤ 4) (hn : n < c) (hj : j < 5) (e : ∀ t m i, ¬ ((t = 7 ∨ t = 8) ∧ m = n ∧ i = j) → σ2 r t m i = σ r t m i) (e8 : σ2 r 8 n j = rk) (e7 : rk ≠ 0 → σ2 r 7 n j = mv) : RS c f σ2 r (upd (upd S (139 + 17 * n + (7 + 2 * j)) mv) (139 + 17 * n + (8 + 2 * j)) rk) := by
  have V : ∀ i, i ≠ 139 + 17 * n + (7 + 2 * j) → i ≠ 139 + 17 * n + (8 + 2 * j) → upd (upd S (139 + 17 * n + (7 + 2 * j)) mv) (139 + 17 * n + (8 + 2 * j)) rk i = S i := fun i h1 h2 => (pk_un h2).trans (pk_un h1)
  obtain ⟨h1, h2, h3, h4, h5, h6, h7, h8, h9, h10, h11, h12⟩ := h
  refine ⟨?_, ?_, ?_, ?_, ?_, ?_, ?_, fun k hk => ?_, fun k hk => ?_, fun k hk => ?_, fun m hm => ⟨fun k2 hk2 => ?_, fun i hi => ?_⟩, fun m hm hm4 => ⟨fun k a b => ?_, fun i hi => ?_⟩⟩
  · rw [e _ _ _ (by omega), V _ (by omega) (by omega)]; exact h1
  · rw [e _ _ _ (by omega), V _ (by omega) (by omega)]; exact h2
  · rw [e _ _ _ (by omega), V _ (by omega) (by omega)]; exact h3
  · rw [e _ _ _ (by omega), V _ (by omega) (by omega)]; exact h4
  · rw [e _ _ _ (by omega), V _ (by omega) (by omega)]; exact h5
  · rw [e _ _ _ (by omega), V _ (by omega) (by omega)]; exact h6
  · rw [e _ _ _ (by omega), V _ (by omega) (by omega)]; exact h7
  · rw [e _ _ _ (by omega), V _ (by omega) (by omega)]; exact h8 k hk
  · rw [e _ _ _ (by omega), V _ (by omega) (by omega)]; exact h9 k hk
  · rw [e _ _ _ (by omega), V _ (by omega) (by omega)]; exact h10 k hk
  · rw [e _ _ _ (by omega), V _ (ix_ne (by omega) (by omega) (by omega)) (ix_ne (by omega) (by omega) (by omega))]; exact (h11 m hm).1 k2 hk2
  · by_cases hh : m = n ∧ i = j
    · obtain ⟨rfl, rfl⟩ := hh
      rw [pk_us, pk_un (show 139 + 17 * m + (7 + 2 * i) ≠ 139 + 17 * m + (8 + 2 * i) by omega), pk_us]
      exact ⟨e8, e7⟩
    · rw [V (139 + 17 * m + (8 + 2 * i)) (ix_ne (by omega) (by omega) (by omega)) (ix_ne (by omega) (by omega) (by omega)), V (139 + 17 * m + (7 + 2 * i)) (ix_ne (by omega) (by omega) (by omega)) (ix_ne (by omega) (by omega) (by omega)), e 8 m i (by omega), e 7 m i (by omega)]
      exact (h11 m hm).2 i hi
  · rw [e _ _ _ (by omega)]; exact (h12 m hm hm4).1 k a b
  · rw [e _ _ _ (by omega)]; exact (h12 m hm hm4).2 i hi
theorem WF.reg {B c f n j : Nat} {S : Nat → Int32} {mv rk : Int32} (h : WF B c f S) (hn : n < c) (hj : j < 5) (hr : isN rk 1000) (hm : rk = 0 ∨ isN mv 7) : WF B c f (upd (upd S (139 + 17 * n + (7 + 2 * j)) mv) (139 + 17 * n + (8 + 2 * j)) rk) := by
  have V : ∀ i, i ≠ 139 + 17 * n + (7 + 2 * j) → i ≠ 139 + 17 * n + (8 + 2 * j) → upd (upd S (139 + 17 * n + (7 + 2 * j)) mv) (139 + 17 * n + (8 + 2 * j)) rk i = S i := fun i h1 h2 => (pk_un h2).trans (pk_un h1)
  obtain ⟨h1, h2, h3, h4, h5, h6, h7, h8, h9⟩ := h
  refine ⟨h1, h2, ?_, ?_, ?_, fun k hk => ?_, fun k hk => ?_, fun m hm => ?_, fun i m hi hm hne => ?_⟩
  · rw [V _ (by omega) (by omega)]; exact h3
  · rw [V _ (by omega) (by omega)]; exact h4
  · rw [V _ (by omega) (by omega)]; exact h5
  · rw [V _ (by omega) (by omega)]; exact h6 k hk
  · rw [V _ (by omega) (by omega)]; exact h7 k hk
  · obtain ⟨a1, a2, a3, a4, a5, a6, a7, a8⟩ := h8 m hm
    have U : ∀ k, k < 7 → upd (upd S (139 + 17 * n + (7 + 2 * j)) mv) (139 + 17 * n + (8 + 2 * j)) rk (139 + 17 * m + k) = S (139 + 17 * m + k) := fun k hk => V _ (ix_ne (by omega) (by omega) (by omega)) (ix_ne (by omega) (by omega) (by omega))
    refine ⟨?_, ?_, ?_, ?_, ?_, ?_, ?_, fun i hi => ?_⟩
    · rw [U 0 (by omega)]; exact a1
    · rw [U 1 (by omega)]; exact a2
    · rw [U 2 (by omega)]; exact a3
    · rw [U 3 (by omega)]; exact a4
    · rw [U 4 (by omega)]; exact a5
    · rw [U 5 (by omega)]; exact a6
    · rw [U 1 (by omega), U 5 (by omega)]; exact a7
    · by_cases hh : m = n ∧ i = j
      · obtain ⟨rfl, rfl⟩ := hh
        rw [pk_us, pk_un (show 139 + 17 * m + (7 + 2 * i) ≠ 139 + 17 * m + (8 + 2 * i) by omega), pk_us]
        exact ⟨hr, by assumption⟩
      · rw [V (139 + 17 * m + (8 + 2 * i)) (ix_ne (by omega) (by omega) (by omega)) (ix_ne (by omega) (by omega) (by omega)), V (139 + 17 * m + (7 + 2 * i)) (ix_ne (by omega) (by omega) (by omega)) (ix_ne (by omega) (by omega) (by omega))]
        exact a8 i hi
  · rw [V _ (ix_ne (by omega) (by omega) (by omega)) (ix_ne (by omega) (by omega) (by omega)), V _ (ix_ne (by omega) (by omega) (by omega)) (ix_ne (by omega) (by omega) (by omega))]; exact h9 i m hi hm hne
def gl (a b : Int32) (S : Nat → Int32) : Nat → Int32 := upd (upd S 1 a) 2 b
theorem gl_un (a b : Int32) (S : Nat → Int32) {i : Nat} (h1 : i ≠ 1) (h2 : i ≠ 2) : gl a b S i = S i := (pk_un h2).trans (pk_un h1)
theorem gl_sw (a b : Int32) (S : Nat → Int32) {i : Nat} (h : 3 ≤ i) (v : Int32) : upd (gl a b S) i v = gl a b (upd S i v) := by
  unfold gl
  rw [upd_sw _ (i := 2) (j := i) (by omega), upd_sw S (i := 1) (j := i) (by omega)]
theorem WF.gl {B c f : Nat} {S : Nat → Int32} (h : WF B c f S) (a b : Int32) : WF B c f (gl a b S) := (h.glob (a := 1) (by omega) a).glob (a := 2) (by omega) b
theorem sp_on_cg {S T : Nat → Int32} (q : Nat) : ∀ c, (∀ n, n < c → T (139 + 17 * n + 1) = S (139 + 17 * n + 1)) → sp_on T q c = sp_on S q c
  | 0, _ => rfl
  | k + 1, h => by
    unfold sp_on
    rw [h k (by omega), sp_on_cg q k (fun n hn => h n (by omega))]
def emp (S : Nat → Int32) (n : Nat) : Nat → Nat → Int32
  | 0 => S
  | j + 1 => upd (upd (emp S n j) (139 + 17 * n + (7 + 2 * j)) 0) (139 + 17 * n + (8 + 2 * j)) 0
theorem emp_lo {S : Nat → Int32} {n m k : Nat} (hk : k < 7) : ∀ u, u ≤ 5 → emp S n u (139 + 17 * m + k) = S (139 + 17 * m + k)
  | 0, _ => rfl
  | u + 1, h => by
    unfold emp
    rw [pk_un (ix_ne (by omega) (by omega) (by omega)), pk_un (ix_ne (by omega) (by omega) (by omega)), emp_lo hk u (by omega)]
theorem emp_gl {S : Nat → Int32} {n i : Nat} (hi : i < 139) : ∀ u, emp S n u i = S i
  | 0 => rfl
  | u + 1 => by
    unfold emp
    rw [pk_un (by omega), pk_un (by omega), emp_gl hi u]
theorem emp_wf {B c f n : Nat} {S : Nat → Int32} (h : WF B c f S) (hn : n < c) : ∀ u, u ≤ 5 → WF B c f (emp S n u)
  | 0, _ => h
  | u + 1, hu => by
    unfold emp
    exact (emp_wf h hn u (by omega)).reg hn (by omega) ⟨0, by omega, rfl⟩ (Or.inl rfl)
theorem cc_fill {c f r n u : Nat} {a b : Int32} {S : Nat → Int32} (hc : c ≤ 4) (hf4 : f ≤ 4) (hn : n < c) (hu : u ≤ 5) : ∀ (e j fu : Nat) (σ : mm_M), j + e = u → e < fu → RS c f σ r (gl a b (emp S n j)) → ∃ σ1, fx_J7_fill_fda19_k8_L10 r n 0 (nI u) 0 fu (nI j) σ = some (0, σ1) ∧ RS c f σ1 r (gl a b (emp S n u)) := by
  intro e
  induction e with
  | zero =>
    intro j fu σ hk hf hR
    obtain ⟨g, rfl⟩ : ∃ g, fu = g + 1 := ⟨fu - 1, by omega⟩
    have : j = u := by omega
    subst this
    rw [fx_J7_fill_fda19_k8_L10, if_pos (le_lit rfl (Nat.le_refl _) (by omega))]
    exact ⟨σ, rfl, hR⟩
  | succ e ih =>
    intro j fu σ hk hf hR
    obtain ⟨g, rfl⟩ : ∃ g, fu = g + 1 := ⟨fu - 1, by omega⟩
    rw [fx_J7_fill_fda19_k8_L10, if_neg (nle_lit rfl (by omega) (by omega) : ¬ nI u ≤ nI j), mm_gd_t (mm_ix_n (by omega) (by omega)), mm_lt_e, mm_li_e, nI_cl (by omega), nI_1]
    refine ih (j + 1) g _ (by omega) (by omega) ?_
    have := hR.reg (σ2 := mm_u σ r 8 n j 0) (mv := 0) (rk := 0) hc hf4 hn (j := j) (by omega) (fun t m i hh => by rw [mm_u_ap, if_neg (by omega)]) (by rw [mm_u_ap, if_pos ⟨rfl, rfl, rfl, rfl⟩]) (fun z => absurd rfl z)
    rw [gl_sw _ _ _ (by omega), gl_sw _ _ _ (by omega)] at this
    exact this
theorem cc_empty {c f r n u : Nat} {a b : Int32} {S : Nat → Int32} {σ : mm_M} (hc : c ≤ 4) (hf4 : f ≤ 4) (hn : n < c) (hu : u ≤ 5) (hR : RS c f σ r (gl a b S)) : ∃ σ1, fx_X3_emptyRegisters r n (nI u) σ = some (0, σ1) ∧ RS c f σ1 r (gl a b (emp S n u)) := by
  obtain ⟨σ1, e1, h1⟩ := cc_fill (S := S) (n := n) hc hf4 hn hu u 0 mm_FU σ (by omega) (by unfold mm_FU; omega) hR
  refine ⟨σ1, ?_, h1⟩
  rw [fx_X3_emptyRegisters, fx_J7_fill_fda19_k8, fx_J7_rangeCheck_23922, if_pos (show (0 : Int32) ≤ nI u from nI_pos' (by omega)), if_pos (show (0 : Int32) ≤ 0 by decide), if_pos (show nI u ≤ (5 : Int32) from le_lit (a := 5) rfl hu (by omega)), mm_bd_some, show fx_J7_fill_fda19_k8_L10 r n 0 (nI u) 0 mm_FU 0 σ = some (0, σ1) from e1, mm_bd_some]
def uN (d : Nat) : Nat := if 4 < d then 9 - d else 5
theorem uN_5 (d : Nat) : uN d ≤ 5 := by unfold uN; split <;> omega
theorem lock_iff {d j : Nat} (hd : d < 10) (hj : j < 5) : ((5 : Int32) - (nI d - 4) ≤ nI j) ↔ uN d ≤ j := by
  rcases (show j = 0 ∨ j = 1 ∨ j = 2 ∨ j = 3 ∨ j = 4 by omega) with rfl | rfl | rfl | rfl | rfl <;> rcases (show d = 0 ∨ d = 1 ∨ d = 2 ∨ d = 3 ∨ d = 4 ∨ d = 5 ∨ d = 6 ∨ d = 7 ∨ d = 8 ∨ d = 9 by omega) with rfl | rfl | rfl | rfl | rfl | rfl | rfl | rfl | rfl | rfl <;> decide
theorem cc_unlocked {r n d : Nat} {σ : mm_M} (hd : d < 10) (e : σ r 6 n 5 = nI d) : fx_X3_unlockedRegisters r n σ = some (nI (uN d), σ) := by
  have key : (5 : Int32) - (if (0 : Int32) < nI d - 4 then nI d - 4 else 0) = nI (uN d) := by
    rcases (show d = 0 ∨ d = 1 ∨ d = 2 ∨ d = 3 ∨ d = 4 ∨ d = 5 ∨ d = 6 ∨ d = 7 ∨ d = 8 ∨ d = 9 by omega) with rfl | rfl | rfl | rfl | rfl | rfl | rfl | rfl | rfl | rfl <;> decide
  rw [fx_X3_unlockedRegisters, e, fx_J9_max_7cf53]
  by_cases h : (0 : Int32) < nI d - 4
  · rw [if_pos h] at key ⊢
    rw [mm_bd_some, key]
  · rw [if_neg h] at key ⊢
    rw [mm_bd_some, key]
theorem mo_empJ {n j : Nat} {x2 : Int32} {k2 : Int32 → mm_M → mm_R} (μ : mm_M) (S : Nat → Int32) (hn : n < 4) (hj : j < 5) : fx_X11_empties_J20 (nI n) x2 k2 (nI j) (mw μ S) = k2 (nI (j + 1)) (mw μ (upd (upd S (139 + 17 * n + (7 + 2 * j)) 0) (139 + 17 * n + (8 + 2 * j)) 0)) := by
  have e1 : (7 : Int32) + 2 * nI j = nI (7 + 2 * j) := by
    show nI 7 + nI 2 * nI j = _
    rw [pk_mul, nI_add]
  rw [fx_X11_empties_J20, e1, mo_lays μ S rfl rfl (by omega), mm_bd_some, mo_lays (k := 8 + 2 * j) μ _ rfl (by rw [nI_1]; congr 1; omega) (by omega), mm_bd_some, mm_li_e, nI_1]
theorem mo_emp_L {n d : Nat} {S : Nat → Int32} (μ : mm_M) (hn : n < 4) (hd : d < 10) (e3 : S (139 + 17 * n + 3) = nI d) : ∀ (e j fu : Nat), j + e = 5 → e < fu → fx_X11_empties_L2 (nI n) 0 fu (nI j) (mw μ (emp S n (if j ≤ uN d then j else uN d))) = some (0, mw μ (emp S n (uN d))) := by
  have hu := uN_5 d
  intro e
  induction e with
  | zero =>
    intro j fu hk hf
    obtain ⟨g, rfl⟩ : ∃ g, fu = g + 1 := ⟨fu - 1, by omega⟩
    have : j = 5 := by omega
    subst this
    rw [fx_X11_empties_L2, if_pos (show (5 : Int32) ≤ nI 5 by decide)]
    congr 3
    split
    · congr 1; omega
    · rfl
  | succ e ih =>
    intro j fu hk hf
    obtain ⟨g, rfl⟩ : ∃ g, fu = g + 1 := ⟨fu - 1, by omega⟩
    have hj : j < 5 := by omega
    have e4 : mw μ (emp S n (if j ≤ uN d then j else uN d)) 10 31 0 (139 + 17 * n + 3) = nI d := by
      rw [mw_row, emp_lo (by omega) _ (by split <;> omega)]
      exact e3
    rw [fx_X11_empties_L2, if_neg (show ¬ (5 : Int32) ≤ nI j from nle_lit (x := 5) (b := 5) rfl (by omega) (by omega)), if_pos rfl, md_isLocked _ _ rfl hn, mm_bd_some, e4]
    by_cases hl : uN d ≤ j
    · rw [if_pos ((lock_iff hd hj).mpr hl), if_neg (show ¬ (1 : Int32) = 0 by decide), mm_li_e, nI_1]
      have := ih (j + 1) g (by omega) (by omega)
      rw [if_neg (by omega)] at this
      rw [← this]
      congr 3
      split
      · congr 1; omega
      · rfl
    · rw [if_neg (fun z => hl ((lock_iff hd hj).mp z)), if_pos rfl, mo_empJ _ _ hn hj]
      have := ih (j + 1) g (by omega) (by omega)
      rw [if_pos (by omega)] at this
      rw [if_pos (by omega)]
      exact this
theorem mo_emp1_L {n : Nat} {S : Nat → Int32} (μ : mm_M) (hn : n < 4) : ∀ (e j fu : Nat), j + e = 5 → e < fu → fx_X11_empties_L2 (nI n) 1 fu (nI j) (mw μ (emp S n j)) = some (0, mw μ (emp S n 5)) := by
  intro e
  induction e with
  | zero =>
    intro j fu hk hf
    obtain ⟨g, rfl⟩ : ∃ g, fu = g + 1 := ⟨fu - 1, by omega⟩
    have : j = 5 := by omega
    subst this
    rw [fx_X11_empties_L2, if_pos (show (5 : Int32) ≤ nI 5 by decide)]
  | succ e ih =>
    intro j fu hk hf
    obtain ⟨g, rfl⟩ : ∃ g, fu = g + 1 := ⟨fu - 1, by omega⟩
    rw [fx_X11_empties_L2, if_neg (show ¬ (5 : Int32) ≤ nI j from nle_lit (x := 5) (b := 5) rfl (by omega) (by omega)), if_neg (show ¬ (1 : Int32) = 0 by decide), mo_empJ _ _ hn (by omega)]
    exact ih (j + 1) g (by omega) (by omega)
theorem dmg_m1 {d : Nat} (hd : d < 10) : (if (0 : Int32) < (if nI d + -1 < 9 then nI d + -1 else 9) then (if nI d + -1 < 9 then nI d + -1 else 9) else 0) = nI (d - 1) := by
  rcases (show d = 0 ∨ d = 1 ∨ d = 2 ∨ d = 3 ∨ d = 4 ∨ d = 5 ∨ d = 6 ∨ d = 7 ∨ d = 8 ∨ d = 9 by omega) with rfl | rfl | rfl | rfl | rfl | rfl | rfl | rfl | rfl | rfl <;> decide
theorem rep_L {B c f r : Nat} {a b : Int32} {μ : mm_M} (hr : r < 6) : ∀ (e k fu fu2 : Nat) (S : Nat → Int32) (σ : mm_M), k + e = c → e < fu → e < fu2 → WF B c f S → RS c f σ r (gl a b S) → ∃ S1 σ1, fx_X8_repairAndClear_L2 r fu (nI k) σ = some (0, σ1) ∧ fx_X11_ends_L2 fu2 (nI k) (mw μ S) = fx_X11_ends_L90 mm_FU 0 (mw μ S1) ∧ WF B c f S1 ∧ RS c f σ1 r (gl a b S1) ∧ S1 2 = S 2 := by
  intro e
  induction e with
  | zero =>
    intro k fu fu2 S σ hk hf hf2 hW hR
    obtain ⟨g, rfl⟩ : ∃ g, fu = g + 1 := ⟨fu - 1, by omega⟩
    obtain ⟨g2, rfl⟩ : ∃ g, fu2 = g + 1 := ⟨fu2 - 1, by omega⟩
    have : k = c := by omega
    subst this
    have hc4 := hW.c4
    have hc0 : σ r 0 0 2 = nI k := hR.s0.trans hW.s0
    have hc1 : mw μ S 10 31 0 (0 : Int32).toNatClampNeg = nI k := by rw [mw_row]; exact hW.s0
    rw [fx_X8_repairAndClear_L2, hc0, if_pos (le_lit rfl (Nat.le_refl _) (by omega)), fx_X11_ends_L2, hc1, if_pos (le_lit rfl (Nat.le_refl _) (by omega))]
    exact ⟨S, σ, rfl, rfl, hW, hR, rfl⟩
  | succ e ih =>
    intro k fu fu2 S σ hk hf hf2 hW hR
    obtain ⟨g, rfl⟩ : ∃ g, fu = g + 1 := ⟨fu - 1, by omega⟩
    obtain ⟨g2, rfl⟩ : ∃ g, fu2 = g + 1 := ⟨fu2 - 1, by omega⟩
    have hc4 := hW.c4
    have hf4 := hW.f4
    have hkc : k < c := by omega
    have hc0 : σ r 0 0 2 = nI c := hR.s0.trans hW.s0
    have hc1 : mw μ S 10 31 0 (0 : Int32).toNatClampNeg = nI c := by rw [mw_row]; exact hW.s0
    have e11 : ∀ q, (11 : Int32) + nI q = nI (11 + q) := fun q => by show nI 11 + nI q = _; rw [nI_add]
    have ec : σ r 6 k 3 = S (139 + 17 * k + 1) := (hR.ct hkc (k := 1) (by omega)).trans (gl_un _ _ _ (by omega) (by omega))
    obtain ⟨d, hd, ed⟩ : isN (S (139 + 17 * k + 3)) 10 := (hW.ct hkc).2.2.2.1
    have e3 : σ r 6 k 5 = nI d := (hR.ct hkc (k := 3) (by omega)).trans ((gl_un _ _ _ (by omega) (by omega)).trans ed)
    have D : ∀ (d2 : Nat) (σ2 : mm_M), d2 < 10 → RS c f σ2 r (gl a b (upd S (139 + 17 * k + 3) (nI d2))) → ∃ S1 σ1, fx_X8_repairAndClear_J38 r (fun z0 z => fx_X8_repairAndClear_L2 r g z0 z) (nI k) k σ2 = some (0, σ1) ∧ (mm_bd (fx_X11_lays (nI k) 3 (nI d2) (mw μ S)) fun _ s_19 => (mm_bd (fx_X11_empties (nI k) (0 : Int32) s_19) fun _ s_20 => (mm_li (nI k + (1 : Int32)) fun y_21 => (fx_X11_ends_L2 g2 y_21 s_20)))) = fx_X11_ends_L90 mm_FU 0 (mw μ S1) ∧ WF B c f S1 ∧ RS c f σ1 r (gl a b S1) ∧ S1 2 = S 2 := by
      intro d2 σ2 hd2 hR2
      have e32 : σ2 r 6 k 5 = nI d2 := (hR2.ct hkc (k := 3) (by omega)).trans ((gl_un _ _ _ (by omega) (by omega)).trans pk_us)
      obtain ⟨σ3, h3, hR3⟩ := cc_empty hc4 hf4 hkc (uN_5 d2) hR2
      have hW2 : WF B c f (upd S (139 + 17 * k + 3) (nI d2)) := hW.cart hkc (k := 3) (by omega) (by omega) (fun z => absurd z (by omega)) (fun z => absurd z (by omega)) (fun _ => ⟨d2, hd2, rfl⟩) (fun z => absurd z (by omega)) (fun z => absurd z (by omega))
      have hE := mo_emp_L (S := upd S (139 + 17 * k + 3) (nI d2)) μ (show k < 4 by omega) hd2 pk_us 5 0 mm_FU (by omega) (by unfold mm_FU; omega)
      rw [if_pos (by omega)] at hE
      obtain ⟨S1, σ1, b1, b2, b3, b4, b5⟩ := ih (k + 1) g g2 (emp (upd S (139 + 17 * k + 3) (nI d2)) k (uN d2)) σ3 (by omega) (by omega) (by omega) (emp_wf hW2 hkc _ (uN_5 d2)) hR3
      refine ⟨S1, σ1, ?_, ?_, b3, b4, b5.trans ((emp_gl (by omega) _).trans (pk_un (by omega)))⟩
      · rw [fx_X8_repairAndClear_J38, cc_unlocked hd2 e32, mm_bd_some, h3, mm_bd_some, mm_li_e, nI_1]
        exact b1
      · rw [mo_lays (w := 3) (k := 3) μ S rfl rfl (by omega), mm_bd_some, fx_X11_empties, show fx_X11_empties_L2 (nI k) 0 mm_FU 0 (mw μ (upd S (139 + 17 * k + 3) (nI d2))) = _ from hE, mm_bd_some, mm_li_e, nI_1]
        exact b2
    have M0 : fx_X11_ends_J52 (fun z0 z => fx_X11_ends_L2 g2 z0 z) (nI k) (mw μ S) = (mm_bd (fx_X11_lays (nI k) 3 (nI d) (mw μ S)) fun _ s_19 => (mm_bd (fx_X11_empties (nI k) (0 : Int32) s_19) fun _ s_20 => (mm_li (nI k + (1 : Int32)) fun y_21 => (fx_X11_ends_L2 g2 y_21 s_20)))) := by
      rw [fx_X11_ends_J52, fx_X11_ends_J53, mo_of (w := 3) (k := 3) μ S rfl rfl (by omega), mm_bd_some, if_pos rfl, fx_X11_ends_J72, ed, show nI d - (0 : Int32) = nI d from pk_sub (a := d) (b := 0) (by omega)]
    have same : gl a b (upd S (139 + 17 * k + 3) (nI d)) = gl a b S := by rw [upd_self S _ ed.symm]
    rw [fx_X8_repairAndClear_L2, hc0, if_neg (nle_lit rfl (by omega) (by omega) : ¬ nI c ≤ nI k), mm_gd_t (mm_ix_n (by omega) (by omega)), nI_cl (by omega), ec, fx_X11_ends_L2, hc1, if_neg (nle_lit rfl (by omega) (by omega) : ¬ nI c ≤ nI k), mo_isOut μ S rfl (by omega), mm_bd_some]
    rcases (hW.ct hkc).cell with e | ⟨q, hq, e⟩
    · rw [e, cc_kindOut, mm_bd_some, if_neg (show ¬ (-1 : Int32) = 8 by decide), if_pos m1_lt0, if_neg (show ¬ (1 : Int32) = 0 by decide), M0]
      exact D d σ hd (by rw [same]; exact hR)
    · rw [cc_kindOn r σ e hq, mm_bd_some, hR.kd hq, gl_un _ _ _ (by omega) (by omega), e, if_neg (nI_pos (by omega)), if_pos rfl, mo_of (w := 1) (k := 1) μ S rfl rfl (by omega), mm_bd_some, e, e11, mm_gd_t (mm_ix_n (by omega) (by omega)), nI_cl (by omega), mw_row]
      by_cases h8 : S (11 + q) = 8
      · rw [if_pos h8, if_pos h8, cc_addDamage, mm_bd_some, e3, dmg_m1 hd, mo_of (w := 3) (k := 3) μ S rfl rfl (by omega), mm_bd_some, ed]
        have hR2 : RS c f (mm_u σ r 6 k 5 (nI (d - 1))) r (gl a b (upd S (139 + 17 * k + 3) (nI (d - 1)))) := by
          have := hR.cart hc4 hf4 hkc (k := 3) (by omega) (nI (d - 1))
          rw [gl_sw _ _ _ (by omega)] at this
          exact this
        by_cases hd0 : d = 0
        · subst hd0
          rw [if_pos (show nI 0 ≤ (0 : Int32) by decide), M0]
          exact D 0 _ (by omega) hR2
        · rw [if_neg (show ¬ nI d ≤ (0 : Int32) from nle_lit (a := 0) (b := d) rfl (by omega) (by omega)), fx_X11_ends_J53, mo_of (w := 3) (k := 3) μ S rfl rfl (by omega), mm_bd_some, if_neg (show ¬ (1 : Int32) = 0 by decide), fx_X11_ends_J72, ed, show nI d - (1 : Int32) = nI (d - 1) from pk_sub (a := d) (b := 1) (by omega)]
          exact D (d - 1) _ (by omega) hR2
      · rw [if_neg h8, if_neg h8, M0]
        exact D d σ hd (by rw [same]; exact hR)
