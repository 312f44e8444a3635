def sI (S : Nat → Int32) (L : Nat) (M0 : Nat → Int32) (μ : mm_M) (v : Int32) : Prop := sP S L M0 (μ 10 40 0) ∧ sV M0 (μ 10 40 0) v ∧ ∀ q, q < 64 → μ 10 40 0 q = -1 ∨ ∃ j, j < 2000 ∧ μ 10 40 0 q = nI j
theorem spr_L13 {B c f L p : Nat} {S M0 : Nat → Int32} {k4 : Int32 → Int32 → mm_M → mm_R} (hW : WF B c f S) (hL : L < 1000) (hp : p < 64) (hM : M0 p = nI L) : ∀ (e d fu : Nat) (v2 : Int32) (μ : mm_M), d + e = 4 → e < fu → sI S L M0 μ v2 → (∀ d2, d2 < d → ∀ q, q < 64 → tgt S p d2 q → μ 10 40 0 q ≠ -1) → ∃ μ1 v, fx_X11_spreads_L13 (nI L) k4 fu v2 (nI p) (nI d) (mw μ S) = k4 v (nI (p + 1)) (mw μ1 S) ∧ sI S L M0 μ1 v ∧ (∀ q, q < 64 → μ 10 40 0 q ≠ -1 → μ1 10 40 0 q ≠ -1) ∧ (∀ q, q < 64 → edge S p q → μ1 10 40 0 q ≠ -1) ∧ ∀ q t n i, ¬ (q = 10 ∧ t = 40) → μ1 q t n i = μ q t n i := by
  intro e
  induction e with
  | zero =>
    intro d fu v2 μ hk hf hI hd
    obtain ⟨g, rfl⟩ : ∃ g, fu = g + 1 := ⟨fu - 1, by omega⟩
    have : d = 4 := by omega
    subst this
    rw [fx_X11_spreads_L13, if_pos (show (4 : Int32) ≤ nI 4 by decide), mm_li_e, nI_1]
    exact ⟨μ, v2, rfl, hI, fun _ _ z => z, fun q hq ⟨d2, h2, a, b, c⟩ => hd d2 h2 q hq ⟨a, b, c⟩, fun _ _ _ _ _ => rfl⟩
  | succ e ih =>
    intro d fu v2 μ hk hf hI hd
    obtain ⟨g, rfl⟩ : ∃ g, fu = g + 1 := ⟨fu - 1, by omega⟩
    have hlev : μ 10 40 0 p = nI L := (hI.1.lev hL hp).mpr hM
    obtain ⟨μ1, M1, v, e1, m1, a1, a2, a3, a4, a5, a6⟩ := spr_1 (k4 := k4) (k13 := fun z0 z1 z2 z => fx_X11_spreads_L13 (nI L) k4 g z0 z1 z2 z) (d := d) hW hL hp (by omega) hM (fun _ => rfl) hI.1 hI.2.1 hI.2.2
    have hm : M1 = μ1 10 40 0 := by
      funext q
      exact (m1 q).symm
    subst hm
    obtain ⟨μ2, v3, e2, b1, b2, b3, b4⟩ := ih (d + 1) g v μ1 (by omega) (by omega) ⟨a1, a2, a3⟩ (fun d2 h2 q hq ht => by
      by_cases hdd : d2 = d
      · subst hdd; exact a5 q hq ht
      · exact a4 q hq (hd d2 (by omega) q hq ht))
    refine ⟨μ2, v3, ?_, b1, fun q hq z => b2 q hq (a4 q hq z), b3, fun q t n i hh => (b4 q t n i hh).trans (a6 q t n i hh)⟩
    rw [fx_X11_spreads_L13, if_neg (show ¬ (4 : Int32) ≤ nI d from nle_lit (x := 4) (b := 4) rfl (by omega) (by omega)), mm_gd_t (mm_ix_n (by omega) (by omega)), nI_cl (by omega), mw_oth μ S (by omega), hlev, if_pos rfl]
    exact e1.trans e2
theorem spr_L4 {B c f L : Nat} {S M0 : Nat → Int32} (hW : WF B c f S) (hL : L < 1000) : ∀ (e p fu : Nat) (v2 : Int32) (μ : mm_M), p + e = 64 → e < fu → sI S L M0 μ v2 → (∀ p2, p2 < p → M0 p2 = nI L → ∀ q, q < 64 → edge S p2 q → μ 10 40 0 q ≠ -1) → ∃ μ1 v, fx_X11_spreads_L4 (nI L) fu v2 (nI p) (mw μ S) = some (v, mw μ1 S) ∧ sI S L M0 μ1 v ∧ (∀ p2, p2 < 64 → M0 p2 = nI L → ∀ q, q < 64 → edge S p2 q → μ1 10 40 0 q ≠ -1) ∧ ∀ q t n i, ¬ (q = 10 ∧ t = 40) → μ1 q t n i = μ q t n i := by
  intro e
  induction e with
  | zero =>
    intro p fu v2 μ hk hf hI hd
    obtain ⟨g, rfl⟩ : ∃ g, fu = g + 1 := ⟨fu - 1, by omega⟩
    have : p = 64 := by omega
    subst this
    have hv : v2 = 0 ∨ v2 = 1 := hI.2.1.elim (fun z => Or.inl z.1) (fun z => Or.inr z.1)
    rw [fx_X11_spreads_L4, if_pos (show (64 : Int32) ≤ nI 64 by decide), mm_gd_t hv]
    exact ⟨μ, v2, rfl, hI, hd, fun _ _ _ _ _ => rfl⟩
  | succ e ih =>
    intro p fu v2 μ hk hf hI hd
    obtain ⟨g, rfl⟩ : ∃ g, fu = g + 1 := ⟨fu - 1, by omega⟩
    have hp : p < 64 := by omega
    rw [fx_X11_spreads_L4, if_neg (cell_nI hp).2]
    by_cases hM : M0 p = nI L
    · obtain ⟨μ1, v, e1, a1, a2, a3, a4⟩ := spr_L13 (k4 := fun z0 z1 z => fx_X11_spreads_L4 (nI L) g z0 z1 z) hW hL hp hM 4 0 mm_FU v2 μ (by omega) (by unfold mm_FU; omega) hI (fun d2 h2 => absurd h2 (by omega))
      obtain ⟨μ2, v3, e2, b1, b2, b3⟩ := ih (p + 1) g v μ1 (by omega) (by omega) a1 (fun p2 h2 hm q hq he => by
        by_cases hpp : p2 = p
        · subst hpp; exact a3 q hq he
        · exact a2 q hq (hd p2 (by omega) hm q hq he))
      exact ⟨μ2, v3, e1.trans e2, b1, b2, fun q t n i hh => (b3 q t n i hh).trans (a4 q t n i hh)⟩
    · have hlev : ¬ μ 10 40 0 p = nI L := fun z => hM ((hI.1.lev hL hp).mp z)
      obtain ⟨μ2, v3, e2, b1, b2, b3⟩ := ih (p + 1) g v2 μ (by omega) (by omega) hI (fun p2 h2 hm q hq he => by
        by_cases hpp : p2 = p
        · subst hpp; exact absurd hm hM
        · exact hd p2 (by omega) hm q hq he)
      refine ⟨μ2, v3, ?_, b1, b2, b3⟩
      unfold mm_FU
      rw [fx_X11_spreads_L13, if_neg (show ¬ (4 : Int32) ≤ 0 by decide), mm_gd_t (mm_ix_n (by omega) (by omega)), nI_cl (by omega), mw_oth μ S (by omega), if_neg hlev, mm_li_e, nI_1]
      exact e2
theorem mo_spreads {B c f L : Nat} {S : Nat → Int32} {μ : mm_M} (hW : WF B c f S) (hL : L < 1000) (hn : ∀ q, q < 64 → μ 10 40 0 q = -1 ∨ ∃ j, j < 2000 ∧ μ 10 40 0 q = nI j) : ∃ μ1 v, fx_X11_spreads (nI L) (mw μ S) = some (v, mw μ1 S) ∧ sI S L (μ 10 40 0) μ1 v ∧ (∀ p2, p2 < 64 → μ 10 40 0 p2 = nI L → ∀ q, q < 64 → edge S p2 q → μ1 10 40 0 q ≠ -1) ∧ ∀ q t n i, ¬ (q = 10 ∧ t = 40) → μ1 q t n i = μ q t n i := by
  rw [fx_X11_spreads]
  exact spr_L4 (M0 := μ 10 40 0) hW hL 64 0 mm_FU 0 μ (by omega) (by unfold mm_FU; omega) ⟨fun q hq => Or.inl rfl, Or.inl ⟨rfl, fun _ _ => rfl⟩, hn⟩ (fun p2 h2 => absurd h2 (by omega))
/-! level by level -/
def lv (S : Nat → Int32) (s L : Nat) (M : Nat → Int32) : Prop := (∀ q, q < 64 → ∀ k, k ≤ L → dst S s q k → M q = nI k) ∧ ∀ q, q < 64 → M q = -1 ∨ ∃ k, k ≤ L ∧ M q = nI k ∧ dst S s q k
theorem pred_d {S : Nat → Int32} {s q L : Nat} (h : dst S s q (L + 1)) : ∃ p, p < 64 ∧ edge S p q ∧ dst S s p L := by
  obtain ⟨⟨p, hp, he, hr⟩, hm⟩ := h
  obtain ⟨j, hj, hd⟩ := dst_of L hr
  by_cases hjl : j = L
  · subst hjl
    exact ⟨p, hp, he, hd⟩
  · exact absurd ⟨p, hp, he, hd.1⟩ (hm (j + 1) (by omega))
theorem lv_next {S : Nat → Int32} {s L : Nat} {M M1 : Nat → Int32} (hL : L < 1000) (h : lv S s L M) (hP : sP S L M M1) (hA : ∀ p2, p2 < 64 → M p2 = nI L → ∀ q, q < 64 → edge S p2 q → M1 q ≠ -1) : lv S s (L + 1) M1 := by
  have keep : ∀ q, q < 64 → M q ≠ -1 → M1 q = M q := fun q hq hz => (hP q hq).elim id (fun z => absurd z.1 hz)
  refine ⟨fun q hq k hk hd => ?_, fun q hq => ?_⟩
  · by_cases hkl : k ≤ L
    · have := h.1 q hq k hkl hd
      rw [keep q hq (by rw [this]; exact nI_m1 (by omega)), this]
    · have : k = L + 1 := by omega
      subst this
      obtain ⟨p, hp, he, hdp⟩ := pred_d hd
      have hMp := h.1 p hp L (Nat.le_refl _) hdp
      have hne := hA p hp hMp q hq he
      rcases hP q hq with e | ⟨_, e, _⟩
      · rcases h.2 q hq with z | ⟨j, hj, _, hdj⟩
        · exact absurd (e.trans z) hne
        · have := dst_u hdj hd
          omega
      · exact e
  · rcases hP q hq with e | ⟨e0, e, p, hp, hMp, he⟩
    · rcases h.2 q hq with z | ⟨j, hj, ej, hdj⟩
      · exact Or.inl (e.trans z)
      · exact Or.inr ⟨j, by omega, e.trans ej, hdj⟩
    · rcases h.2 p hp with z | ⟨j, hj, ej, hdj⟩
      · exact absurd (z.symm.trans hMp) (m1_nI (by omega))
      · have : j = L := (nI_e (by omega) (by omega)).mp (ej.symm.trans hMp)
        subst this
        refine Or.inr ⟨j + 1, Nat.le_refl _, e, ⟨p, hp, he, hdj.1⟩, fun i hi hr => ?_⟩
        obtain ⟨i2, hi2, hd2⟩ := dst_of i hr
        have := h.1 q hq i2 (by omega) hd2
        exact m1_nI (by omega) (e0.symm.trans this)
theorem lv_end {S : Nat → Int32} {s L : Nat} {M M1 : Nat → Int32} (hs : s < 64) (hL : L < 1000) (h : lv S s L M) (h1 : lv S s (L + 1) M1) (he : ∀ q, q < 64 → M1 q = M q) : ∀ k q, q < 64 → rch S s k q → ∃ j, j ≤ L ∧ dst S s q j
  | 0, q, hq, hr => by
    refine ⟨0, Nat.zero_le _, hr, fun j hj => absurd hj (Nat.not_lt_zero j)⟩
  | k + 1, q, hq, ⟨p, hp, hed, hr⟩ => by
    obtain ⟨j, hj, hd⟩ := lv_end hs hL h h1 he k p hp hr
    obtain ⟨i, hi, hdi⟩ := dst_of (j + 1) (show rch S s (j + 1) q from ⟨p, hp, hed, hd.1⟩)
    by_cases hil : i ≤ L
    · exact ⟨i, hil, hdi⟩
    · have e1 := h1.1 q hq i (by omega) hdi
      rw [he q hq] at e1
      rcases h.2 q hq with z | ⟨i2, hi2, e2, hd2⟩
      · exact absurd (z.symm.trans e1) (m1_nI (by omega))
      · have := dst_u hd2 hdi
        omega
