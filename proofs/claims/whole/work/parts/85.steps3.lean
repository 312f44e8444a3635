def cu (M : Nat → Int32) : Nat → Nat
  | 0 => 0
  | k + 1 => cu M k + if M k = -1 then 1 else 0
theorem cu_le {M M1 : Nat → Int32} : ∀ k, (∀ q, q < k → M1 q = -1 → M q = -1) → cu M1 k ≤ cu M k
  | 0, _ => Nat.le_refl _
  | k + 1, h => by
    have := cu_le k (fun q hq => h q (by omega))
    unfold cu
    by_cases h1 : M1 k = -1
    · rw [if_pos h1, if_pos (h k (by omega) h1)]; omega
    · rw [if_neg h1]; omega
theorem cu_lt {M M1 : Nat → Int32} {q0 : Nat} (h0 : M q0 = -1) (h1 : M1 q0 ≠ -1) : ∀ k, q0 < k → (∀ q, q < k → M1 q = -1 → M q = -1) → cu M1 k < cu M k
  | 0, hk, _ => absurd hk (Nat.not_lt_zero _)
  | k + 1, hk, h => by
    unfold cu
    by_cases hq : q0 = k
    · subst hq
      have := cu_le q0 (fun q hq => h q (by omega))
      rw [if_neg h1, if_pos h0]; omega
    · have := cu_lt h0 h1 k (by omega) (fun q hq => h q (by omega))
      by_cases h2 : M1 k = -1
      · rw [if_pos h2, if_pos (h k (by omega) h2)]; omega
      · rw [if_neg h2]; omega
theorem cu_64 (M : Nat → Int32) : ∀ k, cu M k ≤ k
  | 0 => Nat.le_refl _
  | k + 1 => by
    have := cu_64 M k
    unfold cu
    split <;> omega
def ANS (S : Nat → Int32) (s t : Nat) (w : Int32) : Prop := (w = -1000004 ∧ ∀ k, ¬ rch S s k t) ∨ ∃ k, k < 2000 ∧ w = nI k ∧ dst S s t k
theorem lev_L {B c f s t : Nat} {x1 : Int32} {S : Nat → Int32} (hW : WF B c f S) (hs : s < 64) (ht : t < 64) : ∀ (N L fu : Nat) (μ : mm_M), cu (μ 10 40 0) 64 ≤ N → N < fu → L + N < 900 → lv S s L (μ 10 40 0) → ∃ w μ1, fx_X11_steps_L49 x1 (nI t) fu (nI L) (mw μ S) = some (w, mw μ1 S) ∧ ANS S s t w ∧ ∀ q t n i, ¬ (q = 10 ∧ t = 40) → μ1 q t n i = μ q t n i := by
  intro N
  induction N with
  | zero =>
    intro L fu μ hc hf hL hlv
    obtain ⟨g, rfl⟩ : ∃ g, fu = g + 1 := ⟨fu - 1, by omega⟩
    obtain ⟨μ1, v, e1, ⟨hP, hV, _⟩, hA, hF⟩ := mo_spreads (L := L) hW (by omega) (fun q hq => (hlv.2 q hq).elim Or.inl (fun ⟨k, hk, e, _⟩ => Or.inr ⟨k, by omega, e⟩))
    have hlv1 := lv_next (by omega) hlv hP hA
    rw [fx_X11_steps_L49, e1, mm_bd_some]
    rcases hV with ⟨rfl, he⟩ | ⟨rfl, q0, hq0, a, b⟩
    · have hend := lv_end hs (by omega) hlv hlv1 he
      rw [if_pos rfl, mm_gd_t (mm_ix_n ht (by omega)), nI_cl (by omega), mw_oth μ1 S (by omega), he t ht]
      rcases hlv.2 t ht with z | ⟨k, hk, e, hd⟩
      · rw [z, mo_orNone_m, mm_bd_some]
        refine ⟨_, μ1, rfl, Or.inl ⟨rfl, fun k hr => ?_⟩, hF⟩
        obtain ⟨j, hj, hdj⟩ := hend k t ht hr
        exact m1_nI (by omega) (z.symm.trans (hlv.1 t ht j hj hdj))
      · rw [e, mo_orNone_n _ (by omega), mm_bd_some]
        exact ⟨_, μ1, rfl, Or.inr ⟨k, by omega, rfl, hd⟩, hF⟩
    · have := cu_lt a b 64 hq0 (fun q hq z => (hP q hq).elim (fun w => w ▸ z) (fun w => w.1))
      omega
  | succ N ih =>
    intro L fu μ hc hf hL hlv
    obtain ⟨g, rfl⟩ : ∃ g, fu = g + 1 := ⟨fu - 1, by omega⟩
    obtain ⟨μ1, v, e1, ⟨hP, hV, _⟩, hA, hF⟩ := mo_spreads (L := L) hW (by omega) (fun q hq => (hlv.2 q hq).elim Or.inl (fun ⟨k, hk, e, _⟩ => Or.inr ⟨k, by omega, e⟩))
    have hlv1 := lv_next (by omega) hlv hP hA
    rw [fx_X11_steps_L49, e1, mm_bd_some]
    rcases hV with ⟨rfl, he⟩ | ⟨rfl, q0, hq0, a, b⟩
    · have hend := lv_end hs (by omega) hlv hlv1 he
      rw [if_pos rfl, mm_gd_t (mm_ix_n ht (by omega)), nI_cl (by omega), mw_oth μ1 S (by omega), he t ht]
      rcases hlv.2 t ht with z | ⟨k, hk, e, hd⟩
      · rw [z, mo_orNone_m, mm_bd_some]
        refine ⟨_, μ1, rfl, Or.inl ⟨rfl, fun k hr => ?_⟩, hF⟩
        obtain ⟨j, hj, hdj⟩ := hend k t ht hr
        exact m1_nI (by omega) (z.symm.trans (hlv.1 t ht j hj hdj))
      · rw [e, mo_orNone_n _ (by omega), mm_bd_some]
        exact ⟨_, μ1, rfl, Or.inr ⟨k, by omega, rfl, hd⟩, hF⟩
    · have := cu_lt a b 64 hq0 (fun q hq z => (hP q hq).elim (fun w => w ▸ z) (fun w => w.1))
      obtain ⟨w, μ2, e2, h2, F2⟩ := ih (L + 1) g μ1 (by omega) (by omega) (by omega) hlv1
      rw [if_neg (show ¬ (1 : Int32) = 0 by decide), mm_li_e, nI_1]
      exact ⟨w, μ2, e2, h2, fun q t n i hh => (F2 q t n i hh).trans (hF q t n i hh)⟩
theorem ini_L {s t : Nat} {S : Nat → Int32} (hs : s < 64) : ∀ (e k fu : Nat) (μ : mm_M), k + e = 64 → e < fu → (∀ q, q < k → μ 10 40 0 q = if q = s then 0 else -1) → ∃ μ1, fx_X11_steps_L19 (nI s) (nI t) fu (nI k) (mw μ S) = fx_X11_steps_L49 (nI s) (nI t) mm_FU 0 (mw μ1 S) ∧ (∀ q, q < 64 → μ1 10 40 0 q = if q = s then 0 else -1) ∧ ∀ q t n i, ¬ (q = 10 ∧ t = 40) → μ1 q t n i = μ q t n i := by
  intro e
  induction e with
  | zero =>
    intro k fu μ hk hf h
    obtain ⟨g, rfl⟩ : ∃ g, fu = g + 1 := ⟨fu - 1, by omega⟩
    have : k = 64 := by omega
    subst this
    rw [fx_X11_steps_L19, if_pos (show (64 : Int32) ≤ nI 64 by decide)]
    exact ⟨μ, rfl, h, fun _ _ _ _ _ => rfl⟩
  | succ e ih =>
    intro k fu μ hk hf h
    obtain ⟨g, rfl⟩ : ∃ g, fu = g + 1 := ⟨fu - 1, by omega⟩
    have J : ∀ v : Int32, v = (if k = s then 0 else -1) → ∃ μ1, fx_X11_steps_J40 (nI s) (nI t) (fun z0 z => fx_X11_steps_L19 (nI s) (nI t) g z0 z) (nI k) (nI k) v (mw μ S) = fx_X11_steps_L49 (nI s) (nI t) mm_FU 0 (mw μ1 S) ∧ (∀ q, q < 64 → μ1 10 40 0 q = if q = s then 0 else -1) ∧ ∀ q t n i, ¬ (q = 10 ∧ t = 40) → μ1 q t n i = μ q t n i := by
      intro v hv
      obtain ⟨μ1, e1, h1, f1⟩ := ih (k + 1) g (mm_u μ 10 40 0 k v) (by omega) (by omega) (fun q hq => by
        by_cases hqk : q = k
        · subst hqk; rw [mm_u_ap, if_pos ⟨rfl, rfl, rfl, rfl⟩]; exact hv
        · rw [mm_u_ap, if_neg (by omega)]; exact h q (by omega))
      refine ⟨μ1, ?_, h1, fun q t n i hh => (f1 q t n i hh).trans (by rw [mm_u_ap, if_neg (by omega)])⟩
      rw [fx_X11_steps_J40, mm_gd_t (mm_ix_n (by omega) (by omega)), mm_lt_e, mm_li_e, nI_cl (by omega), nI_1, mw_s μ S _ (by omega)]
      exact e1
    rw [fx_X11_steps_L19, if_neg (cell_nI (show k < 64 by omega)).2]
    by_cases hks : k = s
    · rw [if_pos (by rw [hks])]
      exact J 0 (by rw [if_pos hks])
    · rw [if_neg (fun z => hks ((nI_e (by omega) (by omega)).mp z))]
      exact J (-1) (by rw [if_neg hks])
theorem mo_steps {B c f s t : Nat} {S : Nat → Int32} (μ : mm_M) (hW : WF B c f S) (hs : s < 64) (ht : t < 64) : ∃ w μ1, fx_X11_steps_L19 (nI s) (nI t) mm_FU 0 (mw μ S) = some (w, mw μ1 S) ∧ ANS S s t w ∧ ∀ q t n i, ¬ (q = 10 ∧ t = 40) → μ1 q t n i = μ q t n i := by
  obtain ⟨μ1, e1, h1, f1⟩ := ini_L (s := s) (t := t) (S := S) hs 64 0 mm_FU μ (by omega) (by unfold mm_FU; omega) (fun q hq => absurd hq (by omega))
  obtain ⟨w, μ2, e2, h2, f2⟩ := lev_L (x1 := nI s) (S := S) hW hs ht 64 0 mm_FU μ1 (cu_64 _ 64) (by unfold mm_FU; omega) (by omega) ⟨fun q hq k hk hd => by
    have : k = 0 := by omega
    subst this
    rw [h1 q hq, if_pos (show q = s from hd.1)]
    rfl, fun q hq => by
    rw [h1 q hq]
    by_cases hqs : q = s
    · rw [if_pos hqs]
      exact Or.inr ⟨0, Nat.le_refl _, rfl, hqs, fun j hj => absurd hj (Nat.not_lt_zero j)⟩
    · rw [if_neg hqs]; exact Or.inl rfl⟩
  exact ⟨w, μ2, e1.trans e2, h2, fun q t n i hh => (f2 q t n i hh).trans (f1 q t n i hh)⟩
