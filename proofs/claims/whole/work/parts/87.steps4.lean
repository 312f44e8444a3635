theorem dir_L {B c f s v p a : Nat} {S : Nat → Int32} (hW : WF B c f S) (hp : p < 64) (hda : dst S s p a) (hav : a ≤ v) : ∀ (e d fu n : Nat) (σ : mm_M), d + e = 4 → e < fu → v < n → RS c f σ 0 S → qI S s v n σ → qT n a σ → σ 7 22 0 v = nI p → σ 7 21 0 p = nI a → (∀ d2, d2 < d → ∀ q, q < 64 → tgt S p d2 q → σ 7 21 0 q ≠ -1) → ∃ n1 σ1, n ≤ n1 ∧ fx_X9_reachAround_L2 0 (nI p) fu (nI d) σ = some (0, σ1) ∧ qI S s v n1 σ1 ∧ qT n1 a σ1 ∧ σ1 7 22 0 v = nI p ∧ σ1 7 21 0 p = nI a ∧ (∀ q, q < 64 → edge S p q → σ1 7 21 0 q ≠ -1) ∧ ∀ q t m i, q ≠ 7 → σ1 q t m i = σ q t m i := by
  intro e
  induction e with
  | zero =>
    intro d fu n σ hk hf hv hR hI hT hQ hD hd
    obtain ⟨g, rfl⟩ : ∃ g, fu = g + 1 := ⟨fu - 1, by omega⟩
    have : d = 4 := by omega
    subst this
    rw [fx_X9_reachAround_L2, if_pos (show (4 : Int32) ≤ nI 4 by decide)]
    exact ⟨n, σ, Nat.le_refl _, rfl, hI, hT, hQ, hD, fun q hq ⟨d2, h2, x1, x2, x3⟩ => hd d2 h2 q hq ⟨x1, x2, x3⟩, fun _ _ _ _ _ => rfl⟩
  | succ e ih =>
    intro d fu n σ hk hf hv hR hI hT hQ hD hd
    obtain ⟨g, rfl⟩ : ∃ g, fu = g + 1 := ⟨fu - 1, by omega⟩
    have hd4 : d < 4 := by omega
    have skip : (∀ q, q < 64 → tgt S p d q → σ 7 21 0 q ≠ -1) → ∃ n1 σ1, n ≤ n1 ∧ fx_X9_reachAround_L2 0 (nI p) g (nI (d + 1)) σ = some (0, σ1) ∧ qI S s v n1 σ1 ∧ qT n1 a σ1 ∧ σ1 7 22 0 v = nI p ∧ σ1 7 21 0 p = nI a ∧ (∀ q, q < 64 → edge S p q → σ1 7 21 0 q ≠ -1) ∧ ∀ q t m i, q ≠ 7 → σ1 q t m i = σ q t m i := fun h => ih (d + 1) g n σ (by omega) (by omega) hv hR hI hT hQ hD (fun d2 h2 q hq ht => by
      by_cases hdd : d2 = d
      · subst hdd; exact h q hq ht
      · exact hd d2 (by omega) q hq ht)
    rw [fx_X9_reachAround_L2, if_neg (show ¬ (4 : Int32) ≤ nI d from nle_lit (x := 4) (b := 4) rfl (by omega) (by omega)), cc_neighbour σ rfl rfl hp hd4, mm_bd_some]
    rcases sp_nx_in (d := d) hp with hN | ⟨x, hx, hN⟩
    · rw [hN, if_pos rfl, mm_li_e, nI_1]
      exact skip (fun q hq z => absurd (hN.symm.trans z.2.1) (m1_nI (by omega)))
    · have uq : ∀ q2, q2 < 64 → sp_nx p d = nI q2 → q2 = x := fun q2 h2 z => (nI_e (by omega) (by omega)).mp (z.symm.trans hN)
      rw [hN, if_neg (nI_m1 (by omega)), cc_hasWall 0 σ rfl hp, mm_bd_some, hR.wl hp]
      by_cases hw : ((S (75 + p) >>> (nI d &&& 31)) &&& 1) = 0
      · rw [if_pos hw, if_pos rfl, cc_isPit 0 σ rfl hx, mm_bd_some, hR.kd hx]
        by_cases h7 : S (11 + x) = 7
        · rw [if_pos h7, if_neg (show ¬ (1 : Int32) = 0 by decide), mm_li_e, nI_1]
          refine skip (fun q2 h2 z => ?_)
          have w := z.2.2
          rw [uq q2 h2 z.2.1] at w
          exact absurd h7 w
        · rw [if_neg h7, if_pos rfl, mm_gd_t (mm_ix_n hp (by omega)), nI_cl (by omega), hD, nI_1]
          by_cases hxD : σ 7 21 0 x = -1
          · obtain ⟨hn, σ1, e1, hI1, hT1, hQ1, hD1, hx1, g1, f1⟩ := q_add hI hT hv hp hQ hD hda hav hx hxD ⟨d, hd4, hw, hN, h7⟩
            rw [e1, mm_bd_some, mm_li_e, nI_1]
            obtain ⟨n1, σ2, hn1, e2, b1, b2, b3, b4, b5, b6⟩ := ih (d + 1) g (n + 1) σ1 (by omega) (by omega) (by omega) (hR.congr (fun t m i _ => f1 _ _ _ _ (by omega))) hI1 hT1 hQ1 hD1 (fun d2 h2 q hq ht => by
              by_cases hdd : d2 = d
              · subst hdd
                rw [uq q hq ht.2.1]; exact hx1
              · have := hd d2 (by omega) q hq ht
                rw [g1 q this]; exact this)
            exact ⟨n1, σ2, by omega, e2, b1, b2, b3, b4, b5, fun q t m i hh => (b6 q t m i hh).trans (f1 q t m i hh)⟩
          · rw [fx_X9_reach, mm_gd_t (mm_ix_n hx (by omega)), nI_cl (by omega), if_neg hxD, mm_bd_some, mm_li_e, nI_1]
            refine skip (fun q2 h2 z => ?_)
            rw [uq q2 h2 z.2.1]; exact hxD
      · rw [if_neg hw, if_neg (show ¬ (1 : Int32) = 0 by decide), mm_li_e, nI_1]
        exact skip (fun q hq z => absurd z.1 hw)
theorem q_all {S : Nat → Int32} {s n : Nat} {σ : mm_M} (hI : qI S s n n σ) : ∀ k q, q < 64 → rch S s k q → σ 7 21 0 q ≠ -1
  | 0, q, _, hr => by
    have e : q = s := hr
    rw [e]; exact hI.2.2.2.2.2.2.2
  | k + 1, q, hq, ⟨p, hp, he, hr⟩ => by
    have := q_all hI k p hp hr
    rcases hI.2.2.2.1 p hp with z | ⟨i, k2, hi, hQ, _, _, _⟩
    · exact absurd z this
    · exact hI.2.2.2.2.2.1 i hi p hp hQ q hq he
theorem que_L {B c f s t : Nat} {x2 : Int32} {S : Nat → Int32} (hW : WF B c f S) (ht : t < 64) : ∀ (e v fu n : Nat) (σ : mm_M), v + e = 65 → e < fu → v ≤ n → RS c f σ 0 S → qI S s v n σ → (v < n → ∃ p a, p < 64 ∧ a ≤ v ∧ σ 7 22 0 v = nI p ∧ σ 7 21 0 p = nI a ∧ qT n a σ) → ∃ w σ1, fx_X9_shortest_L22 0 x2 (nI t) fu (nI v) σ = some (w, σ1) ∧ ANS S s t w ∧ ∀ q t m i, q ≠ 7 → σ1 q t m i = σ q t m i := by
  intro e
  induction e with
  | zero =>
    intro v fu n σ hk hf hv hR hI hT
    have := hI.1
    omega
  | succ e ih =>
    intro v fu n σ hk hf hv hR hI hT
    obtain ⟨g, rfl⟩ : ∃ g, fu = g + 1 := ⟨fu - 1, by omega⟩
    have hn64 := hI.1
    have fin : (v = n ∨ σ 7 21 0 t ≠ -1) → ∃ w σ1, fx_X9_shortest_J66 0 x2 (nI t) σ = some (w, σ1) ∧ ANS S s t w ∧ ∀ q t m i, q ≠ 7 → σ1 q t m i = σ q t m i := by
      intro h
      rw [fx_X9_shortest_J66, mm_gd_t (mm_ix_n ht (by omega)), nI_cl (by omega)]
      rcases hI.2.2.2.1 t ht with z | ⟨i, k, hi, _, hk, hki, hd⟩
      · rw [z, if_pos rfl]
        rcases h with h | h
        · subst h
          exact ⟨_, σ, rfl, Or.inl ⟨rfl, fun k hr => q_all hI k t ht hr z⟩, fun _ _ _ _ _ => rfl⟩
        · exact absurd z h
      · rw [hk, if_neg (nI_m1 (by omega)), mm_gd_t (mm_ix_n ht (by omega))]
        exact ⟨_, σ, rfl, Or.inr ⟨k, by omega, rfl, hd⟩, fun _ _ _ _ _ => rfl⟩
    rw [fx_X9_shortest_L22, hI.2.1]
    by_cases h64 : v = 64
    · rw [if_pos (show (64 : Int32) ≤ nI v from le_lit (x := 64) (b := 64) rfl (by omega) (by omega))]
      exact fin (Or.inl (by omega))
    · rw [if_neg (cell_nI (show v < 64 by omega)).2]
      by_cases hvn : v = n
      · rw [if_pos (show nI n ≤ nI v from le_lit rfl (by omega) (by omega))]
        exact fin (Or.inl hvn)
      · rw [if_neg (show ¬ nI n ≤ nI v from nle_lit rfl (by omega) (by omega)), mm_gd_t (mm_ix_n ht (by omega)), nI_cl (k := t) (by omega)]
        by_cases hDt : σ 7 21 0 t = -1
        · obtain ⟨p, a, hp, hav, hQ, hD, hT1⟩ := hT (by omega)
          have hda : dst S s p a := by
            rcases hI.2.2.2.1 p hp with z | ⟨i, k, hi, _, hk, hki, hd⟩
            · exact absurd (z.symm.trans hD) (m1_nI (by omega))
            · have : k = a := (nI_e (by omega) (by omega)).mp (hk.symm.trans hD)
              subst this
              exact hd
          obtain ⟨n1, σ1, hn1, e1, b1, b2, b3, b4, b5, b6⟩ := dir_L hW hp hda hav 4 0 mm_FU n σ (by omega) (by unfold mm_FU; omega) (by omega) hR hI hT1 hQ hD (fun d2 h2 => absurd h2 (by omega))
          rw [if_pos hDt, mm_gd_t (mm_ix_n (by omega) (by omega)), nI_cl (by omega), hQ, fx_X9_reachAround, show fx_X9_reachAround_L2 0 (nI p) mm_FU 0 σ = some (0, σ1) from e1, mm_bd_some, mm_li_e, nI_1]
          obtain ⟨c1, c2, c3, c4, c5, c6, c7, c8⟩ := id b1
          obtain ⟨w, σ2, e2, h2, f2⟩ := ih (v + 1) g n1 σ1 (by omega) (by omega) (by omega) (hR.congr (fun t m i _ => b6 _ _ _ _ (by omega))) ⟨c1, c2, c3, c4, c5, fun i hi y hy hQy q hq he => by
            by_cases hiv : i = v
            · subst hiv
              have : p = y := (nI_e (by omega) (by omega)).mp (b3.symm.trans hQy)
              subst this
              exact b5 q hq he
            · exact c6 i (by omega) y hy hQy q hq he, c7, c8⟩ (fun hlt => by
            obtain ⟨p2, a2, hp2, x1, x2', x3⟩ := c5 (v + 1) hlt
            refine ⟨p2, a2, hp2, x3, x1, x2', fun j hj q b hq hb w1 w2 => ?_⟩
            have y1 := b2 j hj q b hq hb w1 w2
            have y2 := c7 v (v + 1) p p2 a a2 (by omega) hlt hp hp2 (by omega) (by omega) b3 x1 b4 x2'
            omega)
          exact ⟨w, σ2, e2, h2, fun q t m i hh => (f2 q t m i hh).trans (b6 q t m i hh)⟩
        · rw [if_neg hDt]
          exact fin (Or.inr hDt)
