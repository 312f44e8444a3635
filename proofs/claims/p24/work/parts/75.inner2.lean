/-! a cart is added; a card is laid -/
def zs (S : Nat → Int32) (a j : Nat) : Nat → Int32 := fun i => if a ≤ i ∧ i < a + j then 0 else S i
theorem zs_up (S : Nat → Int32) (a j : Nat) : upd (zs S a j) (a + j) 0 = zs S a (j + 1) := by
  funext i
  unfold upd zs
  by_cases h : i = a + j
  · rw [if_pos h, if_pos (by omega)]
  · rw [if_neg h]
    by_cases h2 : a ≤ i ∧ i < a + j
    · rw [if_pos h2, if_pos (by omega)]
    · rw [if_neg h2, if_neg (by omega)]
def sp_new (S : Nat → Int32) (c q d : Nat) : Nat → Int32 := upd (upd (upd (zs (upd S 0 (nI (c + 1))) (139 + 17 * c) 17) (139 + 17 * c + 0) (nI q)) (139 + 17 * c + 1) (nI q)) (139 + 17 * c + 2) (nI d)
theorem sp_new_0 (S : Nat → Int32) (c q d : Nat) : sp_new S c q d 0 = nI (c + 1) := by
  unfold sp_new
  rw [pk_un (by omega), pk_un (by omega), pk_un (by omega)]
  unfold zs
  rw [if_neg (by omega), pk_us]
theorem sp_new_lo (S : Nat → Int32) (c q d : Nat) {i : Nat} (h0 : i ≠ 0) (h : i < 139 + 17 * c ∨ 139 + 17 * c + 17 ≤ i) : sp_new S c q d i = S i := by
  unfold sp_new
  rw [pk_un (by omega), pk_un (by omega), pk_un (by omega)]
  unfold zs
  rw [if_neg (by omega), pk_un h0]
theorem sp_new_hi (S : Nat → Int32) (c q d : Nat) {k : Nat} (hk : 3 ≤ k) (hk2 : k < 17) : sp_new S c q d (139 + 17 * c + k) = 0 := by
  unfold sp_new
  rw [pk_un (by omega), pk_un (by omega), pk_un (by omega)]
  unfold zs
  rw [if_pos (by omega)]
theorem sp_new_s (S : Nat → Int32) (c q d : Nat) : sp_new S c q d (139 + 17 * c + 0) = nI q ∧ sp_new S c q d (139 + 17 * c + 1) = nI q ∧ sp_new S c q d (139 + 17 * c + 2) = nI d := by
  unfold sp_new
  refine ⟨?_, ?_, pk_us⟩
  · rw [pk_un (by omega), pk_un (by omega), pk_us]
  · rw [pk_un (by omega), pk_us]
theorem come_L {c : Nat} {x y : Int32} {μ : mm_M} {S : Nat → Int32} (hc : c < 4) : ∀ (e j fu : Nat), j + e = 17 → e < fu → fx_X11_comes_L63 x y fu (nI c) (nI j) (mw μ (zs S (139 + 17 * c) j)) = some (nI c, mw μ (upd (upd (upd (zs S (139 + 17 * c) 17) (139 + 17 * c + 0) x) (139 + 17 * c + 1) x) (139 + 17 * c + 2) y)) := by
  intro e
  induction e with
  | zero =>
    intro j fu hk hf
    obtain ⟨g, rfl⟩ : ∃ g, fu = g + 1 := ⟨fu - 1, by omega⟩
    have : j = 17 := by omega
    subst this
    rw [fx_X11_comes_L63, if_pos (show (17 : Int32) ≤ nI 17 by decide), mo_lays (w := 0) (k := 0) μ _ rfl rfl (by omega), mm_bd_some, mo_lays (w := 1) (k := 1) μ _ rfl rfl (by omega), mm_bd_some, mo_lays (w := 2) (k := 2) μ _ rfl rfl (by omega), mm_bd_some]
  | succ e ih =>
    intro j fu hk hf
    obtain ⟨g, rfl⟩ : ∃ g, fu = g + 1 := ⟨fu - 1, by omega⟩
    rw [fx_X11_comes_L63, if_neg (show ¬ (17 : Int32) ≤ nI j from nle_lit (x := 17) (b := 17) rfl (by omega) (by omega)), mo_lays μ _ rfl rfl (by omega), mm_bd_some, mm_li_e, nI_1, zs_up]
    exact ih (j + 1) g (by omega) (by omega)
theorem new_wf {B c f q d : Nat} {S : Nat → Int32} (h : WF B c f S) (hB : 0 < B) (hc : c < 4) (hq : q < 64) (hd : d < 4) (hF : ∀ m, m < c → S (139 + 17 * m + 1) ≠ nI q) : WF B (c + 1) f (sp_new S c q d) := by
  have lo : ∀ i, i ≠ 0 → i < 139 → sp_new S c q d i = S i := fun i a b => sp_new_lo S c q d a (Or.inl (by omega))
  have ol : ∀ n, n < c → ∀ k, k < 17 → sp_new S c q d (139 + 17 * n + k) = S (139 + 17 * n + k) := fun n hn k hk => sp_new_lo S c q d (by omega) (Or.inl (by omega))
  obtain ⟨s0, s1, s2⟩ := sp_new_s S c q d
  refine ⟨by omega, h.f4, sp_new_0 S c q d, ?_, ?_, fun k hk => ?_, fun k hk => ?_, fun n hn => ?_, fun n m hn hm hne e => ?_⟩
  · rw [lo _ (by omega) (by omega)]; exact h.s3
  · rw [lo _ (by omega) (by omega)]; exact h.2.2.2.2.1
  · rw [lo _ (by omega) (by have := h.f4; omega)]; exact h.2.2.2.2.2.1 k hk
  · rw [lo _ (by omega) (by omega)]; exact h.kd hk
  · by_cases hnc : n = c
    · subst hnc
      refine ⟨⟨q, hq, s0⟩, Or.inr ⟨q, hq, s1⟩, ⟨d, hd, s2⟩, ⟨0, by omega, sp_new_hi S n q d (by omega) (by omega)⟩, ⟨0, by omega, sp_new_hi S n q d (by omega) (by omega)⟩, ⟨0, by omega, sp_new_hi S n q d (by omega) (by omega)⟩, Or.inr ⟨0, hB, sp_new_hi S n q d (by omega) (by omega)⟩, fun j hj => ⟨⟨0, by omega, sp_new_hi S n q d (by omega) (by omega)⟩, Or.inl (sp_new_hi S n q d (by omega) (by omega))⟩⟩
    · exact (h.ct (n := n) (by omega)).same (by omega) (fun k hk => ol n (by omega) k hk)
  · by_cases hnc : n = c
    · subst hnc
      rw [s1, ol m (by omega) 1 (by omega)] at e
      exact absurd e.symm (hF m (by omega))
    · by_cases hmc : m = c
      · subst hmc
        rw [s1, ol n (by omega) 1 (by omega)] at e
        exact absurd e (hF n (by omega))
      · rw [ol n (by omega) 1 (by omega), ol m (by omega) 1 (by omega)] at e
        rw [ol n (by omega) 1 (by omega)]
        exact h.ap (by omega) (by omega) hne e
theorem new_rs {c f r q d : Nat} {σ σ1 : mm_M} {S : Nat → Int32} (h : RS c f σ r S) (hc : c < 4) (hf : f ≤ 4) (e : ∀ t n i, ¬ (t = 0 ∧ n = 0 ∧ i = 2) → ¬ (t = 6 ∧ n = c ∧ 2 ≤ i ∧ i < 5) → σ1 r t n i = σ r t n i) (e0 : σ1 r 0 0 2 = nI (c + 1)) (e2 : σ1 r 6 c 2 = nI q) (e3 : σ1 r 6 c 3 = nI q) (e4 : σ1 r 6 c 4 = nI d) : RS (c + 1) f σ1 r (sp_new S c q d) := by
  have lo : ∀ i, i ≠ 0 → i < 139 → sp_new S c q d i = S i := fun i a b => sp_new_lo S c q d a (Or.inl (by omega))
  have ol : ∀ n, n < c → ∀ k, k < 17 → sp_new S c q d (139 + 17 * n + k) = S (139 + 17 * n + k) := fun n hn k hk => sp_new_lo S c q d (by omega) (Or.inl (by omega))
  obtain ⟨s0, s1, s2⟩ := sp_new_s S c q d
  obtain ⟨h1, h2, h3, h4, h5, h6, h7, h8, h9, h10, h11, h12⟩ := h
  refine ⟨e0.trans (sp_new_0 S c q d).symm, ?_, ?_, ?_, ?_, ?_, ?_, fun k hk => ?_, fun k hk => ?_, fun k hk => ?_, fun n hn => ?_, fun n hn hn4 => ⟨fun k a b => ?_, fun j hj => ?_⟩⟩
  · rw [e _ _ _ (by omega) (by omega), lo _ (by omega) (by omega)]; exact h2
  · rw [e _ _ _ (by omega) (by omega), lo _ (by omega) (by omega)]; exact h3
  · rw [e _ _ _ (by omega) (by omega), lo _ (by omega) (by omega)]; exact h4
  · rw [e _ _ _ (by omega) (by omega), lo _ (by omega) (by omega)]; exact h5
  · rw [e _ _ _ (by omega) (by omega), lo _ (by omega) (by omega)]; exact h6
  · rw [e _ _ _ (by omega) (by omega), lo _ (by omega) (by omega)]; exact h7
  · rw [e _ _ _ (by omega) (by omega), lo _ (by omega) (by omega)]; exact h8 k hk
  · rw [e _ _ _ (by omega) (by omega), lo _ (by omega) (by omega)]; exact h9 k hk
  · rw [e _ _ _ (by omega) (by omega), lo _ (by omega) (by omega)]; exact h10 k hk
  · by_cases hnc : n = c
    · subst hnc
      obtain ⟨z1, z2⟩ := h12 n (Nat.le_refl _) hc
      refine ⟨fun k hk => ?_, fun j hj => ⟨?_, fun h0 => ?_⟩⟩
      · rcases (show k = 0 ∨ k = 1 ∨ k = 2 ∨ 3 ≤ k by omega) with rfl | rfl | rfl | h3k
        · exact e2.trans s0.symm
        · exact e3.trans s1.symm
        · exact e4.trans s2.symm
        · rw [e _ _ _ (by omega) (by omega), sp_new_hi S n q d h3k (by omega)]
          exact z1 k h3k hk
      · rw [e _ _ _ (by omega) (by omega), sp_new_hi S n q d (by omega) (by omega)]
        exact z2 j hj
      · exact absurd (sp_new_hi S n q d (by omega) (by omega)) h0
    · obtain ⟨z1, z2⟩ := h11 n (by omega)
      refine ⟨fun k hk => ?_, fun j hj => ⟨?_, fun h0 => ?_⟩⟩
      · rw [e _ _ _ (by omega) (by omega), ol n (by omega) k (by omega)]; exact z1 k hk
      · rw [e _ _ _ (by omega) (by omega), ol n (by omega) _ (by omega)]; exact (z2 j hj).1
      · rw [ol n (by omega) _ (by omega)] at h0
        rw [e _ _ _ (by omega) (by omega), ol n (by omega) _ (by omega)]; exact (z2 j hj).2 h0
  · rw [e _ _ _ (by omega) (by omega)]; exact (h12 n (by omega) hn4).1 k a b
  · rw [e _ _ _ (by omega) (by omega)]; exact (h12 n (by omega) hn4).2 j hj
theorem cart_both {B r : Nat} {a b : Int32} {σ μ : mm_M} {S : Nat → Int32} (hB : 0 < B) (hG : GS B σ r S) : IB B r S (fun v => v = vCart S a b) (fun _ => True) (fx_X8_addCart r a b σ) (fx_X11_comes a b (mw μ S)) := by
  obtain ⟨c, f, ph, hW, hR, hp, hph, hX⟩ := hG
  have hc4 := hW.c4
  have hf4 := hW.f4
  have hcN := cN_eq hW
  rw [fx_X8_addCart, cc_isCell, mm_bd_some, fx_X11_comes, md_isCell, mm_bd_some]
  by_cases ha : (0 : Int32) ≤ a ∧ a ≤ 63
  · rw [if_pos ha, if_neg (show ¬ (1 : Int32) = 0 by decide), if_neg (show ¬ (1 : Int32) = 0 by decide), cc_isDirection, mm_bd_some, md_in, mm_bd_some]
    by_cases hb : (0 : Int32) ≤ b ∧ b ≤ 3
    · rw [if_pos hb, if_neg (show ¬ (1 : Int32) = 0 by decide), if_neg (show ¬ (1 : Int32) = 0 by decide)]
      obtain ⟨q, hq, rfl⟩ := in_nat (N := 63) (by omega) ha
      obtain ⟨d, hd, rfl⟩ := in_nat (N := 3) (by omega) hb
      have hqc : (nI q).toNatClampNeg = q := nI_cl (by omega)
      have hin : ((0 : Int32) ≤ nI q ∧ nI q ≤ 63) ∧ (0 : Int32) ≤ nI d ∧ nI d ≤ 3 := ⟨cell64 hq, nI_pos' (by omega), (nI_g (b := 3) (by omega) (by omega)).mpr hd⟩
      rw [cc_cartOn hW hR rfl (by omega), mm_bd_some, mo_isGood μ hW (by omega), mm_bd_some]
      by_cases ho : sp_on S q c = -1
      · rw [if_pos ho, cc_isPit r σ rfl (by omega), mm_bd_some, hR.kd (by omega)]
        by_cases h7 : S (11 + q) = 7
        · rw [if_pos h7, if_neg (show ¬ (1 : Int32) = 0 by decide), if_neg (show ¬ (S (11 + q) ≠ 7 ∧ sp_on S q c = -1) from fun z => z.1 h7), if_pos rfl]
          exact ⟨_, σ, μ, S, rfl, rfl, (by show _ = vCart S (nI q) (nI d); unfold vCart; rw [if_pos hin, hqc, if_pos (Or.inr h7)]), Or.inr ⟨Or.inr (Or.inl rfl), rfl⟩⟩
        · have hc0 : σ r 0 0 2 = nI c := hR.s0.trans hW.s0
          have hc1 : mw μ S 10 31 0 (0 : Int32).toNatClampNeg = nI c := by rw [mw_row]; exact hW.s0
          rw [if_neg h7, if_pos rfl, if_pos (show S (11 + q) ≠ 7 ∧ sp_on S q c = -1 from ⟨h7, ho⟩), if_neg (show ¬ (1 : Int32) = 0 by decide), hc0, hc1]
          have hno : ¬ (sp_on S (nI q).toNatClampNeg (cN S) ≠ -1 ∨ S (11 + (nI q).toNatClampNeg) = 7) := by
            rw [hqc, hcN]
            exact fun z => z.elim (fun w => w ho) h7
          by_cases h4 : c = 4
          · subst h4
            rw [if_neg (show ¬ nI 4 < (4 : Int32) by decide), if_pos (show nI 4 = (4 : Int32) from rfl)]
            exact ⟨_, σ, μ, S, rfl, rfl, (by show _ = vCart S (nI q) (nI d); unfold vCart; rw [if_pos hin, if_neg hno, if_pos (show S 0 = 4 from hW.s0)]), Or.inr ⟨Or.inr (Or.inr rfl), rfl⟩⟩
          · have hcl : c < 4 := by omega
            have hF : ∀ m, m < c → S (139 + 17 * m + 1) ≠ nI q := by
              rcases sp_on_spec S q c hc4 with ⟨x, y⟩ | ⟨m, hm, x, y⟩
              · exact y
              · exact absurd (ho.symm.trans x) (m1_nI (by omega))
            have hL := come_L (x := nI q) (y := nI d) (μ := μ) (S := upd S 0 (nI (c + 1))) hcl 17 0 mm_FU (by omega) (by unfold mm_FU; omega)
            have hz : zs (upd S 0 (nI (c + 1))) (139 + 17 * c) 0 = upd S 0 (nI (c + 1)) := by
              funext i
              unfold zs
              rw [if_neg (by omega)]
            rw [hz] at hL
            have e1 : nI (c + 1) - 1 = nI c := pk_sub (a := c + 1) (b := 1) (by omega)
            have u0 : mm_u (mm_u (mm_u σ r 6 c 2 (nI q)) r 6 c 3 (nI q)) r 6 c 4 (nI d) r 0 0 2 = nI c := by
              rw [mm_u_ap, if_neg (by omega), mm_u_ap, if_neg (by omega), mm_u_ap, if_neg (by omega)]
              exact hc0
            refine ⟨nI c, mm_u (mm_u (mm_u (mm_u σ r 6 c 2 (nI q)) r 6 c 3 (nI q)) r 6 c 4 (nI d)) r 0 0 2 (nI (c + 1)), μ, sp_new S c q d, ?_, ?_, ?_, Or.inl ⟨c, by omega, rfl, ⟨c + 1, f, ph, new_wf hW hB hcl (by omega) (by omega) hF, ?_, ?_, hph, ?_⟩, trivial⟩⟩
            · rw [if_pos (show nI c < (4 : Int32) from (nI_lt2 (a := c) (b := 4) (by omega) (by omega)).mpr hcl), mm_gd_t (mm_ix_n (by omega) (by omega)), nI_cl (by omega), fx_X3_begin, mm_lt_e, mm_lt_e, mm_lt_e, mm_bd_some, mm_lt_e, u0, nI_1, mm_u_ap, if_pos ⟨rfl, rfl, rfl, rfl⟩, e1]
            · rw [if_neg (show ¬ nI c = (4 : Int32) from ne_lit (a := c) (b := 4) rfl h4 (by omega) (by omega)), mm_li_e, mm_lt_e, nI_1]
              have e0 : mm_u (mw μ S) 10 31 0 (0 : Int32).toNatClampNeg (nI (c + 1)) = mw μ (upd S 0 (nI (c + 1))) := mw_u μ S 0 _
              rw [e0]
              exact hL
            · show _ = vCart S (nI q) (nI d)
              unfold vCart
              rw [if_pos hin, if_neg hno, hW.s0, if_neg (show ¬ nI c = (4 : Int32) from ne_lit (a := c) (b := 4) rfl h4 (by omega) (by omega))]
            · refine new_rs hR hcl hf4 (fun t n i x y => ?_) ?_ ?_ ?_ ?_
              · rw [mm_u_ap, if_neg (by omega), mm_u_ap, if_neg (by omega), mm_u_ap, if_neg (by omega), mm_u_ap, if_neg (by omega)]
              · rw [mm_u_ap, if_pos ⟨rfl, rfl, rfl, rfl⟩]
              · rw [mm_u_ap, if_neg (by omega), mm_u_ap, if_neg (by omega), mm_u_ap, if_neg (by omega), mm_u_ap, if_pos ⟨rfl, rfl, rfl, rfl⟩]
              · rw [mm_u_ap, if_neg (by omega), mm_u_ap, if_neg (by omega), mm_u_ap, if_pos ⟨rfl, rfl, rfl, rfl⟩]
              · rw [mm_u_ap, if_neg (by omega), mm_u_ap, if_pos ⟨rfl, rfl, rfl, rfl⟩]
            · rw [sp_new_lo S c q d (by omega) (Or.inl (by omega))]
              exact hp
            · obtain ⟨x1, x2, R, x3, x4, x5⟩ := hX
              refine ⟨fun n q1 hn hq1 z => ?_, ?_, R, (sp_new_lo S c q d (by omega) (Or.inl (by omega))).trans x3, (sp_new_lo S c q d (by omega) (Or.inl (by omega))).trans x4, x5⟩
              · rw [sp_new_lo S c q d (by omega) (Or.inl (by omega))]
                by_cases hnc : n = c
                · subst hnc
                  rw [(sp_new_s S n q d).2.1] at z
                  rw [← (nI_e (a := q) (b := q1) (by omega) (by omega)).mp z]
                  exact h7
                · rw [sp_new_lo S c q d (by omega) (Or.inl (by omega))] at z
                  exact x1 n q1 (by omega) hq1 z
              · rcases x2 with x2 | ⟨n, u, a1, a2, a3, a4, a5⟩
                · exact Or.inl ((sp_new_lo S c q d (by omega) (Or.inl (by omega))).trans x2)
                · exact Or.inr ⟨n, u, by omega, a2, a3, (sp_new_lo S c q d (by omega) (Or.inl (by omega))).trans a4, (sp_new_lo S c q d (by omega) (Or.inl (by omega))).trans a5⟩
      · rw [if_neg ho, if_neg (show ¬ (S (11 + q) ≠ 7 ∧ sp_on S q c = -1) from fun z => ho z.2), if_pos rfl]
        exact ⟨_, σ, μ, S, rfl, rfl, (by show _ = vCart S (nI q) (nI d); unfold vCart; rw [if_pos hin, hqc, hcN, if_pos (Or.inl ho)]), Or.inr ⟨Or.inr (Or.inl rfl), rfl⟩⟩
    · rw [if_neg hb, if_pos rfl, if_pos rfl]
      exact ⟨_, σ, μ, S, rfl, rfl, (by show _ = vCart S a b; unfold vCart; rw [if_neg (fun z => hb z.2)]), Or.inr ⟨Or.inl rfl, rfl⟩⟩
  · rw [if_neg ha, if_pos rfl, if_pos rfl]
    exact ⟨_, σ, μ, S, rfl, rfl, (by show _ = vCart S a b; unfold vCart; rw [if_neg (fun z => ha z.1)]), Or.inr ⟨Or.inl rfl, rfl⟩⟩
/-! the set of registers with a card -/
theorem or_bit : ∀ j : Fin 5, ∀ m : Fin 32, m.val < 2 ^ j.val → nI m.val ||| ((1 : Int32) <<< (nI j.val &&& 31)) = nI (m.val + 2 ^ j.val) := by decide +kernel
theorem or_0 : ∀ m : Fin 32, nI m.val ||| (0 : Int32) = nI m.val := by decide +kernel
def sOnes (x : Int32) : Int32 := (((((0 : Int32) + ((x >>> ((0 : Int32) &&& 31)) &&& 1)) + ((x >>> ((1 : Int32) &&& 31)) &&& 1)) + ((x >>> ((2 : Int32) &&& 31)) &&& 1)) + ((x >>> ((3 : Int32) &&& 31)) &&& 1)) + ((x >>> ((4 : Int32) &&& 31)) &&& 1)
theorem mo_ones (x : Int32) (μ : mm_M) : fx_X11_ones x μ = some (sOnes x, μ) := by
  rw [fx_X11_ones]
  unfold mm_FU
  rw [fx_X11_ones_L4, if_neg (show ¬ (5 : Int32) ≤ 0 by decide), mm_li_e, mm_li_e, show (0 : Int32) + 1 = 1 by decide]
  rw [fx_X11_ones_L4, if_neg (show ¬ (5 : Int32) ≤ 1 by decide), mm_li_e, mm_li_e, show (1 : Int32) + 1 = 2 by decide]
  rw [fx_X11_ones_L4, if_neg (show ¬ (5 : Int32) ≤ 2 by decide), mm_li_e, mm_li_e, show (2 : Int32) + 1 = 3 by decide]
  rw [fx_X11_ones_L4, if_neg (show ¬ (5 : Int32) ≤ 3 by decide), mm_li_e, mm_li_e, show (3 : Int32) + 1 = 4 by decide]
  rw [fx_X11_ones_L4, if_neg (show ¬ (5 : Int32) ≤ 4 by decide), mm_li_e, mm_li_e, show (4 : Int32) + 1 = 5 by decide]
  rw [fx_X11_ones_L4, if_pos (show (5 : Int32) ≤ 5 by decide)]
  rfl
def sBits (x0 : Int32) : Int32 :=
  let y1 := x0 - (((x0.toUInt32 >>> ((1 : Int32).toUInt32 &&& Int32.toUInt32 31)).toInt32) &&& (1431655765 : Int32))
  let y2 := (y1 &&& (858993459 : Int32)) + (((y1.toUInt32 >>> ((2 : Int32).toUInt32 &&& Int32.toUInt32 31)).toInt32) &&& (858993459 : Int32))
  let y3 := (y2 + ((y2.toUInt32 >>> ((4 : Int32).toUInt32 &&& Int32.toUInt32 31)).toInt32)) &&& (252645135 : Int32)
  let y4 := y3 + ((y3.toUInt32 >>> ((8 : Int32).toUInt32 &&& Int32.toUInt32 31)).toInt32)
  let y5 := y4 + ((y4.toUInt32 >>> ((16 : Int32).toUInt32 &&& Int32.toUInt32 31)).toInt32)
  y5 &&& (63 : Int32)
theorem cc_bits (x : Int32) (σ : mm_M) : fx_J6_bitCount_0f7a4 x σ = some (sBits x, σ) := rfl
theorem bits_ones : ∀ m : Fin 32, sBits (nI m.val) = sOnes (nI m.val) ∧ ∃ t : Fin 6, sOnes (nI m.val) = nI t.val := by decide +kernel
def cs (S : Nat → Int32) (n : Nat) : Nat → Nat
  | 0 => 0
  | j + 1 => cs S n j + (if S (139 + 17 * n + (8 + 2 * j)) ≤ 0 then 0 else 2 ^ j)
theorem cs_lt (S : Nat → Int32) (n : Nat) : ∀ j, cs S n j < 2 ^ j
  | 0 => (by decide : 0 < 2 ^ 0)
  | j + 1 => by
    have h := cs_lt S n j
    have hp : 2 ^ (j + 1) = 2 ^ j * 2 := Nat.pow_succ 2 j
    unfold cs
    split <;> omega
theorem cs_bit (S : Nat → Int32) (n j : Nat) (hj : j < 5) : cs S n 5 / 2 ^ j % 2 = if S (139 + 17 * n + (8 + 2 * j)) ≤ 0 then 0 else 1 := by
  have e : cs S n 5 = (if S (139 + 17 * n + (8 + 2 * 0)) ≤ 0 then 0 else 2 ^ 0) + (if S (139 + 17 * n + (8 + 2 * 1)) ≤ 0 then 0 else 2 ^ 1) + (if S (139 + 17 * n + (8 + 2 * 2)) ≤ 0 then 0 else 2 ^ 2) + (if S (139 + 17 * n + (8 + 2 * 3)) ≤ 0 then 0 else 2 ^ 3) + (if S (139 + 17 * n + (8 + 2 * 4)) ≤ 0 then 0 else 2 ^ 4) := by
    show (0 + _ + _ + _ + _ + _ : Nat) = _
    rw [Nat.zero_add]
  rw [e]
  rcases (show j = 0 ∨ j = 1 ∨ j = 2 ∨ j = 3 ∨ j = 4 by omega) with rfl | rfl | rfl | rfl | rfl
  all_goals
    by_cases h0 : S (139 + 17 * n + (8 + 2 * 0)) ≤ 0 <;> by_cases h1 : S (139 + 17 * n + (8 + 2 * 1)) ≤ 0 <;> by_cases h2 : S (139 + 17 * n + (8 + 2 * 2)) ≤ 0 <;> by_cases h3 : S (139 + 17 * n + (8 + 2 * 3)) ≤ 0 <;> by_cases h4 : S (139 + 17 * n + (8 + 2 * 4)) ≤ 0 <;> simp only [h0, h1, h2, h3, h4, if_true, if_false] <;> rfl
theorem set_L {B c f r n : Nat} {S : Nat → Int32} {σ μ : mm_M} (hW : WF B c f S) (hR : RS c f σ r S) (hn : n < c) : ∀ (e j fu fu2 : Nat), j + e = 5 → e < fu → e < fu2 → fx_X3_cardSet_L4 r n fu (nI (cs S n j)) (nI j) σ = some (nI (cs S n 5), σ) ∧ fx_X11_withCards_L4 (nI n) fu2 (nI (cs S n j)) (nI j) (mw μ S) = some (nI (cs S n 5), mw μ S) := by
  have hc4 := hW.c4
  intro e
  induction e with
  | zero =>
    intro j fu fu2 hk hf hf2
    obtain ⟨g, rfl⟩ : ∃ g, fu = g + 1 := ⟨fu - 1, by omega⟩
    obtain ⟨g2, rfl⟩ : ∃ g, fu2 = g + 1 := ⟨fu2 - 1, by omega⟩
    have : j = 5 := by omega
    subst this
    rw [fx_X3_cardSet_L4, if_pos (show (5 : Int32) ≤ nI 5 by decide), fx_X11_withCards_L4, if_pos (show (5 : Int32) ≤ nI 5 by decide)]
    exact ⟨rfl, rfl⟩
  | succ e ih =>
    intro j fu fu2 hk hf hf2
    obtain ⟨g, rfl⟩ : ∃ g, fu = g + 1 := ⟨fu - 1, by omega⟩
    obtain ⟨g2, rfl⟩ : ∃ g, fu2 = g + 1 := ⟨fu2 - 1, by omega⟩
    have hj : j < 5 := by omega
    have hm := cs_lt S n j
    have hm32 : cs S n j < 32 := by
      have : 2 ^ j ≤ 2 ^ 5 := Nat.pow_le_pow_right (by omega) (by omega)
      omega
    have h5 : ¬ (5 : Int32) ≤ nI j := nle_lit (x := 5) (b := 5) rfl (by omega) (by omega)
    have I := ih (j + 1) g g2 (by omega) (by omega) (by omega)
    have ec : cs S n (j + 1) = cs S n j + (if S (139 + 17 * n + (8 + 2 * j)) ≤ 0 then 0 else 2 ^ j) := rfl
    rw [ec] at I
    rw [fx_X3_cardSet_L4, if_neg h5, mm_gd_t (mm_ix_n (by omega) (by omega)), nI_cl (by omega), hR.rk hn hj, fx_X11_withCards_L4, if_neg h5, mo_rank μ S rfl rfl (by omega) hj, mm_bd_some]
    by_cases hz : S (139 + 17 * n + (8 + 2 * j)) ≤ 0
    · rw [if_pos hz] at I
      rw [if_pos hz, if_pos hz, mm_li_e, nI_1, fx_X11_withCards_J26, mm_li_e, mm_li_e, nI_1, or_0 ⟨_, hm32⟩]
      exact I
    · rw [if_neg hz] at I
      rw [if_neg hz, if_neg hz, mm_li_e, mm_li_e, nI_1, fx_X11_withCards_J26, mm_li_e, mm_li_e, nI_1, or_bit ⟨j, hj⟩ ⟨_, hm32⟩ hm]
      exact I
theorem bits_pos : ∀ m : Fin 32, m.val ≠ 0 → ∀ t : Fin 6, sOnes (nI m.val) = nI t.val → 0 < t.val := by decide +kernel
def badCard (S : Nat → Int32) (a b x y : Int32) : Prop := ¬ ((0 ≤ a ∧ a < S 0) ∧ (0 ≤ b ∧ b ≤ 4) ∧ (0 ≤ x ∧ x ≤ 6) ∧ 1 ≤ y ∧ y ≤ 999)
def shutCard (S : Nat → Int32) (n j : Nat) : Prop := S (139 + 17 * n + 1) = -1 ∨ uN (S (139 + 17 * n + 3)).toNatClampNeg ≤ j ∨ nI j < S 1
def vCard (S : Nat → Int32) (a b x y v : Int32) : Prop := (badCard S a b x y ∧ v = -1000001) ∨ (¬ badCard S a b x y ∧ ((shutCard S a.toNatClampNeg b.toNatClampNeg ∧ v = -1000002) ∨ (¬ shutCard S a.toNatClampNeg b.toNatClampNeg ∧ 0 < v ∧ v < 6)))
def pCard (S : Nat → Int32) (a b x y : Int32) (S1 : Nat → Int32) : Prop := S1 0 = S 0 ∧ S1 (139 + 17 * a.toNatClampNeg + (7 + 2 * b.toNatClampNeg)) = x ∧ S1 (139 + 17 * a.toNatClampNeg + (8 + 2 * b.toNatClampNeg)) = y
theorem card_both {B r : Nat} {a b x y : Int32} {σ μ : mm_M} {S : Nat → Int32} (hG : GS B σ r S) : IB B r S (vCard S a b x y) (pCard S a b x y) (fx_X8_layCard r a b x y σ) (fx_X11_cards a b x y (mw μ S)) := by
  obtain ⟨c, f, ph, hW, hR, hp, hph, hX⟩ := hG
  have hc4 := hW.c4
  have hf4 := hW.f4
  have bad1 : badCard S a b x y → IB B r S (vCard S a b x y) (pCard S a b x y) (some ((-1000001 : Int32), σ)) (some ((-1000001 : Int32), mw μ S)) := fun hb => ⟨_, σ, μ, S, rfl, rfl, Or.inl ⟨hb, rfl⟩, Or.inr ⟨Or.inl rfl, rfl⟩⟩
  have bad2 : ¬ badCard S a b x y → shutCard S a.toNatClampNeg b.toNatClampNeg → IB B r S (vCard S a b x y) (pCard S a b x y) (some ((-1000002 : Int32), σ)) (some ((-1000002 : Int32), mw μ S)) := fun hb hs => ⟨_, σ, μ, S, rfl, rfl, Or.inr ⟨hb, Or.inl ⟨hs, rfl⟩⟩, Or.inr ⟨Or.inr (Or.inl rfl), rfl⟩⟩
  rw [fx_X8_layCard, cc_hasCart r a σ (hR.s0.trans hW.s0), mm_bd_some, fx_X11_cards, md_isCart a (mw μ S) (by rw [mw_row]; exact hW.s0) hc4, mm_bd_some]
  by_cases ha : (0 : Int32) ≤ a ∧ a < nI c
  · rw [if_pos ha, if_neg (show ¬ (1 : Int32) = 0 by decide), if_neg (show ¬ (1 : Int32) = 0 by decide), cc_isRegister, mm_bd_some, md_in, mm_bd_some]
    by_cases hb : (0 : Int32) ≤ b ∧ b ≤ 4
    · rw [if_pos hb, if_neg (show ¬ (1 : Int32) = 0 by decide), if_neg (show ¬ (1 : Int32) = 0 by decide), cc_isWithin, mm_bd_some, md_in, mm_bd_some]
      by_cases hx : (0 : Int32) ≤ x ∧ x ≤ 6
      · rw [if_pos hx, if_neg (show ¬ (1 : Int32) = 0 by decide), if_neg (show ¬ (1 : Int32) = 0 by decide), cc_isWithin, mm_bd_some, md_in, mm_bd_some]
        by_cases hy : (1 : Int32) ≤ y ∧ y ≤ 999
        · rw [if_pos hy, if_neg (show ¬ (1 : Int32) = 0 by decide), if_neg (show ¬ (1 : Int32) = 0 by decide)]
          have nb : ¬ badCard S a b x y := fun z => z ⟨⟨ha.1, by rw [hW.s0]; exact ha.2⟩, hb, hx, hy⟩
          obtain ⟨n, hn, rfl⟩ := i32_isN (N := c) (Int32.not_lt.mpr ha.1) ha.2 (by omega)
          obtain ⟨j, hj4, rfl⟩ := in_nat (N := 4) (by omega) hb
          have hj : j < 5 := by omega
          obtain ⟨mv, hmv, rfl⟩ := in_nat (N := 6) (by omega) hx
          obtain ⟨rk, hrk, rfl⟩ := in_nat (x := y) (N := 999) (by omega) ⟨Int32.le_trans (by decide) hy.1, hy.2⟩
          have hrk0 : rk ≠ 0 := fun z => by subst z; exact absurd hy.1 (by decide)
          obtain ⟨d, hd, ed⟩ : isN (S (139 + 17 * n + 3)) 10 := (hW.ct hn).2.2.2.1
          have e3 : σ r 6 n 5 = nI d := (hR.ct hn (k := 3) (by omega)).trans ed
          have ec : σ r 6 n 3 = S (139 + 17 * n + 1) := hR.ct hn (k := 1) (by omega)
          have e31 : mw μ S 10 31 0 (139 + 17 * n + 3) = nI d := by rw [mw_row]; exact ed
          have hnc : (nI n).toNatClampNeg = n := nI_cl (by omega)
          have hjc : (nI j).toNatClampNeg = j := nI_cl (by omega)
          have hdc : (S (139 + 17 * n + 3)).toNatClampNeg = d := by rw [ed]; exact nI_cl (by omega)
          rw [hnc, hjc] at bad2
          have ep : σ r 0 0 3 = nI ph := hR.ph.trans hp
          have ep1 : mw μ S 10 31 0 (1 : Int32).toNatClampNeg = nI ph := by rw [mw_row]; exact hp
          have lk : ∀ X Y : mm_R, (if nI j < nI (uN d) then X else Y) = if uN d ≤ j then Y else X := by
            intro X Y
            have := uN_5 d
            by_cases h : uN d ≤ j
            · rw [if_pos h, if_neg (fun z => absurd ((nI_lt2 (by omega) (by omega)).mp z) (by omega))]
            · rw [if_neg h, if_pos ((nI_lt2 (by omega) (by omega)).mpr (by omega))]
          have cl : fx_X3_isLocked r n (nI j) σ = some (if uN d ≤ j then 1 else 0, σ) := by
            rw [fx_X3_isLocked, cc_unlocked hd e3, mm_bd_some, lk]
            split <;> rfl
          rw [mm_gd_t (mm_ix_n (by omega) (by omega)), nI_cl (by omega), cl, mm_bd_some, mo_isOut μ S rfl (by omega), mm_bd_some]
          by_cases hl : uN d ≤ j
          · rw [if_pos hl, if_neg (show ¬ (1 : Int32) = 0 by decide)]
            by_cases ho : S (139 + 17 * n + 1) < 0
            · rw [if_pos ho, if_neg (show ¬ (1 : Int32) = 0 by decide)]
              exact bad2 nb (Or.inr (Or.inl (by rw [hdc]; exact hl)))
            · rw [if_neg ho, if_pos rfl, md_isLocked _ _ rfl (by omega), mm_bd_some, e31, if_pos ((lock_iff hd hj).mpr hl), if_neg (show ¬ (1 : Int32) = 0 by decide)]
              exact bad2 nb (Or.inr (Or.inl (by rw [hdc]; exact hl)))
          · rw [if_neg hl, if_pos rfl, cc_isOut, mm_bd_some, ec]
            by_cases ho : S (139 + 17 * n + 1) = -1
            · rw [if_pos ho, if_neg (show ¬ (1 : Int32) = 0 by decide), if_pos ((out_iff (hW.ct hn)).mpr ho), if_neg (show ¬ (1 : Int32) = 0 by decide)]
              exact bad2 nb (Or.inl ho)
            · rw [if_neg ho, if_pos rfl, if_neg (fun z => ho ((out_iff (hW.ct hn)).mp z)), if_pos rfl, md_isLocked _ _ rfl (by omega), mm_bd_some, e31, if_neg (fun z => hl ((lock_iff hd hj).mp z)), if_pos rfl, ep, ep1]
              by_cases hpj : nI ph ≤ nI j
              · have e7 : (7 : Int32) + 2 * nI j = nI (7 + 2 * j) := by
                  show nI 7 + nI 2 * nI j = _
                  rw [pk_mul, nI_add]
                have hR2 : RS c f (mm_u (mm_u σ r 7 n j (nI mv)) r 8 n j (nI rk)) r (upd (upd S (139 + 17 * n + (7 + 2 * j)) (nI mv)) (139 + 17 * n + (8 + 2 * j)) (nI rk)) := by
                  refine hR.reg hc4 hf4 hn hj (fun t m i hh => ?_) ?_ (fun _ => ?_)
                  · rw [mm_u_ap, if_neg (by omega), mm_u_ap, if_neg (by omega)]
                  · rw [mm_u_ap, if_pos ⟨rfl, rfl, rfl, rfl⟩]
                  · rw [mm_u_ap, if_neg (by omega), mm_u_ap, if_pos ⟨rfl, rfl, rfl, rfl⟩]
                have hW2 := hW.reg (mv := nI mv) (rk := nI rk) hn hj ⟨rk, by omega, rfl⟩ (Or.inr ⟨mv, by omega, rfl⟩)
                obtain ⟨s1, s2⟩ := set_L (μ := μ) hW2 hR2 hn 5 0 mm_FU mm_FU (by omega) (by unfold mm_FU; omega) (by unfold mm_FU; omega)
                have hm1 : cs (upd (upd S (139 + 17 * n + (7 + 2 * j)) (nI mv)) (139 + 17 * n + (8 + 2 * j)) (nI rk)) n 5 < 32 := cs_lt _ n 5
                have hbit := cs_bit (upd (upd S (139 + 17 * n + (7 + 2 * j)) (nI mv)) (139 + 17 * n + (8 + 2 * j)) (nI rk)) n j hj
                rw [pk_us, if_neg (show ¬ nI rk ≤ (0 : Int32) from nle_lit (a := 0) (b := rk) rfl (by omega) (by omega))] at hbit
                generalize hm1e : cs (upd (upd S (139 + 17 * n + (7 + 2 * j)) (nI mv)) (139 + 17 * n + (8 + 2 * j)) (nI rk)) n 5 = m1 at s1 s2 hm1 hbit
                obtain ⟨b1, t, b2⟩ := bits_ones ⟨m1, hm1⟩
                have hm0 : m1 ≠ 0 := fun z => by
                  rw [z, Nat.zero_div] at hbit
                  exact absurd hbit (by decide)
                have ht0 : 0 < t.val := bits_pos ⟨m1, hm1⟩ hm0 t b2
                have b1' : sBits (nI m1) = sOnes (nI m1) := b1
                have b2' : sOnes (nI m1) = nI t.val := b2
                rw [if_pos hpj, if_pos hpj, fx_X3_lay, mm_gd_t (mm_ix_n (by omega) (by omega)), mm_lt_e, mm_gd_t (mm_ix_n (by omega) (by omega)), mm_lt_e, mm_bd_some, nI_cl (by omega), fx_X3_cardSet, show fx_X3_cardSet_L4 r n mm_FU 0 0 _ = _ from s1, mm_bd_some, cc_bits, mm_bd_some, b1', e7, mo_lays μ S rfl rfl (by omega), mm_bd_some, mo_lays (k := 8 + 2 * j) μ _ rfl (by rw [nI_1]; congr 1; omega) (by omega), mm_bd_some, fx_X11_withCards, show fx_X11_withCards_L4 (nI n) mm_FU 0 0 _ = _ from s2, mm_bd_some, mo_ones, mm_bd_some, b2']
                refine ⟨_, _, μ, _, rfl, rfl, Or.inr ⟨nb, Or.inr ⟨?_, (nI_lt2 (a := 0) (by omega) (by omega)).mpr ht0, (nI_lt2 (b := 6) (by omega) (by omega)).mpr t.isLt⟩⟩, Or.inl ⟨t.val, by omega, rfl, ⟨c, f, ph, hW2, hR2, (pk_un (by omega)).trans ((pk_un (by omega)).trans hp), hph, ?_⟩, ?_⟩⟩
                · rw [hnc, hjc]
                  rintro (z | z | z)
                  · exact ho z
                  · rw [hdc] at z; exact hl z
                  · rw [hp] at z; exact absurd z (Int32.not_lt.mpr hpj)
                · exact hX.cg (fun i hi => (pk_un (by omega)).trans (pk_un (by omega))) (fun m hm => (pk_un (by omega)).trans (pk_un (by omega))) (fun m hm => (pk_un (by omega)).trans (pk_un (by omega)))
                · unfold pCard
                  rw [hnc, hjc]
                  exact ⟨(pk_un (by omega)).trans (pk_un (by omega)), (pk_un (by omega)).trans pk_us, pk_us⟩
              · rw [if_neg hpj, if_neg hpj]
                exact bad2 nb (Or.inr (Or.inr (by rw [hp]; exact i32_nle hpj)))
        · rw [if_neg hy, if_pos rfl, if_pos rfl]
          exact bad1 (fun z => hy z.2.2.2)
      · rw [if_neg hx, if_pos rfl, if_pos rfl]
        exact bad1 (fun z => hx z.2.2.1)
    · rw [if_neg hb, if_pos rfl, if_pos rfl]
      exact bad1 (fun z => hb z.2.1)
  · rw [if_neg ha, if_pos rfl, if_pos rfl]
    exact bad1 (fun z => ha ⟨z.1.1, by have w := z.1.2; rw [hW.s0] at w; exact w⟩)
