/-! all orders of a text, on both sides -/
theorem IB.wk {B B2 r : Nat} {S : Nat → Int32} {V : Int32 → Prop} {P : (Nat → Int32) → Prop} {x y : mm_R} (h : IB B r S V P x y) (hB : B ≤ B2) : IB B2 r S (fun _ => True) (fun _ => True) x y := by
  obtain ⟨v, σ1, μ1, S1, ex, ey, _, hh⟩ := h
  refine ⟨v, σ1, μ1, S1, ex, ey, trivial, ?_⟩
  rcases hh with ⟨t, ht, e, hG, _⟩ | hh
  · exact Or.inl ⟨t, ht, e, hG.mono hB, trivial⟩
  · exact Or.inr hh
theorem obey_both {B c N : Nat} {σ μ : mm_M} {S : Nat → Int32} (hl : lt c N) (hB0 : 0 < B) (hB : B < 200000) (hG : GS B σ 1 S) (e2 : σ 8 23 0 2 = nI c) (hn : ∀ i, i < N → σ 8 25 0 i = μ 10 41 0 i) : IB (B + 1) 1 S (fun _ => True) (fun _ => True) (fx_X5_obey_k25 1 σ) (fx_X11_called (nI c) (mw μ S)) := by
  have hm : ∀ i, i < N → mw μ S 10 41 0 i = σ 8 25 0 i := fun i hi => by rw [mw_oth μ S (by omega)]; exact (hn i hi).symm
  rw [fx_X5_obey_k25, e2, fx_X11_called]
  rcases hl with ⟨rfl, rfl⟩ | ⟨rfl, rfl⟩ | ⟨rfl, rfl⟩ | ⟨rfl, rfl⟩ | ⟨rfl, rfl⟩
  · rw [if_pos (show nI 99 = (99 : Int32) from rfl), if_pos (show nI 99 = (99 : Int32) from rfl), bd_id, bd_id]
    show IB (B + 1) 1 S (fun _ => True) (fun _ => True) (fx_X8_addCart 1 (σ 8 25 0 0) (σ 8 25 0 1) σ) (fx_X11_comes (mw μ S 10 41 0 0) (mw μ S 10 41 0 1) (mw μ S))
    rw [hm 0 (by omega), hm 1 (by omega)]
    exact (cart_both hB0 hG).wk (Nat.le_succ _)
  · iterate 2 rw [if_neg (show ¬ nI 107 = (99 : Int32) by decide), if_pos (show nI 107 = (107 : Int32) from rfl)]
    rw [bd_id, bd_id]
    show IB (B + 1) 1 S (fun _ => True) (fun _ => True) (fx_X8_setKind 1 (σ 8 25 0 0) (σ 8 25 0 1) σ) (fx_X11_kinds (mw μ S 10 41 0 0) (mw μ S 10 41 0 1) (mw μ S))
    rw [hm 0 (by omega), hm 1 (by omega)]
    exact (kind_both hG).wk (Nat.le_succ _)
  · iterate 2 rw [if_neg (show ¬ nI 112 = (99 : Int32) by decide), if_neg (show ¬ nI 112 = (107 : Int32) by decide), if_pos (show nI 112 = (112 : Int32) from rfl)]
    rw [bd_id, bd_id]
    show IB (B + 1) 1 S (fun _ => True) (fun _ => True) (fx_X8_layCard 1 (σ 8 25 0 0) (σ 8 25 0 1) (σ 8 25 0 2) (σ 8 25 0 3) σ) (fx_X11_cards (mw μ S 10 41 0 0) (mw μ S 10 41 0 1) (mw μ S 10 41 0 2) (mw μ S 10 41 0 3) (mw μ S))
    rw [hm 0 (by omega), hm 1 (by omega), hm 2 (by omega), hm 3 (by omega)]
    exact (card_both hG).wk (Nat.le_succ _)
  · iterate 2 rw [if_neg (show ¬ nI 119 = (99 : Int32) by decide), if_neg (show ¬ nI 119 = (107 : Int32) by decide), if_neg (show ¬ nI 119 = (112 : Int32) by decide), if_pos (show nI 119 = (119 : Int32) from rfl)]
    rw [bd_id, bd_id]
    show IB (B + 1) 1 S (fun _ => True) (fun _ => True) (fx_X8_flipWall 1 (σ 8 25 0 0) (σ 8 25 0 1) σ) (fx_X11_walls (mw μ S 10 41 0 0) (mw μ S 10 41 0 1) (mw μ S))
    rw [hm 0 (by omega), hm 1 (by omega)]
    exact (wall_both hG).wk (Nat.le_succ _)
  · iterate 2 rw [if_neg (show ¬ nI 114 = (99 : Int32) by decide), if_neg (show ¬ nI 114 = (107 : Int32) by decide), if_neg (show ¬ nI 114 = (112 : Int32) by decide), if_neg (show ¬ nI 114 = (119 : Int32) by decide)]
    rw [bd_id, bd_id]
    exact (run_both (by omega) hB hG).wk (Nat.le_refl _)
def AO (B L : Nat) (x y : mm_R) : Prop := ∃ w σ1 μ1 S1, x = some (0, σ1) ∧ y = some (w, mw μ1 S1) ∧ ((w = 1 ∧ σ1 9 26 0 4 = 0 ∧ (∃ d, 2 * d ≤ L ∧ σ1 9 26 0 2 = nI d ∧ μ1 10 30 0 15 = nI d) ∧ GS B σ1 1 S1) ∨ (w = 0 ∧ σ1 9 26 0 3 = μ1 10 30 0 14 ∧ (∃ p, p < L ∧ σ1 9 26 0 3 = nI p ∧ (σ1 9 26 0 4 = 1 → ∃ q, p + q ≤ L ∧ σ1 9 26 0 5 = nI q)) ∧ ((σ1 9 26 0 4 = 1 ∧ μ1 10 30 0 17 = 0 ∧ σ1 9 26 0 5 = μ1 10 30 0 13 - μ1 10 30 0 14) ∨ (σ1 9 26 0 4 = 2 ∧ μ1 10 30 0 17 = 1 ∧ σ1 9 26 0 5 = μ1 10 30 0 16 ∧ er (σ1 9 26 0 5)))))
theorem all_faulty {g : Nat} {x : Int32} {σ : mm_M} (h : ¬ σ 9 26 0 4 = 0) : fx_X5_doAll_L22 1 (g + 1) x σ = some (0, σ) := by
  rw [fx_X5_doAll_L22]
  by_cases h1 : (60 : Int32) ≤ x
  · rw [if_pos h1]
  · rw [if_neg h1]
    by_cases h2 : (σ 8 23 0 1) ≤ (σ 9 26 0 3)
    · rw [if_pos h2]
    · rw [if_neg h2, fx_X5_isFaulty, if_neg h, mm_bd_some, if_neg (show ¬ (1 : Int32) = 0 by decide)]
theorem all_end {L i g g2 B : Nat} {ch : Nat → Nat} {σ μ : mm_M} {S : Nat → Int32} (hi : 2 * i ≤ L) (hG : GS B σ 1 S) (h : TL σ μ L ch) (e3 : σ 9 26 0 3 = nI L) (e2 : σ 9 26 0 2 = nI i) (e4 : σ 9 26 0 4 = 0) (m13 : μ 10 30 0 13 = nI L) (m15 : μ 10 30 0 15 = nI i) : AO B L (fx_X5_doAll_L22 1 (g + 1) (nI i) σ) (fx_X11_doesAll_L10 (g2 + 1) (mw μ S)) := by
  obtain ⟨h1, h2, h3, _⟩ := h
  have o6 : mw μ S 10 30 0 6 = nI L := by rw [mw_oth μ S (by omega)]; exact h3
  have o13 : mw μ S 10 30 0 13 = nI L := by rw [mw_oth μ S (by omega)]; exact m13
  refine ⟨1, σ, μ, S, ?_, ?_, Or.inl ⟨rfl, e4, ⟨i, by omega, e2, m15⟩, hG⟩⟩
  · rw [fx_X5_doAll_L22]
    by_cases hx : (60 : Int32) ≤ nI i
    · rw [if_pos hx]
    · rw [if_neg hx, h2, e3, if_pos (le_lit rfl (Nat.le_refl _) (by omega))]
  · rw [fx_X11_doesAll_L10, o6, o13, if_pos (le_lit rfl (Nat.le_refl _) (by omega))]
theorem all_L {L : Nat} {ch : Nat → Nat} : ∀ (n p i fu fu2 B : Nat) (σ μ : mm_M) (S : Nat → Int32), L - p ≤ n → p ≤ L → 2 * i ≤ p → n + 1 < fu → n < fu2 → 0 < B → B + n < 200000 → GS B σ 1 S → TL σ μ L ch → σ 9 26 0 3 = nI p → σ 9 26 0 2 = nI i → σ 9 26 0 4 = 0 → μ 10 30 0 13 = nI p → μ 10 30 0 15 = nI i → AO (B + n) L (fx_X5_doAll_L22 1 fu (nI i) σ) (fx_X11_doesAll_L10 fu2 (mw μ S)) := by
  intro n
  induction n with
  | zero =>
    intro p i fu fu2 B σ μ S hn hp hi hf hf2 hB0 hB hG h e3 e2 e4 m13 m15
    obtain ⟨g, rfl⟩ : ∃ g, fu = g + 1 := ⟨fu - 1, by omega⟩
    obtain ⟨g2, rfl⟩ : ∃ g, fu2 = g + 1 := ⟨fu2 - 1, by omega⟩
    have : p = L := by omega
    subst this
    exact all_end hi hG h e3 e2 e4 m13 m15
  | succ n ih =>
    intro p i fu fu2 B σ μ S hn hp hi hf hf2 hB0 hB hG h e3 e2 e4 m13 m15
    obtain ⟨g, rfl⟩ : ∃ g, fu = g + 1 + 1 := ⟨fu - 2, by omega⟩
    obtain ⟨g2, rfl⟩ : ∃ g, fu2 = g + 1 := ⟨fu2 - 1, by omega⟩
    by_cases hpL : p = L
    · subst hpL
      exact all_end hi (hG.mono (by omega)) h e3 e2 e4 m13 m15
    obtain ⟨h1, h2, h3, h4⟩ := id h
    have hlt : p < L := by omega
    have o6 : mw μ S 10 30 0 6 = nI L := by rw [mw_oth μ S (by omega)]; exact h3
    have o13 : mw μ S 10 30 0 13 = nI p := by rw [mw_oth μ S (by omega)]; exact m13
    rw [fx_X5_doAll_L22, if_neg (show ¬ (60 : Int32) ≤ nI i from nle_lit (x := 60) (b := 60) rfl (by omega) (by omega)), h2, e3, if_neg (show ¬ nI L ≤ nI p from nle_lit rfl hlt (by omega)), fx_X5_isFaulty, if_pos e4, mm_bd_some, if_pos rfl, e3, fx_X11_doesAll_L10, o6, o13, if_neg (show ¬ nI L ≤ nI p from nle_lit rfl hlt (by omega)), mm_lt_e, mw_s μ S _ (by omega)]
    show AO _ _ _ (mo_ord (fun z => fx_X11_doesAll_L10 g2 z) (mw (mm_u μ 10 30 0 14 (nI p)) S))
    have hT : TL σ (mm_u μ 10 30 0 14 (nI p)) L ch := ⟨h1, h2, by rw [mm_u_ap, if_neg (by omega)]; exact h3, fun j hj => ⟨(h4 j hj).1, by rw [mm_u_ap, if_neg (by omega)]; exact (h4 j hj).2.1, (h4 j hj).2.2⟩⟩
    rcases read_both (S := S) (k10 := fun z => fx_X11_doesAll_L10 g2 z) hT hlt (by rw [mm_u_ap, if_neg (by omega)]; exact m13) with ⟨c, N, p2, σ1, μ1, hl, a1, a2, a3, a4, a5, a6, a7, a8, a9, a10, a11⟩ | ⟨p2, σ1, μ1, b1, b2, a1, a2, a3, a4, a5, a6, a7⟩
    · have G1 : GS B σ1 1 S := hG.congr (fun t n i _ => a10 _ _ _ _ (by omega)) (fun _ _ => rfl)
      rw [a3, mm_bd_some, if_neg (show ¬ (1 : Int32) = 0 by decide), a4]
      obtain ⟨v, σ2, μ2, S2, ex, ey, _, hh⟩ := obey_both (μ := μ1) hl hB0 (by omega) G1 a9 a8
      have cf : ∀ q t n i, 8 ≤ q → σ2 q t n i = σ1 q t n i := fun q t n i hq => fr_X5_obey_k25 1 σ1 v σ2 ex q t n i (by unfold fw_X5_obey_k25; omega)
      have mf : ∀ t n i, (t = 35 ∨ t = 30) → i ≠ 9 ∨ t = 35 → μ2 10 t n i = μ1 10 t n i := fun t n i ht hi => by
        have := fr_X11_called (nI c) _ v _ ey 10 t n i (by unfold fw_X11_called; omega)
        rw [mw_oth μ2 S2 (by omega), mw_oth μ1 S (by omega)] at this
        exact this
      rw [ex, mm_bd_some, ey, mm_bd_some]
      have c84 : σ2 8 23 0 4 = nI p2 := (cf _ _ _ _ (by omega)).trans a5
      have c92 : σ2 9 26 0 2 = nI i := (cf _ _ _ _ (by omega)).trans ((a10 _ _ _ _ (by omega)).trans e2)
      have c93 : σ2 9 26 0 3 = nI p := (cf _ _ _ _ (by omega)).trans ((a10 _ _ _ _ (by omega)).trans e3)
      have c94 : σ2 9 26 0 4 = 0 := (cf _ _ _ _ (by omega)).trans ((a10 _ _ _ _ (by omega)).trans e4)
      have n13 : μ2 10 30 0 13 = nI p2 := (mf _ _ _ (by omega) (by omega)).trans a6
      have n14 : μ2 10 30 0 14 = nI p := (mf _ _ _ (by omega) (by omega)).trans ((a11 _ _ _ _ (by omega)).trans (by rw [mm_u_ap, if_pos ⟨rfl, rfl, rfl, rfl⟩]))
      have n15 : μ2 10 30 0 15 = nI i := (mf _ _ _ (by omega) (by omega)).trans ((a11 _ _ _ _ (by omega)).trans (by rw [mm_u_ap, if_neg (by omega)]; exact m15))
      have n17 : μ2 10 30 0 17 = 1 := (mf _ _ _ (by omega) (by omega)).trans a7
      have o17 : mw (mm_u μ2 10 30 0 16 v) S2 10 30 0 17 = 1 := by rw [mw_oth _ S2 (by omega), mm_u_ap, if_neg (by omega)]; exact n17
      have o16 : mw (mm_u μ2 10 30 0 16 v) S2 10 30 0 16 = v := by rw [mw_oth _ S2 (by omega), mm_u_ap, if_pos ⟨rfl, rfl, rfl, rfl⟩]
      have o15 : mw (mm_u μ2 10 30 0 16 v) S2 10 30 0 15 = nI i := by rw [mw_oth _ S2 (by omega), mm_u_ap, if_neg (by omega)]; exact n15
      rcases hh with ⟨t, ht, rfl, G2, _⟩ | ⟨he, _⟩
      · have u2 : mm_u σ2 9 26 0 3 (nI p2) 9 26 0 2 = nI i := by rw [mm_u_ap, if_neg (by omega)]; exact c92
        have hneg : (-1000001 : Int32) < nI t := Int32.lt_of_lt_of_le (show (-1000001 : Int32) < 0 by decide) (nI_pos' (by omega))
        rw [fx_X5_doAll_J81, if_neg (show ¬ (1 : Int32) = 0 by decide), fx_X10_isError, if_pos (show (0 : Int32) ≤ nI t from nI_pos' (by omega)), mm_bd_some, if_pos rfl, mm_lt_e, c84, mm_lt_e, u2, mm_li_e, nI_1]
        rw [fx_X11_doesAll_J130, mm_lt_e, mw_s μ2 S2 _ (by omega), o17, if_neg (show ¬ (1 : Int32) = 0 by decide), o16, if_pos hneg, mm_lt_e, o15, nI_1, mw_s _ S2 _ (by omega)]
        have := ih p2 (i + 1) (g + 1) g2 (B + 1) (mm_u (mm_u σ2 9 26 0 3 (nI p2)) 9 26 0 2 (nI (i + 1))) (mm_u (mm_u μ2 10 30 0 16 (nI t)) 10 30 0 15 (nI (i + 1))) S2 (by omega) a2 (by omega) (by omega) (by omega) (by omega) (by omega) (G2.congr (fun t n i _ => by rw [mm_u_ap, if_neg (by omega), mm_u_ap, if_neg (by omega)]) (fun _ _ => rfl)) ⟨h1, ?_, ?_, fun j hj => ⟨?_, ?_, (h4 j hj).2.2⟩⟩ ?_ ?_ ?_ ?_ ?_
        · rw [show B + (n + 1) = B + 1 + n by omega]
          exact this
        · rw [mm_u_ap, if_neg (by omega), mm_u_ap, if_neg (by omega), cf _ _ _ _ (by omega), a10 _ _ _ _ (by omega)]; exact h2
        · rw [mm_u_ap, if_neg (by omega), mm_u_ap, if_neg (by omega), mf _ _ _ (by omega) (by omega), a11 _ _ _ _ (by omega), mm_u_ap, if_neg (by omega)]; exact h3
        · rw [mm_u_ap, if_neg (by omega), mm_u_ap, if_neg (by omega), cf _ _ _ _ (by omega), a10 _ _ _ _ (by omega)]; exact (h4 j hj).1
        · rw [mm_u_ap, if_neg (by omega), mm_u_ap, if_neg (by omega), mf _ _ _ (by omega) (by omega), a11 _ _ _ _ (by omega), mm_u_ap, if_neg (by omega)]; exact (h4 j hj).2.1
        · rw [mm_u_ap, if_neg (by omega), mm_u_ap, if_pos ⟨rfl, rfl, rfl, rfl⟩]
        · rw [mm_u_ap, if_pos ⟨rfl, rfl, rfl, rfl⟩]
        · rw [mm_u_ap, if_neg (by omega), mm_u_ap, if_neg (by omega)]; exact c94
        · rw [mm_u_ap, if_neg (by omega), mm_u_ap, if_neg (by omega)]; exact n13
        · rw [mm_u_ap, if_pos ⟨rfl, rfl, rfl, rfl⟩]
      · have hv : ¬ (0 : Int32) ≤ v ∧ ¬ (-1000001 : Int32) < v := by
          rcases he with rfl | rfl | rfl <;> decide
        rw [fx_X5_doAll_J81, if_neg (show ¬ (1 : Int32) = 0 by decide), fx_X10_isError, if_neg hv.1, mm_bd_some, if_neg (show ¬ (1 : Int32) = 0 by decide), mm_lt_e, mm_lt_e, mm_li_e, all_faulty (by rw [mm_u_ap, if_neg (by omega), mm_u_ap, if_pos ⟨rfl, rfl, rfl, rfl⟩]; decide)]
        rw [fx_X11_doesAll_J130, mm_lt_e, mw_s μ2 S2 _ (by omega), o17, if_neg (show ¬ (1 : Int32) = 0 by decide), o16, if_neg hv.2]
        refine ⟨0, _, _, S2, rfl, rfl, Or.inr ⟨rfl, ?_, ⟨p, hlt, ?_, fun z => ?_⟩, Or.inr ⟨?_, ?_, ?_, ?_⟩⟩⟩
        · rw [mm_u_ap, if_neg (by omega), mm_u_ap, if_neg (by omega), mm_u_ap, if_neg (by omega), c93, n14]
        · rw [mm_u_ap, if_neg (by omega), mm_u_ap, if_neg (by omega), c93]
        · rw [mm_u_ap, if_neg (by omega), mm_u_ap, if_pos ⟨rfl, rfl, rfl, rfl⟩] at z
          exact absurd z (by decide)
        · rw [mm_u_ap, if_neg (by omega), mm_u_ap, if_pos ⟨rfl, rfl, rfl, rfl⟩]
        · rw [mm_u_ap, if_neg (by omega)]; exact n17
        · rw [mm_u_ap, if_pos ⟨rfl, rfl, rfl, rfl⟩, mm_u_ap, if_pos ⟨rfl, rfl, rfl, rfl⟩]
        · rw [mm_u_ap, if_pos ⟨rfl, rfl, rfl, rfl⟩]
          exact he
    · have c93 : σ1 9 26 0 3 = nI p := (a6 _ _ _ _ (by omega)).trans e3
      have n14 : μ1 10 30 0 14 = nI p := (a7 _ _ _ _ (by omega)).trans (by rw [mm_u_ap, if_pos ⟨rfl, rfl, rfl, rfl⟩])
      rw [a1, mm_bd_some, if_pos rfl, fx_X5_doAll_J81, if_pos rfl, mm_lt_e, mm_lt_e, mm_li_e, all_faulty (by rw [mm_u_ap, if_neg (by omega), mm_u_ap, if_pos ⟨rfl, rfl, rfl, rfl⟩]; decide), a2]
      refine ⟨0, _, μ1, S, rfl, rfl, Or.inr ⟨rfl, ?_, ⟨p, hlt, ?_, fun _ => ⟨p2 - p, by omega, ?_⟩⟩, Or.inl ⟨?_, a5, ?_⟩⟩⟩
      · rw [mm_u_ap, if_neg (by omega), mm_u_ap, if_neg (by omega), c93, n14]
      · rw [mm_u_ap, if_neg (by omega), mm_u_ap, if_neg (by omega), c93]
      · rw [mm_u_ap, if_pos ⟨rfl, rfl, rfl, rfl⟩, mm_u_ap, if_neg (by omega), mm_u_ap, if_neg (by omega), a3, c93, pk_sub b1]
      · rw [mm_u_ap, if_neg (by omega), mm_u_ap, if_pos ⟨rfl, rfl, rfl, rfl⟩]
      · rw [mm_u_ap, if_pos ⟨rfl, rfl, rfl, rfl⟩, mm_u_ap, if_neg (by omega), mm_u_ap, if_neg (by omega), a3, c93, a4, n14]
theorem doAll_both {B L : Nat} {ch : Nat → Nat} {σ μ : mm_M} {S : Nat → Int32} (hB0 : 0 < B) (hB : B < 100000) (hG : GS B σ 1 S) (h : TL σ μ L ch) : AO (B + 60) L (fx_X5_doAll 1 σ) (fx_X11_doesAll (mw μ S)) := by
  obtain ⟨h1, h2, h3, h4⟩ := id h
  rw [fx_X5_doAll, mm_lt_e, mm_lt_e, mm_lt_e, mm_lt_e, fx_X11_doesAll, mm_lt_e, mw_s _ S _ (by omega), mm_lt_e, mw_s _ S _ (by omega)]
  refine all_L (ch := ch) (L := L) 60 0 0 mm_FU mm_FU B _ _ S (by omega) (by omega) (by omega) (by unfold mm_FU; omega) (by unfold mm_FU; omega) hB0 (by omega) (hG.congr (fun t n i _ => ?_) (fun _ _ => rfl)) ⟨h1, ?_, ?_, fun j hj => ⟨?_, ?_, (h4 j hj).2.2⟩⟩ ?_ ?_ ?_ ?_ ?_
  · iterate 4 rw [mm_u_ap, if_neg (by omega)]
  · iterate 4 rw [mm_u_ap, if_neg (by omega)]
    exact h2
  · iterate 2 rw [mm_u_ap, if_neg (by omega)]
    exact h3
  · iterate 4 rw [mm_u_ap, if_neg (by omega)]
    exact (h4 j hj).1
  · iterate 2 rw [mm_u_ap, if_neg (by omega)]
    exact (h4 j hj).2.1
  · iterate 2 rw [mm_u_ap, if_neg (by omega)]
    rw [mm_u_ap, if_pos ⟨rfl, rfl, rfl, rfl⟩]
    rfl
  · iterate 3 rw [mm_u_ap, if_neg (by omega)]
    rw [mm_u_ap, if_pos ⟨rfl, rfl, rfl, rfl⟩]
    rfl
  · rw [mm_u_ap, if_neg (by omega), mm_u_ap, if_pos ⟨rfl, rfl, rfl, rfl⟩]
  · rw [mm_u_ap, if_neg (by omega), mm_u_ap, if_pos ⟨rfl, rfl, rfl, rfl⟩]
    rfl
  · rw [mm_u_ap, if_pos ⟨rfl, rfl, rfl, rfl⟩]
    rfl
