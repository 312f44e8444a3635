/-! undo, type, clearText, and the questions -/
section QQ
variable {k N L : Nat} {σ : mm_M} {R : Nat → Nat → Int32} {S : Nat → Int32} {ch : Nat → Nat}
theorem A_undo0 (hK : KS k σ 0 R S L ch) : fx_X10_undo σ = some (-1000002, σ) := by
  obtain ⟨⟨_, h61, _⟩, _, _⟩ := hK
  rw [fx_X10_undo, h61, if_pos (show nI 0 = (0 : Int32) from rfl)]
theorem A_undo {n : Nat} (hK : KS k σ (n + 1) R S L ch) : ∃ σ1, fx_X10_undo σ = some (nI n, σ1) ∧ KS k σ1 n R (R n) L ch := by
  obtain ⟨⟨hN4, h61, p, hp, hR⟩, hG, hT⟩ := hK
  have e1 : nI (n + 1) - 1 = nI n := pk_sub (a := n + 1) (b := 1) (by omega)
  have hz : ¬ nI (n + 1) = (0 : Int32) := ne_lit (b := 0) rfl (by omega) (by omega) (by omega)
  have hz2 : ¬ nI (n + 1) ≤ (0 : Int32) := nle_lit (a := 0) (b := n + 1) rfl (by omega) (by omega)
  have hpn := (hp.1 n (by omega)).1
  have u1 : mm_u σ 6 10 0 1 (nI n) 6 10 0 1 = nI n := by rw [mm_u_ap, if_pos ⟨rfl, rfl, rfl, rfl⟩]
  have u2 : mm_u σ 6 10 0 1 (nI n) 6 11 0 n = nI (2 + p n) := by rw [mm_u_ap, if_neg (by omega)]; exact (hp.1 n (by omega)).2
  obtain ⟨σ1, c1, c2, c3⟩ := copy0 (r0 := 0) (r1 := 2 + p n) (σ := mm_u σ 6 10 0 1 (nI n)) (by omega)
  have s61 : σ1 6 10 0 1 = nI n := (c3 _ _ _ _ (by omega)).trans u1
  have F : ∀ q t m i, q ≠ 0 → ¬ (q = 6 ∧ t = 10 ∧ i = 1) → σ1 q t m i = σ q t m i := fun q t m i a b => (c3 q t m i a).trans (by rw [mm_u_ap, if_neg (by omega)])
  have Gn : GS (JB k) σ1 0 (R n) := ((hR n (by omega)).congr (σ2 := mm_u σ 6 10 0 1 (nI n)) (fun t m i ht => by rw [mm_u_ap, if_neg (by omega)]) (fun _ _ => rfl)).copy c2
  refine ⟨σ1, ?_, ⟨by omega, s61, p, ⟨fun i hi => ⟨(hp.1 i hi).1, (F _ _ _ _ (by omega) (by omega)).trans (hp.1 i hi).2⟩, hp.2⟩, fun i hi => ?_⟩, Gn, hT.congr (F _ _ _ _ (by omega) (by omega)) (fun i => F _ _ _ _ (by omega) (by omega))⟩
  · rw [fx_X10_undo, h61, if_neg hz, fx_X4_restore, h61, if_neg hz2, mm_lt_e, e1, u1, mm_gd_t (mm_ix_n (by omega) (by omega)), nI_cl (by omega), u2, nI_cl (by omega), mm_gd_t (by omega), c1, mm_bd_some, mm_bd_some, s61]
  · have hpi := (hp.1 i (by omega)).1
    exact (hR i (by omega)).congr (fun t m j ht => F _ _ _ _ (by omega) (by omega)) (fun _ _ => rfl)
theorem ch_id : ∀ m : Fin 127, ((nI m.val).toUInt32 % 65536).toInt32 = nI m.val := by decide +kernel
theorem A_type {x : Nat} (hK : KS k σ N R S L ch) (hL : L < 60) (h1 : 32 ≤ x) (h2 : x < 127) : ∃ σ1 ch1, fx_X10_type (nI x) σ = some (nI (L + 1), σ1) ∧ KS k σ1 N R S (L + 1) ch1 := by
  obtain ⟨hC, hG, hl0, hl1, hl3⟩ := hK
  have ha : (32 : Int32) ≤ nI x ∧ nI x ≤ 126 := ⟨(nI_g (a := 32) (by omega) (by omega)).mpr h1, (nI_g (b := 126) (by omega) (by omega)).mpr (by omega)⟩
  have eid : ((nI x).toUInt32 % 65536).toInt32 = nI x := ch_id ⟨x, by omega⟩
  have hlt : nI L < (60 : Int32) := (nI_lt2 (a := L) (b := 60) (by omega) (by omega)).mpr (by omega)
  have hg : (0 : Int32) ≤ nI x ∧ nI x < 65536 := ⟨nI_pos' (by omega), (nI_lt2 (a := x) (b := 65536) (by omega) (by omega)).mpr (by omega)⟩
  have u1 : mm_u σ 8 24 0 L (nI x) 8 23 0 1 = nI L := by rw [mm_u_ap, if_neg (by omega)]; exact hl1
  refine ⟨mm_u (mm_u σ 8 24 0 L (nI x)) 8 23 0 1 (nI (L + 1)), fun i => if i = L then x else ch i, ?_, hC.congr (fun q t n i a b => ?_), ?_, by omega, ?_, fun i hi => ?_⟩
  · rw [fx_X10_type, cc_isWithin, mm_bd_some, if_pos ha, if_neg (show ¬ (1 : Int32) = 0 by decide), eid, fx_X6_append, hl1, if_pos hlt, mm_gd_t (mm_ix_n (by omega) (by omega)), mm_gd_t hg, mm_lt_e, nI_cl (by omega), mm_lt_e, u1, nI_1, mm_bd_some, mm_u_ap, if_pos ⟨rfl, rfl, rfl, rfl⟩]
  · rw [mm_u_ap, if_neg (by omega), mm_u_ap, if_neg (by omega)]
  · exact hG.congr (fun t n i _ => by rw [mm_u_ap, if_neg (by omega), mm_u_ap, if_neg (by omega)]) (fun _ _ => rfl)
  · rw [mm_u_ap, if_pos ⟨rfl, rfl, rfl, rfl⟩]
  · rw [mm_u_ap, if_neg (by omega), mm_u_ap]
    show _ = nI (if i = L then x else ch i) ∧ 32 ≤ (if i = L then x else ch i) ∧ (if i = L then x else ch i) < 127
    by_cases hiL : i = L
    · rw [if_pos ⟨rfl, rfl, rfl, hiL⟩, if_pos hiL]
      exact ⟨rfl, h1, h2⟩
    · rw [if_neg (fun z => hiL z.2.2.2), if_neg hiL]
      exact hl3 i (by omega)
theorem A_clear (hK : KS k σ N R S L ch) : ∃ σ1, fx_X10_clearText σ = some (nI L, σ1) ∧ KS k σ1 N R S 0 ch := by
  obtain ⟨hC, hG, hl0, hl1, hl3⟩ := hK
  refine ⟨mm_u σ 8 23 0 1 0, ?_, hC.congr (fun q t n i a b => ?_), ?_, by omega, ?_, fun i hi => absurd hi (by omega)⟩
  · rw [fx_X10_clearText, mm_li_e, mm_lt_e, hl1]
  · rw [mm_u_ap, if_neg (by omega)]
  · exact hG.congr (fun t n i _ => by rw [mm_u_ap, if_neg (by omega)]) (fun _ _ => rfl)
  · rw [mm_u_ap, if_pos ⟨rfl, rfl, rfl, rfl⟩]
    rfl
end QQ
/-! what the questions answer, as numbers of S -/
def fN (S : Nat → Int32) : Nat := (S 3).toNatClampNeg
def lowF (S : Nat → Int32) (q : Nat) : Nat → Nat → Int32
  | 0, _ => -1000004
  | e + 1, k => if S (7 + k) = nI q then nI k else lowF S q e (k + 1)
theorem fN_eq {B c f : Nat} {S : Nat → Int32} (h : WF B c f S) : fN S = f := by
  unfold fN
  rw [show S 3 = nI f from h.2.2.2.1]
  exact nI_cl (by have := h.f4; omega)
theorem q_flL {B c f r q : Nat} {S : Nat → Int32} {σ : mm_M} (hW : WF B c f S) (hR : RS c f σ r S) : ∀ (e k fu : Nat), k + e = f → e < fu → fx_X1_lowestFlagOn_L2 r (nI q) fu (nI k) σ = some (lowF S q e k, σ) := by
  have hf4 := hW.f4
  have e3 : σ r 1 0 3 = nI f := hR.fc.trans hW.s3
  intro e
  induction e with
  | zero =>
    intro k fu hk hf
    obtain ⟨g, rfl⟩ : ∃ g, fu = g + 1 := ⟨fu - 1, by omega⟩
    have : k = f := by omega
    subst this
    rw [fx_X1_lowestFlagOn_L2, e3, if_pos (le_lit rfl (Nat.le_refl _) (by omega))]
    rfl
  | succ e ih =>
    intro k fu hk hf
    obtain ⟨g, rfl⟩ : ∃ g, fu = g + 1 := ⟨fu - 1, by omega⟩
    rw [fx_X1_lowestFlagOn_L2, e3, if_neg (nle_lit rfl (by omega) (by omega) : ¬ nI f ≤ nI k), mm_gd_t (mm_ix_n (by omega) (by omega)), nI_cl (by omega), hR.fl (by omega)]
    unfold lowF
    by_cases h : S (7 + k) = nI q
    · rw [if_pos h, if_pos h]
    · rw [if_neg h, if_neg h, mm_li_e, nI_1]
      exact ih (k + 1) g (by omega) (by omega)
def vCell (S : Nat → Int32) (q j : Nat) : Int32 := if j = 0 then S (11 + q) else if j = 1 then S (75 + q) else if j = 2 then (if sp_on S q (cN S) = -1 then -1000004 else sp_on S q (cN S)) else lowF S q (fN S) 0
theorem q_cell {B q j : Nat} {S : Nat → Int32} {σ : mm_M} (hG : GS B σ 0 S) (hq : q < 64) (hj : j < 4) : fx_X10_cellOf (nI q) (nI j) σ = some (vCell S q j, σ) := by
  obtain ⟨c, f, ph, hW, hR, hp, hph, hX⟩ := hG
  have hcN := cN_eq hW
  have hfN := fN_eq hW
  have hj3 : (0 : Int32) ≤ nI j ∧ nI j ≤ 3 := ⟨nI_pos' (by omega), (nI_g (b := 3) (by omega) (by omega)).mpr (by omega)⟩
  rw [fx_X10_cellOf, cc_isCell, mm_bd_some, if_pos (cell64 (show q ≤ 63 by omega)), if_neg (show ¬ (1 : Int32) = 0 by decide), cc_isWithin, mm_bd_some, if_pos hj3, if_neg (show ¬ (1 : Int32) = 0 by decide), fx_X8_cellValue]
  unfold vCell
  rw [hcN, hfN]
  rcases (show j = 0 ∨ j = 1 ∨ j = 2 ∨ j = 3 by omega) with rfl | rfl | rfl | rfl
  · rw [if_pos (show nI 0 = (0 : Int32) from rfl), cc_kindOn 0 σ rfl hq, mm_bd_some, mm_bd_some, hR.kd hq]
    rfl
  · rw [if_neg (show ¬ nI 1 = (0 : Int32) by decide), if_pos (show nI 1 = (1 : Int32) from rfl), fx_X1_wallsOf, if_neg (cell_nI hq).1, if_neg (cell_nI hq).2, mm_gd_t (mm_ix_n hq (by omega)), nI_cl (by omega), hR.wl hq, mm_bd_some, mm_bd_some]
    rfl
  · rw [if_neg (show ¬ nI 2 = (0 : Int32) by decide), if_neg (show ¬ nI 2 = (1 : Int32) by decide), if_pos (show nI 2 = (2 : Int32) from rfl), cc_cartOn hW hR rfl hq, mm_bd_some]
    show _ = some (if sp_on S q c = -1 then (-1000004 : Int32) else sp_on S q c, σ)
    by_cases h : sp_on S q c = -1
    · rw [if_pos h, if_pos h, mm_bd_some]
    · rw [if_neg h, if_neg h, cc_cartOn hW hR rfl hq, mm_bd_some, mm_bd_some]
  · rw [if_neg (show ¬ nI 3 = (0 : Int32) by decide), if_neg (show ¬ nI 3 = (1 : Int32) by decide), if_neg (show ¬ nI 3 = (2 : Int32) by decide), fx_X1_lowestFlagOn, show fx_X1_lowestFlagOn_L2 0 (nI q) mm_FU 0 σ = _ from q_flL (q := q) hW hR f 0 mm_FU (by omega) (by unfold mm_FU; have := hW.f4; omega), mm_bd_some, mm_bd_some]
    rfl
/-! the locked registers -/
theorem q_lockL {r n u : Nat} {σ : mm_M} (hu : u ≤ 5) : ∀ (e j fu : Nat), j + e = 5 → u ≤ j → e < fu → fx_X3_lockedSet_L7 r n fu (nI (2 ^ j - 2 ^ u)) (nI j) σ = some (nI (32 - 2 ^ u), σ) := by
  intro e
  induction e with
  | zero =>
    intro j fu hk hu hf
    obtain ⟨g, rfl⟩ : ∃ g, fu = g + 1 := ⟨fu - 1, by omega⟩
    have : j = 5 := by omega
    subst this
    rw [fx_X3_lockedSet_L7, if_pos (show (5 : Int32) ≤ nI 5 by decide)]
  | succ e ih =>
    intro j fu hk hu hf
    obtain ⟨g, rfl⟩ : ∃ g, fu = g + 1 := ⟨fu - 1, by omega⟩
    have hj : j < 5 := by omega
    have hp : 2 ^ (j + 1) = 2 ^ j * 2 := Nat.pow_succ 2 j
    have hpu : 2 ^ u ≤ 2 ^ j := Nat.pow_le_pow_right (by omega) hu
    have hp1 : 0 < 2 ^ u := Nat.two_pow_pos _
    have hpj : 2 ^ j ≤ 2 ^ 4 := Nat.pow_le_pow_right (by omega) (by omega)
    have h5 : ¬ (5 : Int32) ≤ nI j := nle_lit (x := 5) (b := 5) rfl (by omega) (by omega)
    rw [fx_X3_lockedSet_L7, if_neg h5, mm_li_e, mm_li_e, nI_1, or_bit ⟨j, hj⟩ ⟨2 ^ j - 2 ^ u, by omega⟩ (by show 2 ^ j - 2 ^ u < 2 ^ j; omega)]
    have I := ih (j + 1) g (by omega) (by omega) (by omega)
    rw [show 2 ^ (j + 1) - 2 ^ u = 2 ^ j - 2 ^ u + 2 ^ j by omega] at I
    exact I
def dN (S : Nat → Int32) (n : Nat) : Nat := (S (139 + 17 * n + 3)).toNatClampNeg
def vCartOf (S : Nat → Int32) (n j : Nat) : Int32 := if j = 0 then (if S (139 + 17 * n + 1) = -1 then -1000004 else S (139 + 17 * n + 1)) else if j = 1 then (if S (139 + 17 * n + 1) = -1 then -1000004 else S (139 + 17 * n + 2)) else if j = 2 then S (139 + 17 * n + 3) else if j = 3 then S (139 + 17 * n + 4) else if j = 4 then S (139 + 17 * n + 0) else if j = 5 then nI (32 - 2 ^ uN (dN S n)) else if j = 6 then nI (cs S n 5) else if j = 7 then S (139 + 17 * n + 5) else S (139 + 17 * n + 6)
theorem q_val {B c f r n j : Nat} {S : Nat → Int32} {σ : mm_M} (hW : WF B c f S) (hR : RS c f σ r S) (hn : n < c) (hj : j < 9) : fx_X3_value r n (nI j) σ = some (vCartOf S n j, σ) := by
  have hc4 := hW.c4
  have ec : ∀ k, k < 7 → σ r 6 n (k + 2) = S (139 + 17 * n + k) := fun k hk => hR.ct hn hk
  have e1 : σ r 6 n 3 = S (139 + 17 * n + 1) := ec 1 (by omega)
  have nn : ∀ a b : Nat, a < 9 → b < 9 → a ≠ b → ¬ nI a = nI b := fun a b ha hb h z => h ((nI_e (by omega) (by omega)).mp z)
  rw [fx_X3_value]
  rcases (show j = 0 ∨ j = 1 ∨ j = 2 ∨ j = 3 ∨ j = 4 ∨ j = 5 ∨ j = 6 ∨ j = 7 ∨ j = 8 by omega) with rfl | rfl | rfl | rfl | rfl | rfl | rfl | rfl | rfl
  · rw [if_pos (show nI 0 = (0 : Int32) from rfl), cc_isOut, mm_bd_some, e1]
    show _ = some (if S (139 + 17 * n + 1) = -1 then (-1000004 : Int32) else S (139 + 17 * n + 1), σ)
    by_cases ho : S (139 + 17 * n + 1) = -1
    · rw [if_pos ho, if_neg (show ¬ (1 : Int32) = 0 by decide), if_pos ho]
    · rw [if_neg ho, if_pos rfl, if_neg ho]
  · rw [if_neg (show ¬ nI 1 = (0 : Int32) by decide), if_pos (show nI 1 = (1 : Int32) from rfl), cc_isOut, mm_bd_some, e1]
    show _ = some (if S (139 + 17 * n + 1) = -1 then (-1000004 : Int32) else S (139 + 17 * n + 2), σ)
    by_cases ho : S (139 + 17 * n + 1) = -1
    · rw [if_pos ho, if_neg (show ¬ (1 : Int32) = 0 by decide), if_pos ho]
    · rw [if_neg ho, if_pos rfl, if_neg ho, show σ r 6 n 4 = _ from ec 2 (by omega)]
  · rw [if_neg (show ¬ nI 2 = (0 : Int32) by decide), if_neg (show ¬ nI 2 = (1 : Int32) by decide), if_pos (show nI 2 = (2 : Int32) from rfl), show σ r 6 n 5 = _ from ec 3 (by omega)]
    rfl
  · rw [if_neg (show ¬ nI 3 = (0 : Int32) by decide), if_neg (show ¬ nI 3 = (1 : Int32) by decide), if_neg (show ¬ nI 3 = (2 : Int32) by decide), if_pos (show nI 3 = (3 : Int32) from rfl), show σ r 6 n 6 = _ from ec 4 (by omega)]
    rfl
  · rw [if_neg (show ¬ nI 4 = (0 : Int32) by decide), if_neg (show ¬ nI 4 = (1 : Int32) by decide), if_neg (show ¬ nI 4 = (2 : Int32) by decide), if_neg (show ¬ nI 4 = (3 : Int32) by decide), if_pos (show nI 4 = (4 : Int32) from rfl), show σ r 6 n 2 = _ from ec 0 (by omega)]
    rfl
  · obtain ⟨d, hd, ed⟩ : isN (S (139 + 17 * n + 3)) 10 := (hW.ct hn).2.2.2.1
    have e5 : σ r 6 n 5 = nI d := (ec 3 (by omega)).trans ed
    have edn : dN S n = d := by unfold dN; rw [ed]; exact nI_cl (by omega)
    have hL := q_lockL (r := r) (n := n) (σ := σ) (uN_5 d) (5 - uN d) (uN d) mm_FU (by have := uN_5 d; omega) (Nat.le_refl _) (by unfold mm_FU; omega)
    rw [Nat.sub_self] at hL
    rw [if_neg (show ¬ nI 5 = (0 : Int32) by decide), if_neg (show ¬ nI 5 = (1 : Int32) by decide), if_neg (show ¬ nI 5 = (2 : Int32) by decide), if_neg (show ¬ nI 5 = (3 : Int32) by decide), if_neg (show ¬ nI 5 = (4 : Int32) by decide), if_pos (show nI 5 = (5 : Int32) from rfl), bd_id, fx_X3_lockedSet, cc_unlocked hd e5, mm_bd_some, show fx_X3_lockedSet_L7 r n mm_FU 0 (nI (uN d)) σ = _ from hL]
    show _ = some (nI (32 - 2 ^ uN (dN S n)), σ)
    rw [edn]
  · have s1 := (set_L (μ := σ) hW hR hn 5 0 mm_FU mm_FU (by omega) (by unfold mm_FU; omega) (by unfold mm_FU; omega)).1
    rw [if_neg (show ¬ nI 6 = (0 : Int32) by decide), if_neg (show ¬ nI 6 = (1 : Int32) by decide), if_neg (show ¬ nI 6 = (2 : Int32) by decide), if_neg (show ¬ nI 6 = (3 : Int32) by decide), if_neg (show ¬ nI 6 = (4 : Int32) by decide), if_neg (show ¬ nI 6 = (5 : Int32) by decide), if_pos (show nI 6 = (6 : Int32) from rfl), bd_id, fx_X3_cardSet, show fx_X3_cardSet_L4 r n mm_FU 0 0 _ = _ from s1]
    rfl
  · rw [if_neg (show ¬ nI 7 = (0 : Int32) by decide), if_neg (show ¬ nI 7 = (1 : Int32) by decide), if_neg (show ¬ nI 7 = (2 : Int32) by decide), if_neg (show ¬ nI 7 = (3 : Int32) by decide), if_neg (show ¬ nI 7 = (4 : Int32) by decide), if_neg (show ¬ nI 7 = (5 : Int32) by decide), if_neg (show ¬ nI 7 = (6 : Int32) by decide), if_pos (show nI 7 = (7 : Int32) from rfl), show σ r 6 n 7 = _ from ec 5 (by omega)]
    rfl
  · rw [if_neg (show ¬ nI 8 = (0 : Int32) by decide), if_neg (show ¬ nI 8 = (1 : Int32) by decide), if_neg (show ¬ nI 8 = (2 : Int32) by decide), if_neg (show ¬ nI 8 = (3 : Int32) by decide), if_neg (show ¬ nI 8 = (4 : Int32) by decide), if_neg (show ¬ nI 8 = (5 : Int32) by decide), if_neg (show ¬ nI 8 = (6 : Int32) by decide), if_neg (show ¬ nI 8 = (7 : Int32) by decide), if_pos (show nI 8 = (8 : Int32) from rfl), show σ r 6 n 8 = _ from ec 6 (by omega)]
    rfl
theorem q_cart {B n j : Nat} {S : Nat → Int32} {σ : mm_M} (hG : GS B σ 0 S) (hn : n < cN S) (hj : j < 9) : fx_X10_cartOf (nI n) (nI j) σ = some (vCartOf S n j, σ) := by
  obtain ⟨c, f, ph, hW, hR, hp, hph, hX⟩ := hG
  rw [cN_eq hW] at hn
  have hc4 := hW.c4
  have hj3 : (0 : Int32) ≤ nI j ∧ nI j ≤ 8 := ⟨nI_pos' (by omega), (nI_g (b := 8) (by omega) (by omega)).mpr (by omega)⟩
  have hn3 : (0 : Int32) ≤ nI n ∧ nI n < nI c := ⟨nI_pos' (by omega), (nI_lt2 (by omega) (by omega)).mpr hn⟩
  rw [fx_X10_cartOf, cc_hasCart 0 _ σ (hR.s0.trans hW.s0), mm_bd_some, if_pos hn3, if_neg (show ¬ (1 : Int32) = 0 by decide), cc_isWithin, mm_bd_some, if_pos hj3, if_neg (show ¬ (1 : Int32) = 0 by decide), mm_gd_t (mm_ix_n (by omega) (by omega)), nI_cl (by omega), q_val hW hR hn hj, mm_bd_some]
def vCardOf (S : Nat → Int32) (n j y : Nat) : Int32 := if S (139 + 17 * n + (8 + 2 * j)) = 0 then -1000004 else if y = 0 then S (139 + 17 * n + (7 + 2 * j)) else S (139 + 17 * n + (8 + 2 * j))
theorem q_card {B n j y : Nat} {S : Nat → Int32} {σ : mm_M} (hG : GS B σ 0 S) (hn : n < cN S) (hj : j < 5) (hy : y < 2) : fx_X10_cardOf (nI n) (nI j) (nI y) σ = some (vCardOf S n j y, σ) := by
  obtain ⟨c, f, ph, hW, hR, hp, hph, hX⟩ := hG
  rw [cN_eq hW] at hn
  have hc4 := hW.c4
  obtain ⟨rk, hrk, erk⟩ : isN (S (139 + 17 * n + (8 + 2 * j))) 1000 := ((hW.ct hn).2.2.2.2.2.2.2 j hj).1
  have hj3 : (0 : Int32) ≤ nI j ∧ nI j ≤ 4 := ⟨nI_pos' (by omega), (nI_g (b := 4) (by omega) (by omega)).mpr (by omega)⟩
  have hy3 : (0 : Int32) ≤ nI y ∧ nI y ≤ 1 := ⟨nI_pos' (by omega), (nI_g (b := 1) (by omega) (by omega)).mpr (by omega)⟩
  have hn3 : (0 : Int32) ≤ nI n ∧ nI n < nI c := ⟨nI_pos' (by omega), (nI_lt2 (by omega) (by omega)).mpr hn⟩
  rw [fx_X10_cardOf, cc_hasCart 0 _ σ (hR.s0.trans hW.s0), mm_bd_some, if_pos hn3, if_neg (show ¬ (1 : Int32) = 0 by decide), cc_isRegister, mm_bd_some, if_pos hj3, if_neg (show ¬ (1 : Int32) = 0 by decide), cc_isWithin, mm_bd_some, if_pos hy3, if_neg (show ¬ (1 : Int32) = 0 by decide), mm_gd_t (mm_ix_n (by omega) (by omega)), nI_cl (k := n) (by omega), fx_X3_hasCard, mm_gd_t (mm_ix_n (by omega) (by omega)), nI_cl (k := j) (by omega), hR.rk hn hj]
  unfold vCardOf
  by_cases hz : S (139 + 17 * n + (8 + 2 * j)) = 0
  · rw [if_pos (show S (139 + 17 * n + (8 + 2 * j)) ≤ 0 by rw [hz]; decide), mm_bd_some, if_pos rfl, if_pos hz]
  · have hz2 : ¬ S (139 + 17 * n + (8 + 2 * j)) ≤ 0 := by
      rw [erk] at hz ⊢
      have : rk ≠ 0 := fun z => hz (by rw [z]; rfl)
      exact nle_lit (a := 0) (b := rk) rfl (by omega) (by omega)
    rw [if_neg hz2, mm_bd_some, if_neg (show ¬ (1 : Int32) = 0 by decide), if_neg hz]
    rcases (show y = 0 ∨ y = 1 by omega) with rfl | rfl
    · rw [if_pos (show nI 0 = (0 : Int32) from rfl), mm_gd_t (mm_ix_n (by omega) (by omega)), hR.mv hn hj hz, if_pos rfl]
    · rw [if_neg (show ¬ nI 1 = (0 : Int32) by decide), mm_gd_t (mm_ix_n (by omega) (by omega)), hR.rk hn hj, if_neg (by decide)]
def oc (S : Nat → Int32) : Nat → Nat
  | 0 => 0
  | k + 1 => oc S k + (if S (139 + 17 * k + 1) = -1 then 1 else 0)
theorem oc_le (S : Nat → Int32) : ∀ k, oc S k ≤ k
  | 0 => Nat.le_refl _
  | k + 1 => by
    have := oc_le S k
    unfold oc
    split <;> omega
theorem q_outL {B c f r : Nat} {S : Nat → Int32} {σ : mm_M} (hW : WF B c f S) (hR : RS c f σ r S) : ∀ (e k fu : Nat), k + e = c → e < fu → fx_X8_cartsOut_L4 r fu (nI (oc S k)) (nI k) σ = some (nI (oc S c), σ) := by
  have hc4 := hW.c4
  have hc0 : σ r 0 0 2 = nI c := hR.s0.trans hW.s0
  intro e
  induction e with
  | zero =>
    intro k fu hk hf
    obtain ⟨g, rfl⟩ : ∃ g, fu = g + 1 := ⟨fu - 1, by omega⟩
    have : k = c := by omega
    subst this
    rw [fx_X8_cartsOut_L4, hc0, if_pos (le_lit rfl (Nat.le_refl _) (by omega))]
  | succ e ih =>
    intro k fu hk hf
    obtain ⟨g, rfl⟩ : ∃ g, fu = g + 1 := ⟨fu - 1, by omega⟩
    have ec : σ r 6 k 3 = S (139 + 17 * k + 1) := hR.ct (by omega) (k := 1) (by omega)
    have I := ih (k + 1) g (by omega) (by omega)
    have eo : oc S (k + 1) = oc S k + (if S (139 + 17 * k + 1) = -1 then 1 else 0) := rfl
    rw [eo] at I
    rw [fx_X8_cartsOut_L4, hc0, if_neg (nle_lit rfl (by omega) (by omega) : ¬ nI c ≤ nI k), mm_gd_t (mm_ix_n (by omega) (by omega)), nI_cl (by omega), cc_isOut, mm_bd_some, ec]
    by_cases ho : S (139 + 17 * k + 1) = -1
    · rw [if_pos ho] at I
      rw [if_pos ho, if_neg (show ¬ (1 : Int32) = 0 by decide), mm_li_e, mm_li_e, nI_1, nI_1]
      exact I
    · rw [if_neg ho] at I
      rw [if_neg ho, if_pos rfl, mm_li_e, nI_1]
      exact I
def vCount (S : Nat → Int32) (N L j : Nat) : Int32 := if j = 4 then nI (oc S (cN S)) else if j = 5 then (if S 4 = -1 then -1000004 else S 4) else if j = 6 then S 5 else if j = 7 then nI N else if j = 8 then nI L else if j = 9 then S 6 else S j
theorem q_count {k N L j : Nat} {σ : mm_M} {R : Nat → Nat → Int32} {S : Nat → Int32} {ch : Nat → Nat} (hK : KS k σ N R S L ch) (hj : j < 10) : fx_X10_count (nI j) σ = some (vCount S N L j, σ) := by
  obtain ⟨hC, ⟨c, f, ph, hW, hR, hp, hph, hX⟩, hT⟩ := hK
  have hcN := cN_eq hW
  have hc4 := hW.c4
  rw [fx_X10_count]
  unfold vCount
  rw [hcN]
  rcases (show j = 0 ∨ j = 1 ∨ j = 2 ∨ j = 3 ∨ j = 4 ∨ j = 5 ∨ j = 6 ∨ j = 7 ∨ j = 8 ∨ j = 9 by omega) with rfl | rfl | rfl | rfl | rfl | rfl | rfl | rfl | rfl | rfl
  · rw [if_pos (show nI 0 = (0 : Int32) by decide), hR.s0]; rfl
  · rw [if_neg (show ¬ nI 1 = (0 : Int32) by decide), if_pos (show nI 1 = (1 : Int32) by decide), hR.ph]; rfl
  · rw [if_neg (show ¬ nI 2 = (0 : Int32) by decide), if_neg (show ¬ nI 2 = (1 : Int32) by decide), if_pos (show nI 2 = (2 : Int32) by decide), hR.2.2.1]; rfl
  · rw [if_neg (show ¬ nI 3 = (0 : Int32) by decide), if_neg (show ¬ nI 3 = (1 : Int32) by decide), if_neg (show ¬ nI 3 = (2 : Int32) by decide), if_pos (show nI 3 = (3 : Int32) by decide), hR.fc]; rfl
  · rw [if_neg (show ¬ nI 4 = (0 : Int32) by decide), if_neg (show ¬ nI 4 = (1 : Int32) by decide), if_neg (show ¬ nI 4 = (2 : Int32) by decide), if_neg (show ¬ nI 4 = (3 : Int32) by decide), if_pos (show nI 4 = (4 : Int32) by decide), bd_id, fx_X8_cartsOut, show fx_X8_cartsOut_L4 0 mm_FU 0 0 σ = _ from q_outL hW hR c 0 mm_FU (by omega) (by unfold mm_FU; omega)]; rfl
  · rw [if_neg (show ¬ nI 5 = (0 : Int32) by decide), if_neg (show ¬ nI 5 = (1 : Int32) by decide), if_neg (show ¬ nI 5 = (2 : Int32) by decide), if_neg (show ¬ nI 5 = (3 : Int32) by decide), if_neg (show ¬ nI 5 = (4 : Int32) by decide), if_pos (show nI 5 = (5 : Int32) by decide), show σ 0 0 0 7 = S 4 from hR.2.2.2.2.2.1]
    by_cases h4 : S 4 = -1
    · rw [if_pos h4]
      show _ = some (if S 4 = -1 then (-1000004 : Int32) else S 4, σ)
      rw [if_pos h4]
    · rw [if_neg h4]
      show _ = some (if S 4 = -1 then (-1000004 : Int32) else S 4, σ)
      rw [if_neg h4]
  · rw [if_neg (show ¬ nI 6 = (0 : Int32) by decide), if_neg (show ¬ nI 6 = (1 : Int32) by decide), if_neg (show ¬ nI 6 = (2 : Int32) by decide), if_neg (show ¬ nI 6 = (3 : Int32) by decide), if_neg (show ¬ nI 6 = (4 : Int32) by decide), if_neg (show ¬ nI 6 = (5 : Int32) by decide), if_pos (show nI 6 = (6 : Int32) by decide), show σ 0 0 0 5 = S 5 from hR.2.2.2.1]; rfl
  · rw [if_neg (show ¬ nI 7 = (0 : Int32) by decide), if_neg (show ¬ nI 7 = (1 : Int32) by decide), if_neg (show ¬ nI 7 = (2 : Int32) by decide), if_neg (show ¬ nI 7 = (3 : Int32) by decide), if_neg (show ¬ nI 7 = (4 : Int32) by decide), if_neg (show ¬ nI 7 = (5 : Int32) by decide), if_neg (show ¬ nI 7 = (6 : Int32) by decide), if_pos (show nI 7 = (7 : Int32) by decide), hC.2.1]; rfl
  · rw [if_neg (show ¬ nI 8 = (0 : Int32) by decide), if_neg (show ¬ nI 8 = (1 : Int32) by decide), if_neg (show ¬ nI 8 = (2 : Int32) by decide), if_neg (show ¬ nI 8 = (3 : Int32) by decide), if_neg (show ¬ nI 8 = (4 : Int32) by decide), if_neg (show ¬ nI 8 = (5 : Int32) by decide), if_neg (show ¬ nI 8 = (6 : Int32) by decide), if_neg (show ¬ nI 8 = (7 : Int32) by decide), if_pos (show nI 8 = (8 : Int32) by decide), hT.2.1]; rfl
  · rw [if_neg (show ¬ nI 9 = (0 : Int32) by decide), if_neg (show ¬ nI 9 = (1 : Int32) by decide), if_neg (show ¬ nI 9 = (2 : Int32) by decide), if_neg (show ¬ nI 9 = (3 : Int32) by decide), if_neg (show ¬ nI 9 = (4 : Int32) by decide), if_neg (show ¬ nI 9 = (5 : Int32) by decide), if_neg (show ¬ nI 9 = (6 : Int32) by decide), if_neg (show ¬ nI 9 = (7 : Int32) by decide), if_neg (show ¬ nI 9 = (8 : Int32) by decide), if_pos (show nI 9 = (9 : Int32) by decide), show σ 0 0 0 6 = S 6 from hR.2.2.2.2.1]; rfl
