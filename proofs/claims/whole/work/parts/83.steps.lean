/-! the ways: cells that are reached -/
def edge (S : Nat → Int32) (p q : Nat) : Prop := ∃ d, d < 4 ∧ ((S (75 + p) >>> (nI d &&& 31)) &&& 1) = 0 ∧ sp_nx p d = nI q ∧ S (11 + q) ≠ 7
def tgt (S : Nat → Int32) (p d q : Nat) : Prop := ((S (75 + p) >>> (nI d &&& 31)) &&& 1) = 0 ∧ sp_nx p d = nI q ∧ S (11 + q) ≠ 7
def rch (S : Nat → Int32) (s : Nat) : Nat → Nat → Prop
  | 0, q => q = s
  | k + 1, q => ∃ p, p < 64 ∧ edge S p q ∧ rch S s k p
def dst (S : Nat → Int32) (s q k : Nat) : Prop := rch S s k q ∧ ∀ j, j < k → ¬ rch S s j q
theorem dst_u {S : Nat → Int32} {s q j k : Nat} (h : dst S s q j) (h2 : dst S s q k) : j = k := by
  rcases Nat.lt_trichotomy j k with z | z | z
  · exact absurd h.1 (h2.2 j z)
  · exact z
  · exact absurd h2.1 (h.2 k z)
theorem dst_of {S : Nat → Int32} {s q : Nat} : ∀ k, rch S s k q → ∃ j, j ≤ k ∧ dst S s q j
  | 0, h => ⟨0, Nat.le_refl _, h, fun j hj => absurd hj (Nat.not_lt_zero j)⟩
  | k + 1, h => by
    by_cases hx : ∃ i, i ≤ k ∧ rch S s i q
    · obtain ⟨i, hi, hr⟩ := hx
      have : ∀ m, m ≤ k → rch S s m q → ∃ j, j ≤ m ∧ dst S s q j := by
        intro m
        induction m using Nat.strongRecOn with
        | _ m ih =>
          intro hm hr
          by_cases hy : ∃ i, i < m ∧ rch S s i q
          · obtain ⟨i, hi, hr2⟩ := hy
            obtain ⟨j, hj, hd⟩ := ih i hi (by omega) hr2
            exact ⟨j, by omega, hd⟩
          · exact ⟨m, Nat.le_refl _, hr, fun j hj z => hy ⟨j, hj, z⟩⟩
      obtain ⟨j, hj, hd⟩ := this i hi hr
      exact ⟨j, by omega, hd⟩
    · exact ⟨k + 1, Nat.le_refl _, h, fun j hj z => hx ⟨j, by omega, z⟩⟩
/-- what one level of the model leaves -/
def sP (S : Nat → Int32) (L : Nat) (M0 M : Nat → Int32) : Prop := ∀ q, q < 64 → M q = M0 q ∨ (M0 q = -1 ∧ M q = nI (L + 1) ∧ ∃ p, p < 64 ∧ M0 p = nI L ∧ edge S p q)
def sV (M0 M : Nat → Int32) (v : Int32) : Prop := (v = 0 ∧ ∀ q, q < 64 → M q = M0 q) ∨ (v = 1 ∧ ∃ q, q < 64 ∧ M0 q = -1 ∧ M q ≠ -1)
theorem sP.lev {S : Nat → Int32} {L q : Nat} {M0 M : Nat → Int32} (h : sP S L M0 M) (hL : L < 1000) (hq : q < 64) : M q = nI L ↔ M0 q = nI L := by
  rcases h q hq with e | ⟨e1, e2, _⟩
  · rw [e]
  · rw [e1, e2]
    constructor
    · intro z
      have := (nI_e (by omega) (by omega)).mp z
      omega
    · intro z
      exact absurd z (m1_nI (by omega))
/-- one step of the spreading, from cell p in direction d -/
theorem spr_1 {B c f L p d : Nat} {S M0 M : Nat → Int32} {k4 : Int32 → Int32 → mm_M → mm_R} {k13 : Int32 → Int32 → Int32 → mm_M → mm_R} {v2 : Int32} {μ : mm_M} (hW : WF B c f S) (hL : L < 1000) (hp : p < 64) (hd : d < 4) (hM : M0 p = nI L) (e40 : ∀ q, μ 10 40 0 q = M q) (hP : sP S L M0 M) (hV : sV M0 M v2) (hn : ∀ q, q < 64 → M q = -1 ∨ ∃ j, j < 2000 ∧ M q = nI j) : ∃ μ1 M1 v, (mm_bd (fx_X11_isWall (nI p) (nI d) (mw μ S)) fun r_8 s_8 => (if r_8 = (0 : Int32) then mm_bd (fx_X11_next (nI p) (nI d) s_8) fun r_10 s_10 => (fx_X11_spreads_J49 (nI L) k4 k13 v2 (nI p) (nI d) r_10 s_10) else fx_X11_spreads_J49 (nI L) k4 k13 v2 (nI p) (nI d) (-1 : Int32) s_8)) = k13 v (nI p) (nI (d + 1)) (mw μ1 S) ∧ (∀ q, μ1 10 40 0 q = M1 q) ∧ sP S L M0 M1 ∧ sV M0 M1 v ∧ (∀ q, q < 64 → M1 q = -1 ∨ ∃ j, j < 2000 ∧ M1 q = nI j) ∧ (∀ q, q < 64 → M q ≠ -1 → M1 q ≠ -1) ∧ (∀ q, q < 64 → tgt S p d q → M1 q ≠ -1) ∧ ∀ q t n i, ¬ (q = 10 ∧ t = 40) → μ1 q t n i = μ q t n i := by
  have skip : (∀ q, q < 64 → tgt S p d q → M q ≠ -1) → ∃ μ1 M1 v, k13 v2 (nI p) (nI (d + 1)) (mw μ S) = k13 v (nI p) (nI (d + 1)) (mw μ1 S) ∧ (∀ q, μ1 10 40 0 q = M1 q) ∧ sP S L M0 M1 ∧ sV M0 M1 v ∧ (∀ q, q < 64 → M1 q = -1 ∨ ∃ j, j < 2000 ∧ M1 q = nI j) ∧ (∀ q, q < 64 → M q ≠ -1 → M1 q ≠ -1) ∧ (∀ q, q < 64 → tgt S p d q → M1 q ≠ -1) ∧ ∀ q t n i, ¬ (q = 10 ∧ t = 40) → μ1 q t n i = μ q t n i :=
    fun h => ⟨μ, M, v2, rfl, e40, hP, hV, hn, fun _ _ z => z, h, fun _ _ _ _ _ => rfl⟩
  rw [mo_isWall μ S rfl hp, mm_bd_some]
  by_cases hw : ((S (75 + p) >>> (nI d &&& 31)) &&& 1) = 0
  · rw [if_neg (fun z => (and1n _).mp z hw), if_pos rfl, md_next _ rfl rfl hp hd, mm_bd_some]
    rcases sp_nx_in (d := d) hp with hN | ⟨q, hq, hN⟩
    · rw [hN, fx_X11_spreads_J49, if_pos m1_lt0, mm_li_e, nI_1]
      exact skip (fun q hq z => absurd (hN.symm.trans z.2.1) (m1_nI (by omega)))
    · have uq : ∀ q2, q2 < 64 → sp_nx p d = nI q2 → q2 = q := fun q2 h2 z => (nI_e (by omega) (by omega)).mp (z.symm.trans hN)
      have e11 : (11 : Int32) + nI q = nI (11 + q) := by show nI 11 + nI q = _; rw [nI_add]
      rw [hN, fx_X11_spreads_J49, if_neg (nI_pos (by omega)), e11, mm_gd_t (mm_ix_n (by omega) (by omega)), nI_cl (by omega), mw_row]
      by_cases h7 : S (11 + q) = 7
      · rw [if_pos h7, mm_li_e, nI_1]
        refine skip (fun q2 h2 z => ?_)
        have w := z.2.2
        rw [uq q2 h2 z.2.1] at w
        exact absurd h7 w
      · rw [if_neg h7, mm_gd_t (mm_ix_n (by omega) (by omega)), nI_cl (by omega), mw_oth μ S (by omega), e40]
        rcases hn q hq with hm | ⟨j, hj, hm⟩
        · rw [hm, if_neg (show ¬ (0 : Int32) ≤ -1 by decide), mm_gd_t (mm_ix_n (by omega) (by omega)), mm_lt_e, mm_li_e, nI_1, nI_1, mw_s μ S _ (by omega)]
          have hm0 : M0 q = -1 := by
            rcases hP q hq with z | ⟨z, _⟩
            · rw [← z]; exact hm
            · exact z
          refine ⟨mm_u μ 10 40 0 q (nI (L + 1)), upd M q (nI (L + 1)), 1, rfl, fun x => ?_, fun x hx => ?_, Or.inr ⟨rfl, q, hq, hm0, by rw [pk_us]; exact nI_m1 (by omega)⟩, fun x hx => ?_, fun x hx z => ?_, fun x hx z => ?_, fun a t n i hh => by rw [mm_u_ap, if_neg (by omega)]⟩
          · rw [mm_u_row]
            by_cases hxq : x = q
            · rw [hxq, pk_us, pk_us]
            · rw [pk_un hxq, pk_un hxq]; exact e40 x
          · by_cases hxq : x = q
            · subst hxq
              rw [pk_us]
              exact Or.inr ⟨hm0, rfl, p, hp, hM, d, hd, hw, hN, h7⟩
            · rw [pk_un hxq]; exact hP x hx
          · by_cases hxq : x = q
            · rw [hxq, pk_us]; exact Or.inr ⟨L + 1, by omega, rfl⟩
            · rw [pk_un hxq]; exact hn x hx
          · by_cases hxq : x = q
            · rw [hxq, pk_us]; exact nI_m1 (by omega)
            · rw [pk_un hxq]; exact z
          · rw [uq x hx z.2.1, pk_us]; exact nI_m1 (by omega)
        · rw [hm, if_pos (nI_pos' (by omega)), mm_li_e, nI_1]
          refine skip (fun q2 h2 z => ?_)
          rw [uq q2 h2 z.2.1, hm]
          exact nI_m1 (by omega)
  · rw [if_pos ((and1n _).mpr hw), if_neg (show ¬ (1 : Int32) = 0 by decide), fx_X11_spreads_J49, if_pos m1_lt0, mm_li_e, nI_1]
    exact skip (fun q hq z => absurd z.1 hw)
