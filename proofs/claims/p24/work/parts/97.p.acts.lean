/-! every act answers what it must -/
def OUT (k N : Nat) (R : Nat → Nat → Int32) (S : Nat → Int32) (σ1 : mm_M) : Prop := (∃ L1 ch1, KS (k + 1) σ1 N R S L1 ch1) ∨ ∃ S1 L1 ch1, KS (k + 1) σ1 (pN N) (pR N R S) S1 L1 ch1
theorem nI_neg {a : Nat} (ha : a < 1000000) {m : Int32} (hm : m < 0) : ¬ nI a = m := fun z => nI_pos (n := a) (by omega) (z ▸ hm)
section PP
variable {k N L : Nat} {σ : mm_M} {R : Nat → Nat → Int32} {S : Nat → Int32} {ch : Nat → Nat}
theorem AC.out {V : Int32 → Prop} {P : Nat → (Nat → Int32) → Prop} {x : mm_R} (h : AC k N R S L ch V P x) : ∃ v σ1, x = some (v, σ1) ∧ V v ∧ OUT k N R S σ1 := by
  obtain ⟨v, σ1, e, hv, hh⟩ := h
  refine ⟨v, σ1, e, hv, ?_⟩
  rcases hh with ⟨t, S1, _, _, hK, _⟩ | ⟨_, hK⟩
  · exact Or.inr ⟨S1, L, ch, hK⟩
  · exact Or.inl ⟨L, ch, hK⟩
theorem KS.out (h : KS k σ N R S L ch) : OUT k N R S σ := Or.inl ⟨L, ch, h.up⟩
theorem v_on (hK : KS k σ N R S L ch) {q : Nat} (hq : q < 64) : ∃ v, fx_X10_cellOf (nI q) (2 : Int32) σ = some (v, σ) ∧ ((v = -1000004) ↔ sp_on S q (cN S) = -1) := by
  obtain ⟨c, f, ph, hW, _⟩ := id hK.2.1
  refine ⟨_, q_cell (j := 2) hK.2.1 hq (by omega), ?_⟩
  show (if sp_on S q (cN S) = -1 then (-1000004 : Int32) else sp_on S q (cN S)) = -1000004 ↔ _
  rcases sp_on_spec S q (cN S) (by rw [cN_eq hW]; exact hW.c4) with ⟨x, _⟩ | ⟨m, hm, x, _⟩
  · rw [x, if_pos rfl]
    exact ⟨fun _ => rfl, fun _ => rfl⟩
  · have hm4 : m < 4 := by have := hW.c4; rw [cN_eq hW] at hm; omega
    rw [x, if_neg (nI_m1 (by omega))]
    exact ⟨fun z => absurd z (nI_neg (by omega) (by decide)), fun z => absurd z (nI_m1 (by omega))⟩
/-- a cart comes -/
theorem p_cart {x y : Int32} (hK : KS k σ N R S L ch) {q pl w : Nat} (hq : q < 66) (hpl : pl = if q ≤ 63 then q else 0) (hw : w < 5) : ∃ σ1, (∀ u : Nat, u = (if q ≤ 63 ∧ w ≠ 4 then 0 else 1) → fx_L_acts_J92 x y (nI (cN S)) (nI q) (nI pl) (nI w) (nI u) σ = some (1, σ1)) ∧ OUT k N R S σ1 := by
  obtain ⟨c, f, ph, hW, hR, hp, hph, hX⟩ := id hK.2.1
  have hcN := cN_eq hW
  have hc4 := hW.c4
  have hpl64 : pl < 64 := by rw [hpl]; split <;> omega
  obtain ⟨v, σ1, e, hv, ho⟩ := (A_cart hK (nI q) (nI w)).out
  refine ⟨σ1, fun u hu => ?_, ho⟩
  obtain ⟨r, e2, hr⟩ := v_on hK hpl64
  have e0 : fx_X10_cellOf (nI pl) (0 : Int32) σ = some (S (11 + pl), σ) := q_cell (j := 0) hK.2.1 hpl64 (by omega)
  have J : ∀ tk : Nat, tk = (if sp_on S pl (cN S) ≠ -1 ∨ S (11 + pl) = 7 then 1 else 0) → fx_L_acts_J123 x y (nI (cN S)) (nI q) (nI w) (nI u) (nI tk) σ = some (1, σ1) := by
    intro tk htk
    have fin : ∀ z : Int32, z = v → fx_L_acts_J166 x y v z σ1 = some (1, σ1) := fun z hz => by rw [fx_L_acts_J166, if_pos hz.symm]
    rw [fx_L_acts_J123, e, mm_bd_some]
    by_cases hb : q ≤ 63 ∧ w ≠ 4
    · have ein : ((0 : Int32) ≤ nI q ∧ nI q ≤ 63) ∧ (0 : Int32) ≤ nI w ∧ nI w ≤ 3 := ⟨cell64 hb.1, nI_pos' (by omega), (nI_g (b := 3) (by omega) (by omega)).mpr (by omega)⟩
      have hqq : (nI q).toNatClampNeg = q := nI_cl (by omega)
      rw [if_pos hb.1] at hpl
      subst hpl
      have hval : v = if sp_on S pl (cN S) ≠ -1 ∨ S (11 + pl) = 7 then -1000002 else if S 0 = 4 then -1000003 else S 0 := by
        rw [hv]
        unfold vCart
        rw [if_pos ein, hqq]
      rw [hu, if_pos hb, if_pos (show nI 0 = (0 : Int32) from rfl)]
      by_cases ht : sp_on S pl (cN S) ≠ -1 ∨ S (11 + pl) = 7
      · rw [if_pos ht] at htk hval
        rw [htk, if_neg (show ¬ nI 1 = (0 : Int32) by decide)]
        exact fin _ hval.symm
      · rw [if_neg ht] at htk hval
        rw [htk, if_pos (show nI 0 = (0 : Int32) from rfl)]
        rw [hW.s0, ← hcN] at hval
        by_cases h4 : nI (cN S) = 4
        · rw [if_pos h4] at hval
          rw [if_pos h4]
          exact fin _ hval.symm
        · rw [if_neg h4] at hval
          rw [if_neg h4]
          exact fin _ hval.symm
    · rw [hu, if_neg hb, if_neg (show ¬ nI 1 = (0 : Int32) by decide)]
      refine fin _ ?_
      rw [hv]
      unfold vCart
      rw [if_neg]
      rintro ⟨⟨_, z1⟩, _, z2⟩
      have a := (nI_g (a := q) (b := 63) (by omega) (by omega)).mp z1
      have b := (nI_g (a := w) (b := 3) (by omega) (by omega)).mp z2
      exact hb ⟨a, by omega⟩
  rw [fx_L_acts_J92, e2, mm_bd_some]
  by_cases hs : sp_on S pl (cN S) = -1
  · rw [if_pos (hr.mpr hs), e0, mm_bd_some]
    by_cases h7 : S (11 + pl) = 7
    · rw [if_pos h7]
      exact J 1 (by rw [if_pos (Or.inr h7)])
    · rw [if_neg h7]
      exact J 0 (by rw [if_neg (fun z => z.elim (fun w => w hs) h7)])
  · rw [if_neg (fun z => hs (hr.mp z))]
    exact J 1 (by rw [if_pos (Or.inl hs)])
/-- a cell's kind -/
theorem p_kind {x y : Int32} (hK : KS k σ N R S L ch) {q pl w o : Nat} (hq : q < 66) (hpl : pl = if q ≤ 63 then q else 0) (hw : w < 10) (ho : o = if q ≤ 63 then 0 else 1) : ∃ σ1, (∀ u : Nat, u = (if sp_on S pl (cN S) = -1 then 0 else 1) → fx_L_acts_J218 x y (nI q) (nI o) (nI w) (S (11 + pl)) (nI u) σ = some (1, σ1)) ∧ OUT k N R S σ1 := by
  obtain ⟨v, σ1, e, hv, hout⟩ := (A_kind hK (nI q) (nI w)).out
  refine ⟨σ1, fun u hu => ?_, hout⟩
  have fin : ∀ z : Int32, z = v → fx_L_acts_J264 x y v z σ1 = some (1, σ1) := fun z hz => by rw [fx_L_acts_J264, if_pos hz.symm]
  rw [fx_L_acts_J218, e, mm_bd_some]
  by_cases hb : q ≤ 63
  · rw [if_pos hb] at hpl ho
    subst hpl
    have hqq : (nI pl).toNatClampNeg = pl := nI_cl (by omega)
    rw [ho, if_pos (show nI 0 = (0 : Int32) from rfl)]
    by_cases h9 : w = 9
    · rw [if_pos (show nI w = 9 by rw [h9]; rfl)]
      refine fin _ ?_
      rw [hv]
      unfold vKind
      rw [if_neg]
      rintro ⟨_, _, z⟩
      have := (nI_g (a := w) (b := 8) (by omega) (by omega)).mp z
      omega
    · have ein : ((0 : Int32) ≤ nI pl ∧ nI pl ≤ 63) ∧ (0 : Int32) ≤ nI w ∧ nI w ≤ 8 := ⟨cell64 hb, nI_pos' (by omega), (nI_g (b := 8) (by omega) (by omega)).mpr (by omega)⟩
      have hval : v = if nI w = 7 ∧ sp_on S pl (cN S) ≠ -1 then -1000002 else S (11 + pl) := by
        rw [hv]
        unfold vKind
        rw [if_pos ein, hqq]
      rw [if_neg (show ¬ nI w = (9 : Int32) from ne_lit (b := 9) rfl h9 (by omega) (by omega))]
      by_cases h7 : nI w = 7
      · rw [if_pos h7]
        by_cases hs : sp_on S pl (cN S) = -1
        · rw [if_pos hs] at hu
          rw [if_neg (fun z => z.2 hs)] at hval
          rw [hu, if_pos (show nI 0 = (0 : Int32) from rfl), fx_L_acts_J262]
          exact fin _ hval.symm
        · rw [if_neg hs] at hu
          rw [if_pos ⟨h7, hs⟩] at hval
          rw [hu, if_neg (show ¬ nI 1 = (0 : Int32) by decide)]
          exact fin _ hval.symm
      · rw [if_neg (fun z => h7 z.1)] at hval
        rw [if_neg h7, fx_L_acts_J262]
        exact fin _ hval.symm
  · rw [if_neg hb] at ho
    rw [ho, if_neg (show ¬ nI 1 = (0 : Int32) by decide)]
    refine fin _ ?_
    rw [hv]
    unfold vKind
    rw [if_neg]
    rintro ⟨⟨_, z⟩, _⟩
    exact hb ((nI_g (a := q) (b := 63) (by omega) (by omega)).mp z)
/-- a card -/
theorem p_card {x y : Int32} (hK : KS k σ N R S L ch) {kk i m rk : Nat} (hkk : kk ≤ cN S) (hi : i < 6) (hm : m < 8) (hrk : rk < 30) : ∃ σ1, (∀ u : Nat, u = (if kk = cN S ∨ i = 5 ∨ m = 7 ∨ rk = 0 then 1 else 0) → fx_L_acts_J489 x y (nI kk) (nI i) (nI m) (nI rk) (nI u) σ = some (1, σ1)) ∧ OUT k N R S σ1 := by
  obtain ⟨c, f, ph, hW, hR, hp, hph, hX⟩ := id hK.2.1
  have hcN := cN_eq hW
  have hc4 := hW.c4
  have hA := A_card hK (nI kk) (nI i) (nI m) (nI rk)
  obtain ⟨v, σ1, e, hv, hout⟩ := hA.out
  refine ⟨σ1, fun u hu => ?_, hout⟩
  have hkkc : (nI kk).toNatClampNeg = kk := nI_cl (by omega)
  have hic : (nI i).toNatClampNeg = i := nI_cl (by omega)
  rw [fx_L_acts_J489]
  by_cases hb : kk = cN S ∨ i = 5 ∨ m = 7 ∨ rk = 0
  · have hbad : badCard S (nI kk) (nI i) (nI m) (nI rk) := by
      rintro ⟨⟨_, z1⟩, ⟨_, z2⟩, ⟨_, z3⟩, z4, _⟩
      rw [hW.s0] at z1
      have a := (nI_lt2 (a := kk) (b := c) (by omega) (by omega)).mp z1
      have b := (nI_g (a := i) (b := 4) (by omega) (by omega)).mp z2
      have d := (nI_g (a := m) (b := 6) (by omega) (by omega)).mp z3
      have e := (nI_g (a := 1) (b := rk) (by omega) (by omega)).mp z4
      omega
    have hval : v = -1000001 := hv.elim (fun z => z.2) (fun z => absurd hbad z.1)
    rw [if_pos hb] at hu
    rw [hu, if_neg (show ¬ nI 1 = (0 : Int32) by decide), fx_L_acts_J538, fx_L_acts_J539, e, mm_bd_some, if_neg (show ¬ nI 1 = (0 : Int32) by decide), if_pos hval]
  · have hkc : kk < c := by omega
    have nb : ¬ badCard S (nI kk) (nI i) (nI m) (nI rk) := fun z => z ⟨⟨nI_pos' (by omega), by rw [hW.s0]; exact (nI_lt2 (by omega) (by omega)).mpr hkc⟩, ⟨nI_pos' (by omega), (nI_g (b := 4) (by omega) (by omega)).mpr (by omega)⟩, ⟨nI_pos' (by omega), (nI_g (b := 6) (by omega) (by omega)).mpr (by omega)⟩, (nI_g (a := 1) (by omega) (by omega)).mpr (by omega), (nI_g (b := 999) (by omega) (by omega)).mpr (by omega)⟩
    have hv2 := (hv.resolve_left (fun z => nb z.1)).2
    rw [hkkc, hic] at hv2
    have J : ∀ s : Nat, (s = 1 ∧ shutCard S kk i) ∨ (s = 0 ∧ ¬ shutCard S kk i) → fx_L_acts_J539 x y (nI kk) (nI i) (nI m) (nI rk) (nI u) (nI s) σ = some (1, σ1) := by
      intro s hs
      rw [if_neg hb] at hu
      rw [fx_L_acts_J539, e, mm_bd_some, hu, if_pos (show nI 0 = (0 : Int32) from rfl)]
      rcases hs with ⟨rfl, hs⟩ | ⟨rfl, hs⟩
      · have hval : v = -1000002 := hv2.elim (fun z => z.2) (fun z => absurd hs z.1)
        rw [if_neg (show ¬ nI 1 = (0 : Int32) by decide), if_pos hval]
      · have hval := (hv2.resolve_left (fun z => hs z.1)).2
        rw [if_pos (show nI 0 = (0 : Int32) from rfl), if_neg (Int32.not_le.mpr hval.1), if_neg (Int32.not_le.mpr hval.2)]
        -- the card lies there now
        obtain ⟨v2, σ2, e2, _, hh⟩ := hA
        rw [e] at e2
        have e3 := Option.some.inj e2
        have ev : v = v2 := congrArg Prod.fst e3
        have es : σ1 = σ2 := congrArg Prod.snd e3
        subst ev; subst es
        rcases hh with ⟨t, S1, ht, _, hK1, hP⟩ | ⟨he, _⟩
        · obtain ⟨p0, p1, p2⟩ := hP
          rw [hkkc, hic] at p1 p2
          have hz : ¬ S1 (139 + 17 * kk + (8 + 2 * i)) = 0 := by rw [p2]; exact ne_lit (b := 0) rfl (by omega) (by omega) (by omega)
          have hk1 : kk < cN S1 := by
            have : cN S1 = cN S := by unfold cN; rw [p0]
            omega
          have q0 := q_card (n := kk) (j := i) (y := 0) hK1.2.1 hk1 (by omega) (by omega)
          have q1 := q_card (n := kk) (j := i) (y := 1) hK1.2.1 hk1 (by omega) (by omega)
          have v0 : vCardOf S1 kk i 0 = nI m := by unfold vCardOf; rw [if_neg hz, if_pos rfl, p1]
          have v1 : vCardOf S1 kk i 1 = nI rk := by unfold vCardOf; rw [if_neg hz, if_neg (by decide), p2]
          rw [show fx_X10_cardOf (nI kk) (nI i) (0 : Int32) σ1 = _ from q0, mm_bd_some, v0, if_pos rfl, show fx_X10_cardOf (nI kk) (nI i) (1 : Int32) σ1 = _ from q1, mm_bd_some, v1, if_pos rfl]
        · exfalso
          rcases he with z | z | z <;> (rw [z] at hval; exact absurd hval.1 (by decide))
    have J538 : ¬ shutCard S kk i → fx_L_acts_J538 x y (nI kk) (nI i) (nI m) (nI rk) (nI u) σ = some (1, σ1) := fun h => by
      rw [fx_L_acts_J538]
      exact J 0 (Or.inr ⟨rfl, h⟩)
    have hu0 : u = 0 := by rw [hu, if_neg hb]
    have q0 := q_cart (n := kk) (j := 0) hK.2.1 (by omega) (by omega)
    have q5 := q_cart (n := kk) (j := 5) hK.2.1 (by omega) (by omega)
    have c1 : fx_X10_count (1 : Int32) σ = some (S 1, σ) := q_count (j := 1) hK (by omega)
    obtain ⟨d, hd, ed⟩ : isN (S (139 + 17 * kk + 3)) 10 := (hW.ct hkc).2.2.2.1
    have edn : dN S kk = d := by unfold dN; rw [ed]; exact nI_cl (by omega)
    have hdc : (S (139 + 17 * kk + 3)).toNatClampNeg = d := edn
    have hu5 := uN_5 d
    have h2u : 0 < 2 ^ uN d := Nat.two_pow_pos _
    have hi5 : i < 5 := by omega
    have hlb : (nI (32 - 2 ^ uN d) >>> (nI i &&& 31)) &&& 1 = nI (if uN d ≤ i then 1 else 0) := by
      refine (bit_at ⟨32 - 2 ^ uN d, by omega⟩ ⟨i, hi5⟩).trans (congrArg nI ?_)
      show (32 - 2 ^ uN d) / 2 ^ i % 2 = _
      have hu' : uN d = 0 ∨ uN d = 1 ∨ uN d = 2 ∨ uN d = 3 ∨ uN d = 4 ∨ uN d = 5 := by omega
      rcases hu' with u | u | u | u | u | u <;> rw [u] <;> (rcases (show i = 0 ∨ i = 1 ∨ i = 2 ∨ i = 3 ∨ i = 4 by omega) with rfl | rfl | rfl | rfl | rfl <;> rfl)
    have hu2 := hu0
    rw [if_pos (show nI u = (0 : Int32) by rw [hu0]; rfl), show fx_X10_cartOf (nI kk) (0 : Int32) σ = _ from q0, mm_bd_some, show vCartOf S kk 0 = (if S (139 + 17 * kk + 1) = -1 then -1000004 else S (139 + 17 * kk + 1)) from rfl]
    by_cases ho : S (139 + 17 * kk + 1) = -1
    · rw [if_pos ho, if_pos rfl]
      exact J 1 (Or.inl ⟨rfl, Or.inl ho⟩)
    · obtain ⟨q, hq, eq⟩ := (hW.ct hkc).cell.resolve_left ho
      rw [if_neg ho, eq, if_neg (nI_neg (by omega) (by decide)), show fx_X10_cartOf (nI kk) (5 : Int32) σ = _ from q5, mm_bd_some, show vCartOf S kk 5 = nI (32 - 2 ^ uN (dN S kk)) from rfl, edn, hlb]
      by_cases hl : uN d ≤ i
      · rw [if_pos hl, if_pos (show nI 1 = (1 : Int32) from rfl)]
        exact J 1 (Or.inl ⟨rfl, Or.inr (Or.inl (by rw [hdc]; exact hl))⟩)
      · rw [if_neg hl, if_neg (show ¬ nI 0 = (1 : Int32) by decide), c1, mm_bd_some]
        by_cases hpi : S 1 ≤ nI i
        · rw [if_pos hpi]
          refine J538 ?_
          rintro (z | z | z)
          · exact ho z
          · rw [hdc] at z; exact hl z
          · exact absurd hpi (Int32.not_le.mpr z)
        · rw [if_neg hpi]
          exact J 1 (Or.inl ⟨rfl, Or.inr (Or.inr (i32_nle hpi))⟩)
/-- damage -/
theorem p_damage {x y b : Int32} (hK : KS k σ N R S L ch) {kk : Nat} (hkk : kk ≤ cN S) : ∃ σ1, (∀ u : Nat, u = (if kk = cN S ∨ ¬ (-9 ≤ b ∧ b ≤ 9) then 1 else 0) → fx_L_acts_J684 x y (nI kk) b (nI u) σ = some (1, σ1)) ∧ OUT k N R S σ1 := by
  obtain ⟨c, f, ph, hW, hR, hp, hph, hX⟩ := id hK.2.1
  have hcN := cN_eq hW
  have hc4 := hW.c4
  have hA := A_damage hK (nI kk) b
  obtain ⟨v, σ1, e, hv, hout⟩ := hA.out
  refine ⟨σ1, fun u hu => ?_, hout⟩
  have hkkc : (nI kk).toNatClampNeg = kk := nI_cl (by omega)
  rw [fx_L_acts_J684]
  by_cases hb : kk = cN S ∨ ¬ (-9 ≤ b ∧ b ≤ 9)
  · have hbad : badHarm S (nI kk) b := by
      rintro ⟨⟨_, z1⟩, z2⟩
      rw [hW.s0] at z1
      have a := (nI_lt2 (a := kk) (b := c) (by omega) (by omega)).mp z1
      rcases hb with h | h
      · omega
      · exact h z2
    have hval : v = -1000001 := hv.elim (fun z => z.2) (fun z => absurd hbad z.1)
    rw [if_pos hb] at hu
    rw [hu, if_neg (show ¬ nI 1 = (0 : Int32) by decide), fx_L_acts_J707, fx_L_acts_J708, e, mm_bd_some, if_neg (show ¬ nI 1 = (0 : Int32) by decide), if_pos hval]
  · have hkc : kk < c := by
      rcases Nat.lt_or_ge kk c with z | z
      · exact z
      · exact absurd (Or.inl (by omega)) hb
    have hin : -9 ≤ b ∧ b ≤ 9 := by
      by_cases z : -9 ≤ b ∧ b ≤ 9
      · exact z
      · exact absurd (Or.inr z) hb
    have nb : ¬ badHarm S (nI kk) b := fun z => z ⟨⟨nI_pos' (by omega), by rw [hW.s0]; exact (nI_lt2 (by omega) (by omega)).mpr hkc⟩, hin⟩
    have hv2 := (hv.resolve_left (fun z => nb z.1)).2
    rw [hkkc] at hv2
    rw [if_neg hb] at hu
    have q0 := q_cart (n := kk) (j := 0) hK.2.1 (by omega) (by omega)
    rw [hu, if_pos (show nI 0 = (0 : Int32) from rfl), show fx_X10_cartOf (nI kk) (0 : Int32) σ = _ from q0, mm_bd_some, show vCartOf S kk 0 = (if S (139 + 17 * kk + 1) = -1 then -1000004 else S (139 + 17 * kk + 1)) from rfl]
    by_cases ho : S (139 + 17 * kk + 1) = -1
    · have hval : v = -1000002 := hv2.elim (fun z => z.2) (fun z => absurd ho z.1)
      rw [if_pos ho, if_pos rfl, fx_L_acts_J708, e, mm_bd_some, if_pos (show nI 0 = (0 : Int32) from rfl), if_neg (show ¬ (1 : Int32) = 0 by decide), if_pos hval]
    · obtain ⟨q, hq, eq⟩ := (hW.ct hkc).cell.resolve_left ho
      obtain ⟨w, hw, ew⟩ := (hv2.resolve_left (fun z => ho z.1)).2
      rw [if_neg ho, eq, if_neg (nI_neg (by omega) (by decide)), fx_L_acts_J707, fx_L_acts_J708, e, mm_bd_some, if_pos (show nI 0 = (0 : Int32) from rfl), if_pos rfl]
      obtain ⟨v2, σ2, e2, _, hh⟩ := hA
      rw [e] at e2
      have e3 := Option.some.inj e2
      have ev : v = v2 := congrArg Prod.fst e3
      have es : σ1 = σ2 := congrArg Prod.snd e3
      subst ev; subst es
      rcases hh with ⟨t, S1, ht, et, hK1, hP⟩ | ⟨he, _⟩
      · rw [hkkc] at hP
        have hk1 : kk < cN S1 := by
          have : cN S1 = cN S := by unfold cN; rw [hP, pk_un (by omega)]
          omega
        have q2 := q_cart (n := kk) (j := 2) hK1.2.1 hk1 (by omega)
        have v2 : vCartOf S1 kk 2 = v := by
          show S1 (139 + 17 * kk + 3) = v
          rw [hP, pk_us, et]
        rw [show fx_X10_cartOf (nI kk) (2 : Int32) σ1 = _ from q2, mm_bd_some, v2, if_pos rfl, ew, if_neg (nI_pos (by omega)), if_neg (show ¬ (10 : Int32) ≤ nI w from nle_lit (x := 10) (b := 10) rfl hw (by omega))]
      · exfalso
        rw [ew] at he
        rcases he with z | z | z <;> exact nI_neg (by omega) (by decide) z
/-- a phase, a round -/
theorem p_run {x y told : Int32} {h : Nat} {σ1 : mm_M} {d : Int32} (hh : h < 20) (hd : d = if h = 16 then 5 - S 1 else 1) (hK : KS k σ N R S L ch) (hA : AC k N R S L ch (vRun S) (fun _ S1 => S1 5 = S 5 + d) (some (told, σ1))) : fx_L_acts_J828 x y (nI h) (nI (cN S)) (S 1) (S 5) told σ1 = some (1, σ1) ∧ OUT k N R S σ1 := by
  obtain ⟨c, f, ph, hW, hR, hp, hph, hX⟩ := id hK.2.1
  have hcN := cN_eq hW
  have hc4 := hW.c4
  obtain ⟨v, σ2, e, hv, hcase⟩ := hA
  have e3 := Option.some.inj e
  have ev : told = v := congrArg Prod.fst e3
  have es : σ1 = σ2 := congrArg Prod.snd e3
  subst ev; subst es
  rw [fx_L_acts_J828]
  unfold vRun at hv
  by_cases h0 : cN S = 0
  · have hs : S 0 = 0 := by rw [hW.s0, ← hcN, h0]; rfl
    rw [if_pos hs] at hv
    rw [if_pos (show nI (cN S) = 0 by rw [h0]; rfl), if_pos hv]
    refine ⟨rfl, ?_⟩
    rcases hcase with ⟨t, S1, _, _, hK1, _⟩ | ⟨_, hK1⟩
    · exact Or.inr ⟨S1, L, ch, hK1⟩
    · exact Or.inl ⟨L, ch, hK1⟩
  · have hne : ¬ nI (cN S) = (0 : Int32) := ne_lit (b := 0) rfl h0 (by omega) (by omega)
    have hs : ¬ S 0 = 0 := by rw [hW.s0, ← hcN]; exact hne
    rw [if_neg hs] at hv
    rw [if_neg hne, if_neg (Int32.not_lt.mpr hv)]
    rcases hcase with ⟨t, S1, _, _, hK1, hP⟩ | ⟨he, _⟩
    · refine ⟨?_, Or.inr ⟨S1, L, ch, hK1⟩⟩
      rw [show fx_X10_count (6 : Int32) σ1 = _ from q_count (j := 6) hK1 (by omega), mm_bd_some, show vCount S1 (pN N) L 6 = S1 5 from rfl, hP, hd]
      by_cases h16 : h = 16
      · rw [if_pos h16, if_pos (show nI h = 16 by rw [h16]; rfl), fx_L_acts_J877, if_pos rfl]
      · rw [if_neg h16, if_neg (show ¬ nI h = (16 : Int32) from ne_lit (b := 16) rfl h16 (by omega) (by omega)), fx_L_acts_J877, if_pos rfl]
    · exfalso
      rcases he with z | z | z <;> (rw [z] at hv; exact absurd hv (by decide))
/-- would, best, steps -/
theorem p_ask {x y : Int32} (hk : k < 512) (hK : KS k σ N R S L ch) {pl X to : Nat} (hpl : pl < 64) (hX : X < 4) (hto : (cN S = 0 ∧ to = 0) ∨ to < cN S) : ∃ σ1, fx_L_acts_J917 x y (nI (cN S)) (nI pl) (nI X) (nI to) σ = some (1, σ1) ∧ OUT k N R S σ1 := by
  obtain ⟨c, f, ph, hW, hR, hp, hph, hXS⟩ := id hK.2.1
  have hcN := cN_eq hW
  have hc4 := hW.c4
  have hB : JB k < 90000 := by unfold JB; omega
  obtain ⟨r, hr, er⟩ := p_low (y >>> ((4 : Int32) &&& 31)) (show 0 < 50 by omega) (by omega) σ
  have e1r : (1 : Int32) + nI r = nI (1 + r) := by show nI 1 + nI r = _; rw [nI_add]
  obtain ⟨v, σ1, e1, c1, hv⟩ := q_best (n := to) hB hK.2.1 (show 1 + r < 1000 by omega) (show 1 + r ≠ 0 by omega) (by omega)
  have K1 := hK.cf c1
  have st : ∀ (σ2 : mm_M), KS k σ2 N R S L ch → ∀ w : Int32, ((0 ≤ w ∧ ¬ 7 ≤ w) ∨ (¬ 0 ≤ w ∧ ¬ w < -1000004)) → ∃ σ3, fx_L_acts_J984 x y (nI pl) w σ2 = some (1, σ3) ∧ OUT k N R S σ3 := by
    intro σ2 K2 w hw
    obtain ⟨σ3, e3, c3⟩ := q_steps (σ := σ2) hpl
    have J : fx_L_acts_J1006 x y (nI pl) σ2 = some (1, σ3) := by rw [fx_L_acts_J1006, e3, mm_bd_some, if_pos rfl]
    refine ⟨σ3, ?_, (K2.cf c3).out⟩
    rw [fx_L_acts_J984]
    rcases hw with ⟨a, b⟩ | ⟨a, b⟩
    · rw [if_pos a, if_neg b]; exact J
    · rw [if_neg a, if_neg b]; exact J
  rw [fx_L_acts_J917, show fx_L_low (y >>> ((4 : Int32) &&& 31)) 50 σ = _ from er, mm_bd_some, e1r, e1, mm_bd_some]
  by_cases h0 : cN S = 0
  · have hval : v = -1000001 := hv.elim (fun z => z.2) (fun z => absurd z.1 (by omega))
    rw [if_pos (show nI (cN S) ≤ 0 by rw [h0]; decide), if_pos hval]
    exact st σ1 K1 v (Or.inr (by rw [hval]; decide))
  · have hto2 : to < cN S := hto.resolve_left (fun z => h0 z.1)
    have hval := (hv.resolve_left (fun z => absurd z.1 (by omega))).2
    obtain ⟨σ2, S2, B2, f2, e2, c2, t2, w2⟩ := q_would (n := to) (X := X) (j := 2) hB K1.2.1 hto2 (by omega) (by omega)
    have K2 := K1.cf c2
    obtain ⟨σ3, S3, B3, f3, e3, c3, t3, w3⟩ := q_would (n := to) (X := X) (j := 3) hB K2.2.1 hto2 (by omega) (by omega)
    have K3 := K2.cf c3
    obtain ⟨d, hd, ed⟩ : isN (S2 (139 + 17 * to + 3)) 10 := (w2.ct hto2).2.2.2.1
    obtain ⟨t, ht, et⟩ : isN (S (139 + 17 * to + 4)) (f + 1) := (hW.ct (n := to) (by omega)).2.2.2.2.1
    have hf4 := hW.f4
    have q3 := q_cart (n := to) (j := 3) K3.2.1 hto2 (by omega)
    have mono : ¬ S3 (139 + 17 * to + 4) < S (139 + 17 * to + 4) := by
      rcases t3 to hto2 with z | ⟨a, b, h1, h2, h3, h4⟩
      · rw [z]; exact Int32.not_lt.mpr (Int32.le_refl _)
      · rw [h3, h4]
        by_cases ha : a < 1000000
        · exact nlt_lit rfl h1 (by omega)
        · omega
    rw [if_neg (show ¬ nI (cN S) ≤ (0 : Int32) from nle_lit (a := 0) rfl (by omega) (by omega)), show fx_X10_would (nI to) (nI X) (2 : Int32) σ1 = _ from e2, mm_bd_some, show vCartOf S2 to 2 = S2 (139 + 17 * to + 3) from rfl, ed, if_neg (nI_pos (by omega)), show fx_X10_would (nI to) (nI X) (3 : Int32) σ2 = _ from e3, mm_bd_some, show fx_X10_cartOf (nI to) (3 : Int32) σ3 = _ from q3, mm_bd_some, show vCartOf S3 to 3 = S3 (139 + 17 * to + 4) from rfl, show vCartOf S to 3 = S (139 + 17 * to + 4) from rfl, if_neg mono]
    refine st σ3 K3 v ?_
    rcases hval with z | z | ⟨m, hm, z⟩
    · right; rw [z]; decide
    · right; rw [z]; decide
    · left
      rw [z]
      exact ⟨nI_pos' (by omega), nle_lit (x := 7) (b := 7) rfl hm (by omega)⟩
end PP
