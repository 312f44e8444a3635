/-! carts and cells tell of one another, locked registers are those that the damage tells, phases and rounds add up -/
theorem bit_at : ∀ m : Fin 32, ∀ i : Fin 5, (nI m.val >>> (nI i.val &&& 31)) &&& 1 = nI (m.val / 2 ^ i.val % 2) := by decide +kernel
def onC (S : Nat → Int32) (q : Nat) : Nat → Nat
  | 0 => 0
  | n + 1 => onC S q n + (if S (139 + 17 * n + 1) = nI q then 1 else 0)
def tS (S : Nat → Int32) (n : Nat) : Nat → Nat
  | 0 => 0
  | Q + 1 => tS S n Q + onC S Q n
def eq1 (S : Nat → Int32) (n : Nat) : Nat → Nat
  | 0 => 0
  | Q + 1 => eq1 S n Q + (if S (139 + 17 * n + 1) = nI Q then 1 else 0)
theorem onC_none {S : Nat → Int32} {q : Nat} : ∀ n, (∀ m, m < n → S (139 + 17 * m + 1) ≠ nI q) → onC S q n = 0
  | 0, _ => rfl
  | n + 1, h => by
    unfold onC
    rw [onC_none n (fun m hm => h m (by omega)), if_neg (h n (by omega))]
theorem onC_one {S : Nat → Int32} {q m : Nat} (e : S (139 + 17 * m + 1) = nI q) : ∀ n, m < n → (∀ i, i < n → i ≠ m → S (139 + 17 * i + 1) ≠ nI q) → onC S q n = 1
  | 0, h, _ => absurd h (Nat.not_lt_zero m)
  | n + 1, h, hu => by
    unfold onC
    by_cases hm : m = n
    · subst hm
      rw [if_pos e, onC_none m (fun i hi => hu i (by omega) (by omega))]
    · rw [if_neg (hu n (by omega) (fun z => hm z.symm)), onC_one e n (by omega) (fun i hi => hu i (by omega))]
theorem tS_succ (S : Nat → Int32) (n : Nat) : ∀ Q, tS S (n + 1) Q = tS S n Q + eq1 S n Q
  | 0 => rfl
  | Q + 1 => by
    have h := tS_succ S n Q
    have e1 : tS S (n + 1) (Q + 1) = tS S (n + 1) Q + onC S Q (n + 1) := rfl
    have e2 : tS S n (Q + 1) = tS S n Q + onC S Q n := rfl
    have e3 : eq1 S n (Q + 1) = eq1 S n Q + (if S (139 + 17 * n + 1) = nI Q then 1 else 0) := rfl
    have e4 : onC S Q (n + 1) = onC S Q n + (if S (139 + 17 * n + 1) = nI Q then 1 else 0) := rfl
    rw [e1, e2, e3, e4, h]
    omega
theorem eq1_out {S : Nat → Int32} {n : Nat} (h : S (139 + 17 * n + 1) = -1) : ∀ Q, Q < 1000 → eq1 S n Q = 0
  | 0, _ => rfl
  | Q + 1, hQ => by
    unfold eq1
    rw [eq1_out h Q (by omega), h, if_neg (m1_nI (by omega))]
theorem eq1_in {S : Nat → Int32} {n q : Nat} (hq : q < 1000) (h : S (139 + 17 * n + 1) = nI q) : ∀ Q, Q < 1000 → eq1 S n Q = if q < Q then 1 else 0
  | 0, _ => rfl
  | Q + 1, hQ => by
    unfold eq1
    rw [eq1_in hq h Q (by omega), h]
    by_cases e : q = Q
    · subst e
      rw [if_neg (by omega), if_pos rfl, if_pos (by omega)]
    · rw [if_neg (fun z => e ((nI_e (by omega) (by omega)).mp z))]
      by_cases l : q < Q
      · rw [if_pos l, if_pos (by omega)]
      · rw [if_neg l, if_neg (by omega)]
theorem tS_oc {B c f : Nat} {S : Nat → Int32} (hW : WF B c f S) : ∀ n, n ≤ c → tS S n 64 + oc S n = n
  | 0, _ => by
    have : ∀ Q, tS S 0 Q = 0 := fun Q => by
      induction Q with
      | zero => rfl
      | succ Q ih => show tS S 0 Q + 0 = 0; omega
    rw [this]
    rfl
  | n + 1, hn => by
    have h := tS_oc hW n (by omega)
    have e : oc S (n + 1) = oc S n + (if S (139 + 17 * n + 1) = -1 then 1 else 0) := rfl
    rw [tS_succ, e]
    rcases (hW.ct (n := n) (by omega)).cell with z | ⟨q, hq, z⟩
    · rw [eq1_out z 64 (by omega), if_pos z]
      omega
    · rw [eq1_in (by omega) z 64 (by omega), if_pos hq, z, if_neg (nI_m1 (by omega))]
      omega
section HH
variable {k N L : Nat} {σ : mm_M} {R : Nat → Nat → Int32} {S : Nat → Int32} {ch : Nat → Nat}
theorem h_reg {c f ph n d : Nat} {k74 : Int32 → Int32 → Int32 → mm_M → mm_R} {v1 v2 : Int32} (hK : KS k σ N R S L ch) (hW : WF (JB k) c f S) (hn : n < c) (hd : d < 10) (ed : S (139 + 17 * n + 3) = nI d) : ∀ (e i fu : Nat), i + e = 5 → e < fu → fx_L_holds_L177 k74 fu v1 v2 (nI n) (nI d) 1 (nI i) σ = k74 v1 v2 (nI (n + 1)) σ := by
  have hcn : n < cN S := by rw [cN_eq hW]; exact hn
  have hc4 := hW.c4
  have edn : dN S n = d := by unfold dN; rw [ed]; exact nI_cl (by omega)
  intro e
  induction e with
  | zero =>
    intro i fu hk hf
    obtain ⟨g, rfl⟩ : ∃ g, fu = g + 1 := ⟨fu - 1, by omega⟩
    have : i = 5 := by omega
    subst this
    rw [fx_L_holds_L177, if_pos (show (5 : Int32) ≤ nI 5 by decide), if_neg (show ¬ (1 : Int32) = 0 by decide), mm_li_e, nI_1]
  | succ e ih =>
    intro i fu hk hf
    obtain ⟨g, rfl⟩ : ∃ g, fu = g + 1 := ⟨fu - 1, by omega⟩
    have hi : i < 5 := by omega
    have h5 : ¬ (5 : Int32) ≤ nI i := nle_lit (x := 5) (b := 5) rfl (by omega) (by omega)
    have I := ih (i + 1) g (by omega) (by omega)
    have J325 : fx_L_holds_J325 k74 (fun z0 z1 z2 z3 z4 z5 z => fx_L_holds_L177 k74 g z0 z1 z2 z3 z4 z5 z) v1 v2 (nI n) (nI d) (nI i) 1 σ = k74 v1 v2 (nI (n + 1)) σ := by
      rw [fx_L_holds_J325, mm_li_e, nI_1]
      exact I
    obtain ⟨rk, hrk, erk⟩ : isN (S (139 + 17 * n + (8 + 2 * i))) 1000 := ((hW.ct hn).2.2.2.2.2.2.2 i hi).1
    have hmv := ((hW.ct hn).2.2.2.2.2.2.2 i hi).2
    have hle : (S (139 + 17 * n + (8 + 2 * i)) ≤ 0) ↔ rk = 0 := by
      rw [erk]
      constructor
      · intro z
        have := (nI_g (a := rk) (b := 0) (by omega) (by omega)).mp z
        omega
      · intro z; rw [z]; decide
    -- the bit of the set of cards, and that of the locked ones
    have hb := bit_at ⟨cs S n 5, cs_lt S n 5⟩ ⟨i, hi⟩
    have hbit : (nI (cs S n 5) >>> (nI i &&& 31)) &&& 1 = nI (if rk = 0 then 0 else 1) := by
      refine hb.trans (congrArg nI ?_)
      show cs S n 5 / 2 ^ i % 2 = _
      rw [cs_bit S n i hi]
      simp only [hle]
    have hu := uN_5 d
    have h2u : 0 < 2 ^ uN d := Nat.two_pow_pos _
    have hlb : (nI (32 - 2 ^ uN d) >>> (nI i &&& 31)) &&& 1 = nI (if uN d ≤ i then 1 else 0) := by
      refine (bit_at ⟨32 - 2 ^ uN d, by omega⟩ ⟨i, hi⟩).trans (congrArg nI ?_)
      show (32 - 2 ^ uN d) / 2 ^ i % 2 = _
      have hu' : uN d = 0 ∨ uN d = 1 ∨ uN d = 2 ∨ uN d = 3 ∨ uN d = 4 ∨ uN d = 5 := by omega
      rcases hu' with u | u | u | u | u | u <;> rw [u] <;> (rcases (show i = 0 ∨ i = 1 ∨ i = 2 ∨ i = 3 ∨ i = 4 by omega) with rfl | rfl | rfl | rfl | rfl <;> rfl)
    have lockd : (nI i + nI d ≤ (8 : Int32)) ↔ ¬ uN d ≤ i := by
      rw [nI_add]
      constructor
      · intro z
        have h8 := (nI_g (a := i + d) (b := 8) (by omega) (by omega)).mp z
        unfold uN
        split <;> omega
      · intro z
        unfold uN at z
        refine (nI_g (a := i + d) (b := 8) (by omega) (by omega)).mpr ?_
        split at z <;> omega
    have J246 : ∀ w : Nat, w = (if rk = 0 then 0 else 1) → fx_L_holds_J224 k74 (fun z0 z1 z2 z3 z4 z5 z => fx_L_holds_L177 k74 g z0 z1 z2 z3 z4 z5 z) v1 v2 (nI n) (nI d) 1 (nI i) (vCardOf S n i 0) (vCardOf S n i 1) (nI w) σ = k74 v1 v2 (nI (n + 1)) σ := by
      intro w hw
      have J270 : ∀ l : Nat, l = (if uN d ≤ i then 1 else 0) → fx_L_holds_J246 k74 (fun z0 z1 z2 z3 z4 z5 z => fx_L_holds_L177 k74 g z0 z1 z2 z3 z4 z5 z) v1 v2 (nI n) (nI d) 1 (nI i) (vCardOf S n i 0) (vCardOf S n i 1) (nI w) (nI l) σ = k74 v1 v2 (nI (n + 1)) σ := by
        intro l hl
        have fin : ∀ l2 : Nat, l2 = l → l < 2 → fx_L_holds_J270 k74 (fun z0 z1 z2 z3 z4 z5 z => fx_L_holds_L177 k74 g z0 z1 z2 z3 z4 z5 z) v1 v2 (nI n) (nI d) (nI i) (vCardOf S n i 0) (vCardOf S n i 1) (nI w) (nI l) (nI l2) σ = k74 v1 v2 (nI (n + 1)) σ := by
          intro l2 h2 _
          subst h2
          rw [fx_L_holds_J270, if_pos rfl]
          unfold vCardOf
          by_cases hz : rk = 0
          · have ez : S (139 + 17 * n + (8 + 2 * i)) = 0 := by rw [erk, hz]; rfl
            rw [if_pos hz] at hw
            rw [hw, if_pos (show nI 0 = (0 : Int32) from rfl), if_pos ez, if_pos ez, if_pos rfl, if_pos rfl]
            exact J325
          · have ez : ¬ S (139 + 17 * n + (8 + 2 * i)) = 0 := by rw [erk]; exact ne_lit (b := 0) rfl hz (by omega) (by omega)
            obtain ⟨mv, hmv7, emv⟩ := hmv.resolve_left ez
            rw [if_neg hz] at hw
            rw [hw, if_neg (show ¬ nI 1 = (0 : Int32) by decide), if_neg ez, if_neg ez, if_pos rfl, if_neg (show ¬ 1 = 0 by decide), emv, erk, if_neg (nI_pos (by omega)), if_neg (show ¬ (7 : Int32) ≤ nI mv from nle_lit (x := 7) (b := 7) rfl hmv7 (by omega)), if_neg (show ¬ nI rk ≤ (0 : Int32) from nle_lit (a := 0) rfl (by omega) (by omega)), if_neg (show ¬ (1000 : Int32) ≤ nI rk from nle_lit (x := 1000) (b := 1000) rfl hrk (by omega))]
            exact J325
        rw [fx_L_holds_J246, if_neg (show ¬ (1 : Int32) = 0 by decide)]
        by_cases hlk : uN d ≤ i
        · rw [if_pos hlk] at hl
          rw [if_neg (fun z => absurd hlk (lockd.mp z))]
          exact fin 1 (by omega) (by omega)
        · rw [if_neg hlk] at hl
          rw [if_pos (lockd.mpr hlk)]
          exact fin 0 (by omega) (by omega)
      rw [fx_L_holds_J224, show fx_X10_cartOf (nI n) (5 : Int32) σ = _ from q_cart (j := 5) hK.2.1 hcn (by omega), mm_bd_some, show vCartOf S n 5 = nI (32 - 2 ^ uN (dN S n)) from rfl, edn, hlb]
      by_cases hlk : uN d ≤ i
      · rw [if_pos hlk, if_pos (show nI 1 = (1 : Int32) from rfl)]
        exact J270 1 (by rw [if_pos hlk])
      · rw [if_neg hlk, if_neg (show ¬ nI 0 = (1 : Int32) by decide)]
        exact J270 0 (by rw [if_neg hlk])
    rw [fx_L_holds_L177, if_neg h5, show fx_X10_cardOf (nI n) (nI i) (0 : Int32) σ = _ from q_card (y := 0) hK.2.1 hcn hi (by omega), mm_bd_some, show fx_X10_cardOf (nI n) (nI i) (1 : Int32) σ = _ from q_card (y := 1) hK.2.1 hcn hi (by omega), mm_bd_some, show fx_X10_cartOf (nI n) (6 : Int32) σ = _ from q_cart (j := 6) hK.2.1 hcn (by omega), mm_bd_some, show vCartOf S n 6 = nI (cs S n 5) from rfl, hbit]
    by_cases hz : rk = 0
    · rw [if_pos hz, if_neg (show ¬ nI 0 = (1 : Int32) by decide)]
      exact J246 0 (by rw [if_pos hz])
    · rw [if_neg hz, if_pos (show nI 1 = (1 : Int32) from rfl)]
      exact J246 1 (by rw [if_neg hz])
theorem h_end {c f ph T : Nat} (hK : KS k σ N R S L ch) (hW : WF (JB k) c f S) (hp : S 1 = nI ph) (hph : ph < 5) (hX : XS (JB k) c ph S) (hB : JB k < 100000) (hT : T + oc S c = c) (g : Nat) : fx_L_holds_L74 (g + 1) (nI (oc S c)) (nI T) (nI c) σ = some (1, σ) := by
  have hc4 := hW.c4
  have hcN := cN_eq hW
  obtain ⟨x1, x2, Rr, x3, x4, x5⟩ := hX
  have cnt : ∀ j, j < 10 → fx_X10_count (nI j) σ = some (vCount S N L j, σ) := fun j hj => q_count hK hj
  have c0 : fx_X10_count (0 : Int32) σ = some (nI c, σ) := (cnt 0 (by omega)).trans (by rw [show vCount S N L 0 = S 0 from rfl, hW.s0])
  have c1 : fx_X10_count (1 : Int32) σ = some (nI ph, σ) := (cnt 1 (by omega)).trans (by rw [show vCount S N L 1 = S 1 from rfl, hp])
  have c2 : fx_X10_count (2 : Int32) σ = some (nI Rr, σ) := (cnt 2 (by omega)).trans (by rw [show vCount S N L 2 = S 2 from rfl, x3])
  have c4 : fx_X10_count (4 : Int32) σ = some (nI (oc S c), σ) := (cnt 4 (by omega)).trans (by rw [show vCount S N L 4 = nI (oc S (cN S)) from rfl, hcN])
  have c5 : fx_X10_count (5 : Int32) σ = some (if S 4 = -1 then -1000004 else S 4, σ) := cnt 5 (by omega)
  have c6 : fx_X10_count (6 : Int32) σ = some (nI (5 * Rr + ph), σ) := (cnt 6 (by omega)).trans (by rw [show vCount S N L 6 = S 5 from rfl, x4])
  have e5 : (5 : Int32) * nI Rr = nI (5 * Rr) := by show nI 5 * nI Rr = _; rw [pk_mul]
  have ho := oc_le S c
  rw [fx_L_holds_L74, c0, mm_bd_some, if_pos (le_lit rfl (Nat.le_refl _) (by omega)), c5, mm_bd_some, c4, mm_bd_some, if_pos rfl, c0, mm_bd_some, nI_add, hT, if_pos rfl, c6, mm_bd_some, c2, mm_bd_some, e5, if_neg (nlt_lit rfl (by omega) (by omega) : ¬ nI (5 * Rr + ph) < nI (5 * Rr)), c6, mm_bd_some, c2, mm_bd_some, c1, mm_bd_some, e5, nI_add, if_pos rfl]
  rcases x2 with x2 | ⟨n, u, a1, a2, a3, a4, a5⟩
  · rw [if_pos x2, if_pos rfl]
  · have hne : ¬ S 4 = -1 := by rw [a4]; exact nI_m1 (by omega)
    have hn4 : ¬ nI n = (-1000004 : Int32) := fun z => by
      have := nI_pos (n := n) (by omega)
      rw [z] at this
      exact this (by decide)
    rw [if_neg hne, a4, if_neg hn4, if_neg (nI_pos (by omega)), c0, mm_bd_some, if_neg (nle_lit rfl a1 (by omega) : ¬ nI c ≤ nI n), show fx_X10_cartOf (nI n) (3 : Int32) σ = _ from q_cart (j := 3) hK.2.1 (by rw [hcN]; exact a1) (by omega), mm_bd_some, show vCartOf S n 3 = S (139 + 17 * n + 4) from rfl, a5, if_neg (show ¬ nI u ≤ (0 : Int32) from nle_lit (a := 0) rfl a2 (by omega))]
theorem h_carts {c f ph T : Nat} (hK : KS k σ N R S L ch) (hW : WF (JB k) c f S) (hp : S 1 = nI ph) (hph : ph < 5) (hX : XS (JB k) c ph S) (hB : JB k < 100000) (hT : T + oc S c = c) : ∀ (e j fu : Nat), j + e = c → e < fu → fx_L_holds_L74 fu (nI (oc S j)) (nI T) (nI j) σ = some (1, σ) := by
  have hc4 := hW.c4
  have hf4 := hW.f4
  have hcN := cN_eq hW
  have c0 : fx_X10_count (0 : Int32) σ = some (nI c, σ) := (q_count (j := 0) hK (by omega)).trans (by rw [show vCount S N L 0 = S 0 from rfl, hW.s0])
  have c3 : fx_X10_count (3 : Int32) σ = some (nI f, σ) := (q_count (j := 3) hK (by omega)).trans (by rw [show vCount S N L 3 = S 3 from rfl, hW.s3])
  intro e
  induction e with
  | zero =>
    intro j fu hk hf
    obtain ⟨g, rfl⟩ : ∃ g, fu = g + 1 := ⟨fu - 1, by omega⟩
    have : j = c := by omega
    subst this
    exact h_end hK hW hp hph hX hB hT g
  | succ e ih =>
    intro j fu hk hf
    obtain ⟨g, rfl⟩ : ∃ g, fu = g + 1 := ⟨fu - 1, by omega⟩
    have hj : j < c := by omega
    have hjc : j < cN S := by rw [hcN]; exact hj
    have I := ih (j + 1) g (by omega) (by omega)
    have eo : oc S (j + 1) = oc S j + (if S (139 + 17 * j + 1) = -1 then 1 else 0) := rfl
    obtain ⟨d, hd, ed⟩ : isN (S (139 + 17 * j + 3)) 10 := (hW.ct hj).2.2.2.1
    obtain ⟨t, ht, et⟩ : isN (S (139 + 17 * j + 4)) (f + 1) := (hW.ct hj).2.2.2.2.1
    have hcs : cs S j 5 < 32 := cs_lt S j 5
    have crt : ∀ q, q < 9 → fx_X10_cartOf (nI j) (nI q) σ = some (vCartOf S j q, σ) := fun q hq => q_cart hK.2.1 hjc hq
    have r2 : fx_X10_cartOf (nI j) (2 : Int32) σ = some (nI d, σ) := (crt 2 (by omega)).trans (by rw [show vCartOf S j 2 = S (139 + 17 * j + 3) from rfl, ed])
    have r3 : fx_X10_cartOf (nI j) (3 : Int32) σ = some (nI t, σ) := (crt 3 (by omega)).trans (by rw [show vCartOf S j 3 = S (139 + 17 * j + 4) from rfl, et])
    have r6 : fx_X10_cartOf (nI j) (6 : Int32) σ = some (nI (cs S j 5), σ) := crt 6 (by omega)
    have r0 : fx_X10_cartOf (nI j) (0 : Int32) σ = some (if S (139 + 17 * j + 1) = -1 then -1000004 else S (139 + 17 * j + 1), σ) := crt 0 (by omega)
    have J : ∀ w : Nat, w = (if S (139 + 17 * j + 1) = -1 then 1 else 0) → fx_L_holds_J108 (fun z0 z1 z2 z => fx_L_holds_L74 g z0 z1 z2 z) (nI T) (nI j) (nI d) (nI (oc S j)) (nI w) σ = some (1, σ) := by
      intro w hw
      rw [← hw] at eo
      rw [fx_L_holds_J108, mm_li_e, nI_add, if_neg (nI_pos (by omega)), if_neg (show ¬ (10 : Int32) ≤ nI d from nle_lit (x := 10) (b := 10) rfl hd (by omega)), r3, mm_bd_some, if_neg (nI_pos (by omega)), r3, mm_bd_some, c3, mm_bd_some, if_neg (nlt_lit rfl (by omega) (by omega) : ¬ nI f < nI t), r6, mm_bd_some, if_neg (nI_pos (by omega)), r6, mm_bd_some, if_neg (show ¬ (32 : Int32) ≤ nI (cs S j 5) from nle_lit (x := 32) (b := 32) rfl hcs (by omega)), fx_L_holds_J172, ← eo]
      exact (h_reg (ph := ph) hK hW hj hd ed 5 0 mm_FU (by omega) (by unfold mm_FU; omega)).trans I
    rw [fx_L_holds_L74, c0, mm_bd_some, if_neg (nle_lit rfl hj (by omega) : ¬ nI c ≤ nI j), r2, mm_bd_some, r0, mm_bd_some]
    by_cases ho : S (139 + 17 * j + 1) = -1
    · rw [if_pos ho, if_pos rfl]
      exact J 1 (by rw [if_pos ho])
    · obtain ⟨q, hq, eq⟩ := (hW.ct hj).cell.resolve_left ho
      have hn4 : ¬ nI q = (-1000004 : Int32) := fun z => by
        have := nI_pos (n := q) (by omega)
        rw [z] at this
        exact this (by decide)
      rw [if_neg ho, eq, if_neg hn4]
      exact J 0 (by rw [if_neg ho])
theorem h_cells {c f ph : Nat} (hK : KS k σ N R S L ch) (hW : WF (JB k) c f S) (hp : S 1 = nI ph) (hph : ph < 5) (hX : XS (JB k) c ph S) (hB : JB k < 100000) : ∀ (e q fu : Nat), q + e = 64 → e < fu → fx_L_holds_L6 fu 0 (nI (tS S c q)) (nI q) σ = some (1, σ) := by
  have hc4 := hW.c4
  have hcN := cN_eq hW
  intro e
  induction e with
  | zero =>
    intro q fu hk hf
    obtain ⟨g, rfl⟩ : ∃ g, fu = g + 1 := ⟨fu - 1, by omega⟩
    have : q = 64 := by omega
    subst this
    rw [fx_L_holds_L6, if_pos (show (64 : Int32) ≤ nI 64 by decide)]
    exact h_carts hK hW hp hph hX hB (tS_oc hW c (Nat.le_refl _)) c 0 mm_FU (by omega) (by unfold mm_FU; omega)
  | succ e ih =>
    intro q fu hk hf
    obtain ⟨g, rfl⟩ : ∃ g, fu = g + 1 := ⟨fu - 1, by omega⟩
    have hq : q < 64 := by omega
    have I := ih (q + 1) g (by omega) (by omega)
    have et : tS S c (q + 1) = tS S c q + onC S q c := rfl
    rw [et] at I
    have r2 : fx_X10_cellOf (nI q) (2 : Int32) σ = some (if sp_on S q c = -1 then -1000004 else sp_on S q c, σ) := (q_cell (j := 2) hK.2.1 hq (by omega)).trans (by rw [← hcN]; rfl)
    rw [fx_L_holds_L6, if_neg (cell_nI hq).2, r2, mm_bd_some]
    rcases sp_on_spec S q c hc4 with ⟨x, y⟩ | ⟨m, hm, x, y⟩
    · rw [onC_none c y] at I
      rw [x, if_pos rfl, if_pos rfl, fx_L_holds_J33, mm_li_e, show nI (tS S c q) + (0 : Int32) = nI (tS S c q + 0) from nI_add _ 0, if_pos rfl, mm_li_e, nI_1]
      exact I
    · rw [onC_one y c hm (fun i hi hne z => by
        have := hW.ap hi hm hne (z.trans y.symm)
        rw [z] at this
        exact nI_m1 (by omega) this)] at I
      have hn4 : ¬ nI m = (-1000004 : Int32) := fun z => by
        have := nI_pos (n := m) (by omega)
        rw [z] at this
        exact this (by decide)
      have r0 : fx_X10_cartOf (nI m) (0 : Int32) σ = some (nI q, σ) := (q_cart (j := 0) hK.2.1 (by rw [hcN]; exact hm) (by omega)).trans (by rw [show vCartOf S m 0 = (if S (139 + 17 * m + 1) = -1 then -1000004 else S (139 + 17 * m + 1)) from rfl, y, if_neg (nI_m1 (by omega))])
      have rk : fx_X10_cellOf (nI q) (0 : Int32) σ = some (S (11 + q), σ) := q_cell (j := 0) hK.2.1 hq (by omega)
      rw [x, if_neg (nI_m1 (by omega)), if_neg hn4, fx_L_holds_J33, mm_li_e, show nI (tS S c q) + (1 : Int32) = nI (tS S c q + 1) from nI_add _ 1, if_neg hn4, r0, mm_bd_some, if_pos rfl, rk, mm_bd_some, if_neg (hX.1 m q hm hq y), mm_li_e, nI_1]
      exact I
theorem p_holds (hk : k < 512) (hK : KS k σ N R S L ch) : fx_L_holds σ = some (1, σ) := by
  obtain ⟨c, f, ph, hW, hR, hp, hph, hX⟩ := id hK.2.1
  rw [fx_L_holds]
  exact h_cells hK hW hp hph hX (by unfold JB; omega) 64 0 mm_FU (by omega) (by unfold mm_FU; omega)
end HH
