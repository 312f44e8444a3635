/-! the class's queue -/
def qI (S : Nat → Int32) (s v n : Nat) (σ : mm_M) : Prop :=
  n ≤ 64 ∧ σ 7 20 0 2 = nI n ∧ n + cu (σ 7 21 0) 64 = 64 ∧ (∀ q, q < 64 → σ 7 21 0 q = -1 ∨ ∃ i k, i < n ∧ σ 7 22 0 i = nI q ∧ σ 7 21 0 q = nI k ∧ k ≤ i ∧ dst S s q k) ∧ (∀ i, i < n → ∃ q k, q < 64 ∧ σ 7 22 0 i = nI q ∧ σ 7 21 0 q = nI k ∧ k ≤ i) ∧ (∀ i, i < v → ∀ p, p < 64 → σ 7 22 0 i = nI p → ∀ q, q < 64 → edge S p q → σ 7 21 0 q ≠ -1) ∧ (∀ i j p q a b, i ≤ j → j < n → p < 64 → q < 64 → a < 1000 → b < 1000 → σ 7 22 0 i = nI p → σ 7 22 0 j = nI q → σ 7 21 0 p = nI a → σ 7 21 0 q = nI b → a ≤ b) ∧ σ 7 21 0 s ≠ -1
def qT (n a : Nat) (σ : mm_M) : Prop := ∀ j, j < n → ∀ q b, q < 64 → b < 1000 → σ 7 22 0 j = nI q → σ 7 21 0 q = nI b → b ≤ a + 1
theorem cu_upd {M : Nat → Int32} {x : Nat} {v : Int32} (hx : M x = -1) (hv : v ≠ -1) : ∀ k, x < k → cu (upd M x v) k + 1 = cu M k
  | 0, h => absurd h (Nat.not_lt_zero _)
  | k + 1, h => by
    have low : ∀ m, m ≤ x → cu (upd M x v) m = cu M m := by
      intro m
      induction m with
      | zero => intro _; rfl
      | succ m ih =>
        intro hm
        unfold cu
        rw [ih (by omega), pk_un (show m ≠ x by omega)]
    unfold cu
    by_cases hk : x = k
    · subst hk
      rw [low x (Nat.le_refl _), pk_us, if_neg hv, if_pos hx]
    · have := cu_upd hx hv k (by omega)
      rw [pk_un (show k ≠ x by omega)]
      omega
/-- every cell no farther than the queue's head is held -/
theorem q_held {S : Nat → Int32} {s v n p a : Nat} {σ : mm_M} (hI : qI S s v n σ) (hv : v < n) (hp : p < 64) (hQ : σ 7 22 0 v = nI p) (hD : σ 7 21 0 p = nI a) (ha : a < 100) : ∀ i y, y < 64 → i ≤ a → dst S s y i → σ 7 21 0 y ≠ -1
  | 0, y, _, _, hd => by
    have e : y = s := hd.1
    rw [e]
    exact hI.2.2.2.2.2.2.2
  | i + 1, y, hy, hi, hd => by
    obtain ⟨z, hz, he, hdz⟩ := pred_d hd
    have hne := q_held hI hv hp hQ hD ha i z hz (by omega) hdz
    rcases hI.2.2.2.1 z hz with w | ⟨x, k, hx, hqx, hk, hkx, hdk⟩
    · exact absurd w hne
    · have : k = i := dst_u hdk hdz
      subst this
      by_cases hxv : x < v
      · exact hI.2.2.2.2.2.1 x hxv z hz hqx y hy he
      · have := hI.2.2.2.2.2.2.1 v x p z a k (by omega) hx hp hz (by omega) (by omega) hQ hqx hD hk
        omega
theorem q_add {S : Nat → Int32} {s v n p a x : Nat} {σ : mm_M} (hI : qI S s v n σ) (hT : qT n a σ) (hv : v < n) (hp : p < 64) (hQ : σ 7 22 0 v = nI p) (hD : σ 7 21 0 p = nI a) (hda : dst S s p a) (hav : a ≤ v) (hx : x < 64) (hxD : σ 7 21 0 x = -1) (he : edge S p x) : n < 64 ∧ ∃ σ1, fx_X9_reach (nI x) (nI (a + 1)) σ = some (0, σ1) ∧ qI S s v (n + 1) σ1 ∧ qT (n + 1) a σ1 ∧ σ1 7 22 0 v = nI p ∧ σ1 7 21 0 p = nI a ∧ σ1 7 21 0 x ≠ -1 ∧ (∀ q, σ 7 21 0 q ≠ -1 → σ1 7 21 0 q = σ 7 21 0 q) ∧ ∀ q t m i, q ≠ 7 → σ1 q t m i = σ q t m i := by
  obtain ⟨h1, h2, h3, h4, h5, h6, h7, h8⟩ := id hI
  have hcu : 0 < cu (σ 7 21 0) 64 := by
    have := cu_lt (M := σ 7 21 0) (M1 := upd (σ 7 21 0) x 0) (q0 := x) hxD (by rw [pk_us]; decide) 64 hx (fun q hq z => by
      by_cases hqx : q = x
      · rw [hqx]; exact hxD
      · rw [pk_un hqx] at z; exact z)
    omega
  have hn : n < 64 := by omega
  have hpx : p ≠ x := fun z => by
    rw [z, hxD] at hD
    exact m1_nI (by omega) hD
  have dx : dst S s x (a + 1) := by
    refine ⟨⟨p, hp, he, hda.1⟩, fun j hj hr => ?_⟩
    obtain ⟨i, hi, hd⟩ := dst_of j hr
    exact q_held hI hv hp hQ hD (by omega) i x hx (by omega) hd hxD
  refine ⟨hn, mm_u (mm_u (mm_u σ 7 21 0 x (nI (a + 1))) 7 22 0 n (nI x)) 7 20 0 2 (nI (n + 1)), ?_, ?_⟩
  · have u2 : mm_u σ 7 21 0 x (nI (a + 1)) 7 20 0 2 = nI n := by rw [mm_u_ap, if_neg (by omega)]; exact h2
    have u3 : mm_u (mm_u σ 7 21 0 x (nI (a + 1))) 7 22 0 n (nI x) 7 20 0 2 = nI n := by rw [mm_u_ap, if_neg (by omega)]; exact u2
    rw [fx_X9_reach, mm_gd_t (mm_ix_n hx (by omega)), nI_cl (k := x) (by omega), hxD, if_pos rfl, h2, if_neg (cell_nI hn).2, mm_gd_t (mm_ix_n hx (by omega)), mm_lt_e, u2, mm_gd_t (mm_ix_n hn (by omega)), mm_lt_e, nI_cl (by omega), u3, mm_lt_e, nI_1]
  · have eD : ∀ q, mm_u (mm_u (mm_u σ 7 21 0 x (nI (a + 1))) 7 22 0 n (nI x)) 7 20 0 2 (nI (n + 1)) 7 21 0 q = if q = x then nI (a + 1) else σ 7 21 0 q := by
      intro q
      rw [mm_u_ap, if_neg (by omega), mm_u_ap, if_neg (by omega), mm_u_ap]
      by_cases hq : q = x
      · rw [if_pos ⟨rfl, rfl, rfl, hq⟩, if_pos hq]
      · rw [if_neg (fun z => hq z.2.2.2), if_neg hq]
    have eQ : ∀ i, mm_u (mm_u (mm_u σ 7 21 0 x (nI (a + 1))) 7 22 0 n (nI x)) 7 20 0 2 (nI (n + 1)) 7 22 0 i = if i = n then nI x else σ 7 22 0 i := by
      intro i
      rw [mm_u_ap, if_neg (by omega), mm_u_ap]
      by_cases hi : i = n
      · rw [if_pos ⟨rfl, rfl, rfl, hi⟩, if_pos hi]
      · rw [if_neg (fun z => hi z.2.2.2), if_neg hi, mm_u_ap, if_neg (by omega)]
    have en : mm_u (mm_u (mm_u σ 7 21 0 x (nI (a + 1))) 7 22 0 n (nI x)) 7 20 0 2 (nI (n + 1)) 7 20 0 2 = nI (n + 1) := by rw [mm_u_ap, if_pos ⟨rfl, rfl, rfl, rfl⟩]
    generalize hg : mm_u (mm_u (mm_u σ 7 21 0 x (nI (a + 1))) 7 22 0 n (nI x)) 7 20 0 2 (nI (n + 1)) = σ1 at *
    have gD : ∀ q, σ 7 21 0 q ≠ -1 → σ1 7 21 0 q = σ 7 21 0 q := fun q z => by
      rw [eD, if_neg (show ¬ q = x from fun w => z (by rw [w]; exact hxD))]
    have lvl : ∀ j q b, j < n + 1 → q < 64 → b < 1000 → σ1 7 22 0 j = nI q → σ1 7 21 0 q = nI b → b ≤ a + 1 ∧ (j < n → σ 7 22 0 j = nI q ∧ σ 7 21 0 q = nI b) ∧ (j = n → b = a + 1) := by
      intro j q b hj hq hb w1 w2
      rw [eQ] at w1
      by_cases hjn : j = n
      · rw [if_pos hjn] at w1
        have : x = q := (nI_e (by omega) (by omega)).mp w1
        subst this
        rw [eD, if_pos rfl] at w2
        have := (nI_e (by omega) (by omega)).mp w2
        exact ⟨by omega, fun z => absurd z (by omega), fun _ => by omega⟩
      · rw [if_neg hjn] at w1
        obtain ⟨q2, k2, hq2, z1, z2, hk2⟩ := h5 j (by omega)
        have : q2 = q := (nI_e (by omega) (by omega)).mp (z1.symm.trans w1)
        subst this
        have e := gD q2 (by rw [z2]; exact nI_m1 (by omega))
        rw [e] at w2
        exact ⟨hT j (by omega) q2 b hq hb w1 w2, fun _ => ⟨w1, w2⟩, fun z => absurd z hjn⟩
    refine ⟨⟨by omega, en, ?_, fun q hq => ?_, fun i hi => ?_, fun i hi y hy hQy q hq hed => ?_, fun i j y q b1 b2 hij hj hy hq hb1 hb2 w1 w2 w3 w4 => ?_, ?_⟩, fun j hj q b hq hb w1 w2 => (lvl j q b hj hq hb w1 w2).1, ?_, ?_, ?_, gD, fun q t m i hq => ?_⟩
    · have er : σ1 7 21 0 = upd (σ 7 21 0) x (nI (a + 1)) := by
        funext q
        rw [eD]
        by_cases hq : q = x
        · rw [if_pos hq, hq, pk_us]
        · rw [if_neg hq, pk_un hq]
      have := cu_upd (M := σ 7 21 0) (v := nI (a + 1)) hxD (nI_m1 (by omega)) 64 hx
      rw [er]
      omega
    · rw [eD]
      by_cases hqx : q = x
      · subst hqx
        rw [if_pos rfl]
        exact Or.inr ⟨n, a + 1, by omega, by rw [eQ, if_pos rfl], rfl, by omega, dx⟩
      · rw [if_neg hqx]
        rcases h4 q hq with z | ⟨i, k, hi, b1, b2, b3, b4⟩
        · exact Or.inl z
        · exact Or.inr ⟨i, k, by omega, by rw [eQ, if_neg (by omega)]; exact b1, b2, b3, b4⟩
    · by_cases hin : i = n
      · subst hin
        exact ⟨x, a + 1, hx, by rw [eQ, if_pos rfl], by rw [eD, if_pos rfl], by omega⟩
      · obtain ⟨q, k, hq, b1, b2, b3⟩ := h5 i (by omega)
        exact ⟨q, k, hq, by rw [eQ, if_neg hin]; exact b1, by rw [gD q (by rw [b2]; exact nI_m1 (by omega))]; exact b2, b3⟩
    · rw [eQ, if_neg (by omega)] at hQy
      have := h6 i hi y hy hQy q hq hed
      rw [gD q this]; exact this
    · obtain ⟨l1, l2, l3⟩ := lvl i y b1 (by omega) hy hb1 w1 w3
      obtain ⟨r1, r2, r3⟩ := lvl j q b2 hj hq hb2 w2 w4
      by_cases hjn : j = n
      · have := r3 hjn
        omega
      · obtain ⟨x1, x2⟩ := l2 (by omega)
        obtain ⟨x3, x4⟩ := r2 (by omega)
        exact h7 i j y q b1 b2 hij (by omega) hy hq hb1 hb2 x1 x3 x2 x4
    · rw [gD s h8]; exact h8
    · rw [eQ, if_neg (by omega)]; exact hQ
    · rw [eD, if_neg hpx]; exact hD
    · rw [eD, if_pos rfl]; exact nI_m1 (by omega)
    · rw [← hg, mm_u_ap, if_neg (by omega), mm_u_ap, if_neg (by omega), mm_u_ap, if_neg (by omega)]
