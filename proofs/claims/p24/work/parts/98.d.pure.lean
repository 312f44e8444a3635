/-! the start, and the law's loop -/
def S00 : Nat → Int32 := fun i => if i = 4 then -1 else 0
theorem K_start : KS 0 m_s0 0 (fun _ _ => 0) S00 0 (fun _ => 32) := by
  have z : ∀ i, i ≠ 4 → S00 i = 0 := fun i hi => if_neg hi
  have z4 : S00 4 = -1 := if_pos rfl
  refine ⟨⟨by omega, rfl, fun i => i, ⟨fun i hi => ⟨hi, ?_⟩, fun i j _ _ e => e⟩, fun i hi => absurd hi (by omega)⟩, ⟨0, 0, 0, ⟨by omega, by omega, ?_, ?_, Or.inl z4, fun k hk => absurd hk (by omega), fun k hk => ⟨0, by omega, ?_⟩, fun n hn => absurd hn (by omega), fun n m hn => absurd hn (by omega)⟩, ⟨?_, ?_, ?_, ?_, ?_, ?_, ?_, fun k hk => ?_, fun k hk => ?_, fun k hk => absurd hk (by omega), fun n hn => absurd hn (by omega), fun n hn hn4 => ⟨fun k a b => ?_, fun j hj => rfl⟩⟩, ?_, by omega, ⟨fun n q hn => absurd hn (by omega), Or.inl z4, 0, ?_, ?_, by unfold JB; omega⟩⟩, by omega, rfl, fun i hi => absurd hi (by omega)⟩
  · show nI (i + 2) = nI (2 + i)
    rw [Nat.add_comm]
  · rw [z _ (by omega)]; rfl
  · rw [z _ (by omega)]; rfl
  · rw [z _ (by omega)]; rfl
  · rw [z _ (by omega)]; rfl
  · rw [z _ (by omega)]; rfl
  · rw [z _ (by omega)]; rfl
  · rw [z _ (by omega)]; rfl
  · rw [z _ (by omega)]; rfl
  · rw [z4]; rfl
  · rw [z _ (by omega)]; rfl
  · rw [z _ (by omega)]; rfl
  · rw [z _ (by omega)]; rfl
  · show (if k + 2 = 3 then (-1 : Int32) else 0) = 0
    rw [if_neg (by omega)]
  · rw [z _ (by omega)]; rfl
  · rw [z _ (by omega)]; rfl
  · rw [z _ (by omega)]; rfl
theorem cmp_self (x : Int64) : lg_cmp x x = 0 := by simp [lg_cmp]
section LL
variable {lo : Int32 → Int32} {g n : Nat}
theorem l_209 (hn : n < 36) (ih : ∀ (σ : mm_M) (N : Nat) (R : Nat → Nat → Int32) (S : Nat → Int32) (L : Nat) (ch : Nat → Nat), KS (n + 1) σ N R S L ch → ∃ σ1, fx_L_law_L32 lo g 1 (nI (n + 1)) σ = some (1, σ1)) {σ : mm_M} {N L : Nat} {R : Nat → Nat → Int32} {S : Nat → Int32} {ch : Nat → Nat} (hK : KS (n + 1) σ N R S L ch) : ∃ σ1, fx_L_law_J209 lo (fun z0 z1 z => fx_L_law_L32 lo g z0 z1 z) 1 (nI n) σ = some (1, σ1) := by
  have e6 : nI n - nI n / (6 : Int32) * (6 : Int32) = nI (n % 6) := pk_rem (a := n) (d := 6) (by omega) (by omega) (by omega)
  rw [fx_L_law_J209, if_neg (show ¬ (1 : Int32) = 0 by decide), e6]
  by_cases h5 : nI (n % 6) = 5
  · rw [if_pos h5, show fx_X10_count (7 : Int32) σ = _ from q_count (j := 7) hK (by omega), mm_bd_some, show vCount S N L 7 = nI N from rfl]
    have hN4 : N ≤ 4 := hK.1.1
    have J : ∀ (w : Int32) (σ2 : mm_M) (N2 : Nat) (R2 : Nat → Nat → Int32) (S2 : Nat → Int32), KS (n + 1) σ2 N2 R2 S2 L ch → ∃ σ1, fx_L_law_J247 lo (fun z0 z1 z => fx_L_law_L32 lo g z0 z1 z) (nI n) w w σ2 = some (1, σ1) := by
      intro w σ2 N2 R2 S2 h2
      rw [fx_L_law_J247, if_pos rfl, fx_L_law_J255, mm_li_e, nI_1]
      exact ih σ2 N2 R2 S2 L ch h2
    by_cases h0 : N = 0
    · subst h0
      rw [A_undo0 hK, mm_bd_some, if_pos (show nI 0 = (0 : Int32) from rfl)]
      exact J _ σ 0 R S hK
    · obtain ⟨m, rfl⟩ : ∃ m, N = m + 1 := ⟨N - 1, by omega⟩
      obtain ⟨σ2, e2, K2⟩ := A_undo hK
      have e1 : nI (m + 1) - 1 = nI m := pk_sub (a := m + 1) (b := 1) (by omega)
      rw [e2, mm_bd_some, if_neg (show ¬ nI (m + 1) = (0 : Int32) from ne_lit (b := 0) rfl (by omega) (by omega) (by omega)), e1]
      exact J _ σ2 m R (R m) K2
  · rw [if_neg h5, mm_li_e, nI_1]
    exact ih σ N R S L ch hK
theorem l_88 (hn : n < 36) (ih : ∀ (σ : mm_M) (N : Nat) (R : Nat → Nat → Int32) (S : Nat → Int32) (L : Nat) (ch : Nat → Nat), KS (n + 1) σ N R S L ch → ∃ σ1, fx_L_law_L32 lo g 1 (nI (n + 1)) σ = some (1, σ1)) {σ : mm_M} {N L : Nat} {R : Nat → Nat → Int32} {S : Nat → Int32} {ch : Nat → Nat} (hK : KS n σ N R S L ch) (x y : Int32) : ∃ σ1, fx_L_law_J88 lo (fun z0 z1 z => fx_L_law_L32 lo g z0 z1 z) (nI n) y (DG S) (nI N) x σ = some (1, σ1) := by
  have hN4 : N ≤ 4 := hK.1.1
  obtain ⟨σ1, e1, hout⟩ := p_acts x y (by omega) hK
  have neq : ∀ a : Nat, a < 100 → ¬ nI a = nI N + 1 → True := fun _ _ _ => trivial
  rw [fx_L_law_J88, e1, mm_bd_some, if_neg (show ¬ (1 : Int32) = 0 by decide)]
  have plain : ∀ {N1 L1 : Nat} {R1 : Nat → Nat → Int32} {S1 : Nat → Int32} {ch1 : Nat → Nat}, KS (n + 1) σ1 N1 R1 S1 L1 ch1 → N1 ≠ N + 1 → N1 ≤ 4 → ∃ σ3, fx_L_law_J158 lo (fun z0 z1 z => fx_L_law_L32 lo g z0 z1 z) (nI n) y (DG S) (nI N) (nI N1) 1 σ1 = some (1, σ3) := by
    intro N1 L1 R1 S1 ch1 h1 hne hle
    rw [fx_L_law_J158, if_neg (show ¬ (1 : Int32) = 0 by decide), nI_1, if_neg (fun z => hne ((nI_e (by omega) (by omega)).mp z))]
    exact l_209 hn ih h1
  rcases hout with ⟨L1, ch1, K1⟩ | ⟨S1, L1, ch1, K1⟩
  · rw [p_holds (by omega) K1, mm_bd_some, if_neg (show ¬ (1 : Int32) = 0 by decide), fx_L_law_J108, show fx_X10_count (7 : Int32) σ1 = _ from q_count (j := 7) K1 (by omega), mm_bd_some, show vCount S N L1 7 = nI N from rfl, if_neg (show ¬ (1 : Int32) = 0 by decide), if_pos rfl]
    by_cases h4 : nI N = 4
    · rw [if_pos h4]
      exact plain K1 (by omega) hN4
    · rw [if_neg h4, p_digest K1, mm_bdJ_some, cmp_self, if_pos rfl]
      exact plain K1 (by omega) hN4
  · rw [p_holds (by omega) K1, mm_bd_some, if_neg (show ¬ (1 : Int32) = 0 by decide), fx_L_law_J108, show fx_X10_count (7 : Int32) σ1 = _ from q_count (j := 7) K1 (by omega), mm_bd_some, show vCount S1 (pN N) L1 7 = nI (pN N) from rfl, if_neg (show ¬ (1 : Int32) = 0 by decide)]
    by_cases h4 : N = 4
    · subst h4
      rw [if_pos (show nI (pN 4) = nI 4 from rfl), if_pos (show nI 4 = (4 : Int32) from rfl)]
      exact plain K1 (by decide) (by decide)
    · have ep : pN N = N + 1 := if_neg h4
      rw [ep] at K1 ⊢
      have ne1 : ¬ nI (N + 1) = nI N := fun z => by
        have := (nI_e (by omega) (by omega)).mp z
        omega
      rw [if_neg ne1, fx_L_law_J144, nI_1, if_pos rfl, fx_L_law_J158, if_neg (show ¬ (1 : Int32) = 0 by decide), nI_1, if_pos rfl]
      obtain ⟨r, hr, er⟩ := p_low (y >>> ((8 : Int32) &&& 31)) (show 0 < 3 by omega) (by omega) σ1
      rw [show fx_L_low (y >>> ((8 : Int32) &&& 31)) 3 σ1 = _ from er, mm_bd_some]
      by_cases h0 : nI r = 0
      · obtain ⟨σ2, e2, K2⟩ := A_undo K1
        have eS : pR N R S N = S := by
          unfold pR
          rw [if_neg h4, if_pos rfl]
        rw [eS] at K2
        rw [if_pos h0, e2, mm_bd_some, if_pos rfl, p_digest K2, mm_bdJ_some, cmp_self, if_pos rfl, fx_L_law_J208]
        exact l_209 hn ih K2
      · rw [if_neg h0]
        exact l_209 hn ih K1
end LL
theorem l_32 {lo : Int32 → Int32} : ∀ (e n fu : Nat) (σ : mm_M) (N : Nat) (R : Nat → Nat → Int32) (S : Nat → Int32) (L : Nat) (ch : Nat → Nat), n + e = 36 → e < fu → KS n σ N R S L ch → ∃ σ1, fx_L_law_L32 lo fu 1 (nI n) σ = some (1, σ1) := by
  intro e
  induction e with
  | zero =>
    intro n fu σ N R S L ch hk hf hK
    obtain ⟨g, rfl⟩ : ∃ g, fu = g + 1 := ⟨fu - 1, by omega⟩
    rw [fx_L_law_L32, if_pos (show (36 : Int32) ≤ nI n from le_litR (a := 36) rfl (by omega) (by omega)), mm_gd_t rfl]
    exact ⟨σ, rfl⟩
  | succ e ih =>
    intro n fu σ N R S L ch hk hf hK
    obtain ⟨g, rfl⟩ : ∃ g, fu = g + 1 := ⟨fu - 1, by omega⟩
    have e2 : (2 : Int32) * nI n = nI (2 * n) := by show nI 2 * nI n = _; rw [pk_mul]
    have I : ∀ (σ : mm_M) (N : Nat) (R : Nat → Nat → Int32) (S : Nat → Int32) (L : Nat) (ch : Nat → Nat), KS (n + 1) σ N R S L ch → ∃ σ1, fx_L_law_L32 lo g 1 (nI (n + 1)) σ = some (1, σ1) := fun σ N R S L ch h => ih (n + 1) g σ N R S L ch (by omega) (by omega) h
    rw [fx_L_law_L32, if_neg (show ¬ (36 : Int32) ≤ nI n from nle_lit (x := 36) (b := 36) rfl (by omega) (by omega)), if_neg (show ¬ (1 : Int32) = 0 by decide), e2, mm_gd_t (nI_pos (by omega)), mm_li_e, nI_1, mm_gd_t (nI_pos (by omega)), mm_li_e, p_digest hK, mm_bdJ_some, show fx_X10_count (7 : Int32) σ = _ from q_count (j := 7) hK (by omega), mm_bd_some, show vCount S N L 7 = nI N from rfl]
    by_cases h3 : (3 : Int32) ≤ nI n
    · rw [if_pos h3]
      exact l_88 (by omega) I hK _ _
    · rw [if_neg h3]
      exact l_88 (by omega) I hK _ _
theorem pure_part (lo : Int32 → Int32) : ∃ rv σ1, fx_L_law lo m_s0 = some (rv, σ1) := by
  have hK := K_start
  obtain ⟨σ1, h⟩ := l_32 (lo := lo) 36 0 mm_FU m_s0 0 (fun _ _ => 0) S00 0 (fun _ => 32) (by omega) (by unfold mm_FU; omega) hK
  refine ⟨1, σ1, ?_⟩
  rw [fx_L_law, p_holds (by omega) hK, mm_bd_some, if_neg (show ¬ (1 : Int32) = 0 by decide), A_undo0 hK, mm_bd_some, if_pos rfl, fx_L_law_J29]
  exact h
