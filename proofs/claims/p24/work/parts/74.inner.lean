/-! the acting functions on one race, on both sides -/
/-- what is true of a race besides: no cart stands on a pit; the winner has touched a flag; phases and rounds add up -/
def XS (B c ph : Nat) (S : Nat → Int32) : Prop := (∀ n q, n < c → q < 64 → S (139 + 17 * n + 1) = nI q → S (11 + q) ≠ 7) ∧ (S 4 = -1 ∨ ∃ n u, n < c ∧ 0 < u ∧ u ≤ 4 ∧ S 4 = nI n ∧ S (139 + 17 * n + 4) = nI u) ∧ ∃ R, S 2 = nI R ∧ S 5 = nI (5 * R + ph) ∧ 5 * R + ph ≤ B
theorem XS.cg {B c ph : Nat} {S T : Nat → Int32} (h : XS B c ph S) (e : ∀ i, i = 2 ∨ i = 4 ∨ i = 5 ∨ (11 ≤ i ∧ i < 75) → T i = S i) (e1 : ∀ n, n < c → T (139 + 17 * n + 1) = S (139 + 17 * n + 1)) (e4 : ∀ n, n < c → T (139 + 17 * n + 4) = S (139 + 17 * n + 4)) : XS B c ph T := by
  obtain ⟨h1, h2, R, h3, h4, h5⟩ := h
  refine ⟨fun n q hn hq z => ?_, ?_, R, (e 2 (by omega)).trans h3, (e 5 (by omega)).trans h4, h5⟩
  · rw [e (11 + q) (by omega)]
    exact h1 n q hn hq ((e1 n hn).symm.trans z)
  · rcases h2 with h2 | ⟨n, u, a1, a2, a3, a4, a5⟩
    · exact Or.inl ((e 4 (by omega)).trans h2)
    · exact Or.inr ⟨n, u, a1, a2, a3, (e 4 (by omega)).trans a4, (e4 n a1).trans a5⟩
theorem XS.mono {B B2 c ph : Nat} {S : Nat → Int32} (h : XS B c ph S) (hB : B ≤ B2) : XS B2 c ph S := by
  obtain ⟨h1, h2, R, h3, h4, h5⟩ := h
  exact ⟨h1, h2, R, h3, h4, by omega⟩
def GS (B : Nat) (σ : mm_M) (r : Nat) (S : Nat → Int32) : Prop := ∃ c f ph, WF B c f S ∧ RS c f σ r S ∧ S 1 = nI ph ∧ ph < 5 ∧ XS B c ph S
def er (v : Int32) : Prop := v = -1000001 ∨ v = -1000002 ∨ v = -1000003
/-- the class's answer on a race, and the same of the numbers: what it answers (V), what it leaves (P) -/
def IB (B r : Nat) (S : Nat → Int32) (V : Int32 → Prop) (P : (Nat → Int32) → Prop) (x y : mm_R) : Prop := ∃ v σ1 μ1 S1, x = some (v, σ1) ∧ y = some (v, mw μ1 S1) ∧ V v ∧ ((∃ t, t < 1000000 ∧ v = nI t ∧ GS B σ1 r S1 ∧ P S1) ∨ (er v ∧ S1 = S))
def cN (S : Nat → Int32) : Nat := (S 0).toNatClampNeg
theorem cN_eq {B c f : Nat} {S : Nat → Int32} (h : WF B c f S) : cN S = c := by
  unfold cN
  rw [h.s0]
  exact nI_cl (by have := h.c4; omega)
def vKind (S : Nat → Int32) (a b : Int32) : Int32 := if (0 ≤ a ∧ a ≤ 63) ∧ 0 ≤ b ∧ b ≤ 8 then (if b = 7 ∧ sp_on S a.toNatClampNeg (cN S) ≠ -1 then -1000002 else S (11 + a.toNatClampNeg)) else -1000001
def vWall (S : Nat → Int32) (a b : Int32) : Int32 := if (0 ≤ a ∧ a ≤ 63) ∧ 0 ≤ b ∧ b ≤ 3 then 1 - ((S (75 + a.toNatClampNeg) >>> (b &&& 31)) &&& 1) else -1000001
def vCart (S : Nat → Int32) (a b : Int32) : Int32 := if (0 ≤ a ∧ a ≤ 63) ∧ 0 ≤ b ∧ b ≤ 3 then (if sp_on S a.toNatClampNeg (cN S) ≠ -1 ∨ S (11 + a.toNatClampNeg) = 7 then -1000002 else if S 0 = 4 then -1000003 else S 0) else -1000001
def vFlag (S : Nat → Int32) (a b : Int32) : Int32 := if (0 ≤ a ∧ a ≤ 3) ∧ 0 ≤ b ∧ b ≤ 63 then (if S 3 < a then -1000002 else if a = S 3 then S 3 + 1 else S 3) else -1000001
theorem wb0 (x : BitVec 32) (d : Nat) (hd : d < 4) : ((x ^^^ (1#32 <<< d)).sshiftRight d) &&& 1#32 = ((x.sshiftRight d) &&& 1#32) ^^^ 1#32 := by
  apply BitVec.eq_of_getLsbD_eq
  intro i hi
  rcases (show d = 0 ∨ d = 1 ∨ d = 2 ∨ d = 3 by omega) with rfl | rfl | rfl | rfl <;> by_cases h0 : i = 0 <;> rw [BitVec.getLsbD_and, BitVec.getLsbD_xor, BitVec.getLsbD_and, BitVec.getLsbD_sshiftRight, BitVec.getLsbD_sshiftRight, BitVec.getLsbD_xor] <;> simp [h0]
theorem wb1 (x : Int32) (m : Int32) {d : Nat} (hd : d < 4) (hm : m = nI d &&& 31) : ((x ^^^ ((1 : Int32) <<< m)) >>> m) &&& 1 = ((x >>> m) &&& 1) ^^^ 1 := by
  apply Int32.toBitVec_inj.mp
  rcases (show d = 0 ∨ d = 1 ∨ d = 2 ∨ d = 3 by omega) with rfl | rfl | rfl | rfl
  · rw [show m = 0 from hm.trans (by decide)]; exact wb0 x.toBitVec 0 (by omega)
  · rw [show m = 1 from hm.trans (by decide)]; exact wb0 x.toBitVec 1 (by omega)
  · rw [show m = 2 from hm.trans (by decide)]; exact wb0 x.toBitVec 2 (by omega)
  · rw [show m = 3 from hm.trans (by decide)]; exact wb0 x.toBitVec 3 (by omega)
theorem wb (x : Int32) {d : Nat} (hd : d < 4) : ((x ^^^ ((1 : Int32) <<< (nI d &&& 31))) >>> (nI d &&& 31)) &&& 1 = 1 - ((x >>> (nI d &&& 31)) &&& 1) := by
  rw [wb1 x _ hd rfl]
  rcases and1 (x >>> (nI d &&& 31)) with h | h
  · rw [h]; decide
  · rw [h]; decide
theorem cell64 {q : Nat} (hq : q ≤ 63) : (0 : Int32) ≤ nI q ∧ nI q ≤ 63 := ⟨nI_pos' (by omega), (nI_g (b := 63) (by omega) (by omega)).mpr hq⟩
theorem in_nat {x : Int32} {N : Nat} (hN : N < 1000000) (h : 0 ≤ x ∧ x ≤ nI N) : ∃ k, k ≤ N ∧ x = nI k := by
  obtain ⟨k, hk, e⟩ := i32_isN (N := N + 1) (Int32.not_lt.mpr h.1) ((i32_le_iff x N hN).mp h.2) (by omega)
  exact ⟨k, by omega, e⟩
/-- one of the board's numbers -/
theorem RS.board {c f r t b k N : Nat} {σ : mm_M} {S : Nat → Int32} (h : RS c f σ r S) (hc : c ≤ 4) (hf : f ≤ 4) (hk : k < N) (ht : (t = 2 ∧ b = 11 ∧ N = 64) ∨ (t = 3 ∧ b = 75 ∧ N = 64) ∨ (t = 4 ∧ b = 7 ∧ N = 4)) (v : Int32) : RS c f (mm_u σ r t 0 k v) r (upd S (b + k) v) := by
  have U : ∀ t1 n1 i1, ¬ (t1 = t ∧ n1 = 0 ∧ i1 = k) → mm_u σ r t 0 k v r t1 n1 i1 = σ r t1 n1 i1 := fun t1 n1 i1 hh => by rw [mm_u_ap, if_neg (by omega)]
  have V : ∀ i, i ≠ b + k → upd S (b + k) v i = S i := fun i hh => pk_un hh
  have X : ∀ t1 b1 k1, (t1 = t ∧ b1 = b) ∨ (t1 ≠ t ∧ b1 + k1 ≠ b + k) → σ r t1 0 k1 = S (b1 + k1) → mm_u σ r t 0 k v r t1 0 k1 = upd S (b + k) v (b1 + k1) := by
    intro t1 b1 k1 hh e
    by_cases hx : t1 = t ∧ k1 = k
    · obtain ⟨rfl, rfl⟩ := hx
      have : b1 = b := by omega
      subst this
      rw [mm_u_ap, if_pos ⟨rfl, rfl, rfl, rfl⟩, pk_us]
    · rw [U _ _ _ (by omega), V _ (by omega)]; exact e
  obtain ⟨h1, h2, h3, h4, h5, h6, h7, h8, h9, h10, h11, h12⟩ := h
  refine ⟨?_, ?_, ?_, ?_, ?_, ?_, ?_, fun k2 hk2 => X 2 11 k2 (by omega) (h8 k2 hk2), fun k2 hk2 => X 3 75 k2 (by omega) (h9 k2 hk2), fun k2 hk2 => X 4 7 k2 (by omega) (h10 k2 hk2), fun m hm => ⟨fun k2 hk2 => ?_, fun j hj => ⟨?_, fun h0 => ?_⟩⟩, fun m hm hm4 => ⟨fun k a b => ?_, fun j hj => ?_⟩⟩
  · rw [U _ _ _ (by omega), V _ (by omega)]; exact h1
  · rw [U _ _ _ (by omega), V _ (by omega)]; exact h2
  · rw [U _ _ _ (by omega), V _ (by omega)]; exact h3
  · rw [U _ _ _ (by omega), V _ (by omega)]; exact h4
  · rw [U _ _ _ (by omega), V _ (by omega)]; exact h5
  · rw [U _ _ _ (by omega), V _ (by omega)]; exact h6
  · rw [U _ _ _ (by omega), V _ (by omega)]; exact h7
  · rw [U _ _ _ (by omega), V _ (by omega)]; exact (h11 m hm).1 k2 hk2
  · rw [U _ _ _ (by omega), V _ (by omega)]; exact ((h11 m hm).2 j hj).1
  · rw [V _ (by omega)] at h0
    rw [U _ _ _ (by omega), V _ (by omega)]; exact ((h11 m hm).2 j hj).2 h0
  · rw [U _ _ _ (by omega)]; exact (h12 m hm hm4).1 k a b
  · rw [U _ _ _ (by omega)]; exact (h12 m hm hm4).2 j hj
theorem WF.board {B c f i : Nat} {S : Nat → Int32} (h : WF B c f S) (hi : 7 ≤ i) (hi2 : i < 139) {v : Int32} (hv : i < 11 → isN v 64) (hv2 : 11 ≤ i → i < 75 → isN v 9) : WF B c f (upd S i v) := by
  have V : ∀ k, k ≠ i → upd S i v k = S k := fun i hh => pk_un hh
  obtain ⟨h1, h2, h3, h4, h5, h6, h7, h8, h9⟩ := h
  refine ⟨h1, h2, ?_, ?_, ?_, fun k hk => ?_, fun k hk => ?_, fun n hn => ?_, fun n m hn hm hne => ?_⟩
  · rw [V _ (by omega)]; exact h3
  · rw [V _ (by omega)]; exact h4
  · rw [V _ (by omega)]; exact h5
  · by_cases e : 7 + k = i
    · rw [e, pk_us]; exact hv (by omega)
    · rw [V _ e]; exact h6 k hk
  · by_cases e : 11 + k = i
    · rw [e, pk_us]; exact hv2 (by omega) (by omega)
    · rw [V _ e]; exact h7 k hk
  · exact (h8 n hn).same (by omega) (fun k hk => V _ (by omega))
  · rw [V _ (by omega), V _ (by omega)]; exact h9 n m hn hm hne
theorem kind_both {B r : Nat} {a b : Int32} {σ μ : mm_M} {S : Nat → Int32} (hG : GS B σ r S) : IB B r S (fun v => v = vKind S a b) (fun _ => True) (fx_X8_setKind r a b σ) (fx_X11_kinds a b (mw μ S)) := by
  obtain ⟨c, f, ph, hW, hR, hp, hph, hX⟩ := hG
  have hc4 := hW.c4
  have hcN := cN_eq hW
  rw [fx_X8_setKind, cc_isCell, mm_bd_some, fx_X11_kinds, md_isCell, mm_bd_some]
  by_cases ha : (0 : Int32) ≤ a ∧ a ≤ 63
  · rw [if_pos ha, if_neg (show ¬ (1 : Int32) = 0 by decide), if_neg (show ¬ (1 : Int32) = 0 by decide), cc_isWithin, mm_bd_some, md_in, mm_bd_some]
    by_cases hb : (0 : Int32) ≤ b ∧ b ≤ 8
    · rw [if_pos hb, if_neg (show ¬ (1 : Int32) = 0 by decide), if_neg (show ¬ (1 : Int32) = 0 by decide)]
      obtain ⟨q, hq, rfl⟩ := in_nat (N := 63) (by omega) ha
      obtain ⟨k, hk, rfl⟩ := in_nat (N := 8) (by omega) hb
      have e11 : (11 : Int32) + nI q = nI (11 + q) := by show nI 11 + nI q = _; rw [nI_add]
      have hqc : (nI q).toNatClampNeg = q := nI_cl (by omega)
      have fin : (nI k = 7 → ∀ n, n < c → S (139 + 17 * n + 1) ≠ nI q) → IB B r S (fun v => v = vKind S (nI q) (nI k)) (fun _ => True) (fx_X8_setKind_J38 r (nI q) (nI k) σ) (fx_X11_kinds_J37 (nI q) (nI k) (mw μ S)) := by
        intro hfree
        obtain ⟨j, hj, ej⟩ := hW.kd (k := q) (by omega)
        refine ⟨S (11 + q), mm_u σ r 2 0 q (nI k), μ, upd S (11 + q) (nI k), ?_, ?_, ?_, Or.inl ⟨j, by omega, ej, ⟨c, f, ph, hW.board (by omega) (by omega) (fun z => absurd z (by omega)) (fun _ _ => ⟨k, by omega, rfl⟩), hR.board (t := 2) (b := 11) (N := 64) hc4 hW.f4 (by omega) (by omega) _, (pk_un (by omega)).trans hp, hph, ?_⟩, trivial⟩⟩
        · rw [fx_X8_setKind_J38, mm_gd_t (mm_ix_n (by omega) (by omega)), mm_li_e, mm_gd_t (mm_ix_n (by omega) (by omega)), mm_lt_e, nI_cl (by omega), hR.kd (by omega)]
        · rw [fx_X11_kinds_J37, e11, mm_gd_t (mm_ix_n (by omega) (by omega)), mm_li_e, mm_gd_t (mm_ix_n (by omega) (by omega)), mm_lt_e, nI_cl (by omega), mw_row, mw_u]
        · show S (11 + q) = vKind S (nI q) (nI k)
          unfold vKind
          rw [if_pos ⟨cell64 hq, nI_pos' (by omega), (nI_g (b := 8) (by omega) (by omega)).mpr hk⟩, hqc, if_neg]
          rintro ⟨z1, z2⟩
          rcases sp_on_spec S q c hc4 with ⟨x, _⟩ | ⟨m, hm, _, y⟩
          · exact z2 (by rw [hcN]; exact x)
          · exact hfree z1 m hm y
        · obtain ⟨x1, x2, R, x3, x4, x5⟩ := hX
          refine ⟨fun n q1 hn hq1 z => ?_, ?_, R, (pk_un (by omega)).trans x3, (pk_un (by omega)).trans x4, x5⟩
          · have z2 : S (139 + 17 * n + 1) = nI q1 := (pk_un (show 139 + 17 * n + 1 ≠ 11 + q by omega)).symm.trans z
            by_cases hqq : q1 = q
            · subst hqq
              rw [pk_us]
              exact fun w => hfree w n hn z2
            · rw [pk_un (by omega)]
              exact x1 n q1 hn hq1 z2
          · rcases x2 with x2 | ⟨n, u, a1, a2, a3, a4, a5⟩
            · exact Or.inl ((pk_un (by omega)).trans x2)
            · exact Or.inr ⟨n, u, a1, a2, a3, (pk_un (by omega)).trans a4, (pk_un (by omega)).trans a5⟩
      by_cases h7 : nI k = (7 : Int32)
      · rw [if_pos h7, if_pos h7, cc_cartOn hW hR rfl (by omega), mm_bd_some, mo_cartOn μ S rfl hW.s0 hc4, mm_bd_some]
        rcases sp_on_spec S q c hc4 with ⟨x, y⟩ | ⟨m, hm, x, y⟩
        · rw [x, if_pos rfl, if_pos m1_lt0]
          exact fin (fun _ => y)
        · rw [x, if_neg (nI_m1 (by omega)), if_neg (nI_pos (by omega))]
          refine ⟨_, σ, μ, S, rfl, rfl, ?_, Or.inr ⟨Or.inr (Or.inl rfl), rfl⟩⟩
          show (-1000002 : Int32) = vKind S (nI q) (nI k)
          unfold vKind
          rw [if_pos ⟨cell64 hq, nI_pos' (by omega), (nI_g (b := 8) (by omega) (by omega)).mpr hk⟩, hqc, hcN, if_pos ⟨h7, by rw [x]; exact nI_m1 (by omega)⟩]
      · rw [if_neg h7, if_neg h7]
        exact fin (fun z => absurd z h7)
    · rw [if_neg hb, if_pos rfl, if_pos rfl]
      exact ⟨_, σ, μ, S, rfl, rfl, (by show _ = vKind S a b; unfold vKind; rw [if_neg (fun z => hb z.2)]), Or.inr ⟨Or.inl rfl, rfl⟩⟩
  · rw [if_neg ha, if_pos rfl, if_pos rfl]
    exact ⟨_, σ, μ, S, rfl, rfl, (by show _ = vKind S a b; unfold vKind; rw [if_neg (fun z => ha z.1)]), Or.inr ⟨Or.inl rfl, rfl⟩⟩
theorem cc_flip {c f r q d : Nat} {σ : mm_M} {S : Nat → Int32} (hR : RS c f σ r S) (hc : c ≤ 4) (hf : f ≤ 4) (hq : q < 64) : ∃ σ1, fx_X1_flipSide r (nI q) (nI d) σ = some (0, σ1) ∧ RS c f σ1 r (upd S (75 + q) (S (75 + q) ^^^ ((1 : Int32) <<< (nI d &&& 31)))) := by
  rw [fx_X1_flipSide, if_neg (cell_nI hq).1, if_neg (cell_nI hq).2, mm_gd_t (mm_ix_n hq (by omega)), mm_gd_t (mm_ix_n hq (by omega)), mm_lt_e, nI_cl (by omega), hR.wl hq]
  exact ⟨_, rfl, hR.board (t := 3) (b := 75) (N := 64) hc hf hq (by omega) _⟩
theorem wall_both {B r : Nat} {a b : Int32} {σ μ : mm_M} {S : Nat → Int32} (hG : GS B σ r S) : IB B r S (fun v => v = vWall S a b) (fun _ => True) (fx_X8_flipWall r a b σ) (fx_X11_walls a b (mw μ S)) := by
  obtain ⟨c, f, ph, hW, hR, hp, hph, hX⟩ := hG
  have hc4 := hW.c4
  have hf4 := hW.f4
  rw [fx_X8_flipWall, cc_isCell, mm_bd_some, fx_X11_walls, md_isCell, mm_bd_some]
  by_cases ha : (0 : Int32) ≤ a ∧ a ≤ 63
  · rw [if_pos ha, if_neg (show ¬ (1 : Int32) = 0 by decide), if_neg (show ¬ (1 : Int32) = 0 by decide), cc_isDirection, mm_bd_some, md_in, mm_bd_some]
    by_cases hb : (0 : Int32) ≤ b ∧ b ≤ 3
    · rw [if_pos hb, if_neg (show ¬ (1 : Int32) = 0 by decide), if_neg (show ¬ (1 : Int32) = 0 by decide)]
      obtain ⟨q, hq, rfl⟩ := in_nat (N := 63) (by omega) ha
      obtain ⟨d, hd, rfl⟩ := in_nat (N := 3) (by omega) hb
      have e75 : ∀ q, (75 : Int32) + nI q = nI (75 + q) := fun q => by show nI 75 + nI q = _; rw [nI_add]
      obtain ⟨σ1, e1, hR1⟩ := cc_flip (d := d) hR hc4 hf4 (q := q) (by omega)
      have hW1 : WF B c f (upd S (75 + q) (S (75 + q) ^^^ ((1 : Int32) <<< (nI d &&& 31)))) := hW.board (by omega) (by omega) (fun z => absurd z (by omega)) (fun _ z => absurd z (by omega))
      have p1 : upd S (75 + q) (S (75 + q) ^^^ ((1 : Int32) <<< (nI d &&& 31))) 1 = nI ph := (pk_un (by omega)).trans hp
      have tc : (nI d + (2 : Int32)) &&& 3 = nI ((d + 2) % 4) := turn_c (a := d) (b := 2) (by omega) (by omega)
      have tm : (nI d + (2 : Int32)) - (nI d + (2 : Int32)) / 4 * 4 = nI ((d + 2) % 4) := turn_m (a := d) (b := 2) (by omega) (by omega)
      have hqc : (nI q).toNatClampNeg = q := nI_cl (by omega)
      have hval : vWall S (nI q) (nI d) = 1 - ((S (75 + q) >>> (nI d &&& 31)) &&& 1) := by
        unfold vWall
        rw [if_pos ⟨cell64 hq, nI_pos' (by omega), (nI_g (b := 3) (by omega) (by omega)).mpr hd⟩, hqc]
      have fin : ∀ (σ2 : mm_M) (T : Nat → Int32), WF B c f T → RS c f σ2 r T → T 1 = nI ph → (∀ i, ¬ (75 ≤ i ∧ i < 139) → T i = S i) → T (75 + q) = S (75 + q) ^^^ ((1 : Int32) <<< (nI d &&& 31)) → IB B r S (fun v => v = vWall S (nI q) (nI d)) (fun _ => True) (mm_bd (fx_X1_hasWall r (nI q) (nI d) σ2) fun r_6 s_6 => (if r_6 = (0 : Int32) then some ((0 : Int32), s_6) else some ((1 : Int32), s_6))) (fx_X11_walls_J63 (nI q) (nI d) (mw μ T)) := by
        intro σ2 T hW2 hR2 hp2 hT hTq
        have hX2 : XS B c ph T := hX.cg (fun i _ => hT i (by omega)) (fun n _ => hT _ (by omega)) (fun n _ => hT _ (by omega))
        have hbit := wb (S (75 + q)) (show d < 4 by omega)
        rw [← hTq] at hbit
        rw [cc_hasWall r σ2 rfl (show q < 64 by omega), mm_bd_some, hR2.wl (by omega), fx_X11_walls_J63, e75, mm_gd_t (mm_ix_n (by omega) (by omega)), nI_cl (by omega), mw_row]
        rcases and1 (T (75 + q) >>> (nI d &&& 31)) with h | h
        · rw [h, if_pos rfl, if_pos rfl]
          exact ⟨0, σ2, μ, T, rfl, rfl, (by show (0 : Int32) = _; rw [hval, ← hbit, h]), Or.inl ⟨0, by omega, rfl, ⟨c, f, ph, hW2, hR2, hp2, hph, hX2⟩, trivial⟩⟩
        · rw [h, if_neg (show ¬ (1 : Int32) = 0 by decide), if_neg (show ¬ (1 : Int32) = 0 by decide)]
          exact ⟨1, σ2, μ, T, rfl, rfl, (by show (1 : Int32) = _; rw [hval, ← hbit, h]), Or.inl ⟨1, by omega, rfl, ⟨c, f, ph, hW2, hR2, hp2, hph, hX2⟩, trivial⟩⟩
      rw [fx_X1_flipWall, e1, mm_bd_some, cc_neighbour σ1 rfl rfl (by omega) (by omega), mm_bd_some, fx_X10_turned, mm_bd_some, tc, e75, mm_gd_t (mm_ix_n (by omega) (by omega)), mm_gd_t (mm_ix_n (by omega) (by omega)), mm_lt_e, nI_cl (by omega), mw_row, mw_u, md_next _ rfl rfl (by omega) (by omega), mm_bd_some]
      rcases sp_nx_in (q := q) (d := d) (by omega) with hN | ⟨q2, hq2, hN⟩
      · rw [hN, fx_X1_flipSide, if_pos m1_lt0, mm_bd_some, mm_bd_some, if_pos m1_lt0]
        exact fin σ1 _ hW1 hR1 p1 (fun i hi => pk_un (by omega)) pk_us
      · obtain ⟨σ2, e2, hR2⟩ := cc_flip (d := (d + 2) % 4) hR1 hc4 hf4 hq2
        have hqne : q2 ≠ q := fun z => nx_ne (q := q) (d := d) (by omega) (by omega) (by rw [hN, z])
        rw [hN, e2, mm_bd_some, mm_bd_some, if_neg (nI_pos (by omega)), e75, mm_gd_t (mm_ix_n (by omega) (by omega)), mm_gd_t (mm_ix_n (by omega) (by omega)), mm_lt_e, nI_cl (by omega), mw_row, mw_u, tm]
        exact fin σ2 _ (hW1.board (by omega) (by omega) (fun z => absurd z (by omega)) (fun _ z => absurd z (by omega))) hR2 ((pk_un (by omega)).trans p1) (fun i hi => (pk_un (by omega)).trans (pk_un (by omega))) ((pk_un (by omega)).trans pk_us)
    · rw [if_neg hb, if_pos rfl, if_pos rfl]
      exact ⟨_, σ, μ, S, rfl, rfl, (by show _ = vWall S a b; unfold vWall; rw [if_neg (fun z => hb z.2)]), Or.inr ⟨Or.inl rfl, rfl⟩⟩
  · rw [if_neg ha, if_pos rfl, if_pos rfl]
    exact ⟨_, σ, μ, S, rfl, rfl, (by show _ = vWall S a b; unfold vWall; rw [if_neg (fun z => ha z.1)]), Or.inr ⟨Or.inl rfl, rfl⟩⟩
/-- a phase keeps what is true of a race besides -/
theorem XS.run {B c f f2 r ph ph2 : Nat} {σ σ1 : mm_M} {S S1 : Nat → Int32} (hX : XS B c ph S) (hc : c ≤ 4) (hB : B < 200000) (hR : RS c f σ r S) (hR1 : RS c f2 σ1 r S1) (hs0 : S 0 = nI c) (hp : S 1 = nI ph) (hph : ph < 5) (hp2 : ph2 = if ph < 4 then ph + 1 else 0) (h : R2 r σ σ1) : XS (B + 1) c ph2 S1 ∧ S1 5 = S 5 + 1 ∧ ∀ n, n < c → S1 (139 + 17 * n + 4) = S (139 + 17 * n + 4) ∨ ∃ t u, t ≤ u ∧ u ≤ 4 ∧ S (139 + 17 * n + 4) = nI t ∧ S1 (139 + 17 * n + 4) = nI u := by
  obtain ⟨x1, x2, R, x3, x4, x5⟩ := hX
  obtain ⟨a1, a2, a3, a4, a5, a6⟩ := h
  obtain ⟨h1, hp3, h3, h4, h5, h6, h7, h8, h9, h10, h11, h12⟩ := hR
  obtain ⟨g1, g2, g3, g4, g5, g6, g7, g8, g9, g10, g11, g12⟩ := hR1
  have e5 : S1 5 = S 5 + 1 := by rw [← g4, ← h4]; exact a5
  have q : ∀ n, n < c → S1 (139 + 17 * n + 4) = S (139 + 17 * n + 4) ∨ ∃ t u, t ≤ u ∧ u ≤ 4 ∧ S (139 + 17 * n + 4) = nI t ∧ S1 (139 + 17 * n + 4) = nI u := fun n hn => by
    have s1 := (h11 n hn).1 4 (by omega)
    have s2 := (g11 n hn).1 4 (by omega)
    rcases a3 n with e | ⟨t, u, b1, b2, b3, b4, b5⟩
    · exact Or.inl (s2.symm.trans (e.trans s1))
    · exact Or.inr ⟨t, u, b1, b3, s1.symm.trans b4, s2.symm.trans b5⟩
  have hc0 : σ r 0 0 2 = nI c := h1.trans hs0
  refine ⟨⟨fun n q1 hn hq z => ?_, ?_, ?_⟩, e5, q⟩
  · have s1 := (h11 n hn).1 1 (by omega)
    have s2 := (g11 n hn).1 1 (by omega)
    rw [← g8 q1 hq, a2 2 0 q1 (Or.inl rfl)]
    rcases a1 n with e | e
    · rw [h8 q1 hq]
      exact x1 n q1 hn hq (s1.symm.trans (e.symm.trans (s2.trans z)))
    · exact e q1 hq (s2.trans z)
  · have w : WQ r σ := by
      rcases x2 with x2 | ⟨n, u, b1, b2, b3, b4, b5⟩
      · exact Or.inl (h6.trans x2)
      · exact Or.inr ⟨n, u, by omega, b2, b3, h6.trans b4, by rw [hc0]; exact (nI_lt2 (by omega) (by omega)).mpr b1, ((h11 n b1).1 4 (by omega)).trans b5⟩
    rcases a4 w with e | ⟨n, u, b1, b2, b3, b4, b5, b6⟩
    · exact Or.inl (g6.symm.trans e)
    · rw [a2 0 0 2 (by omega), hc0] at b5
      have hn := (nI_lt2 (by omega) (by omega)).mp b5
      exact Or.inr ⟨n, u, hn, b2, b3, g6.symm.trans b4, ((g11 n hn).1 4 (by omega)).symm.trans b6⟩
  · have e3 : σ r 0 0 3 = nI ph := hp3.trans hp
    rw [e3, nI_1] at a6
    rcases a6 with ⟨c1, c2, c3⟩ | ⟨c1, c2, c3⟩
    · have h4 : ph = 4 := by
        have := (nI_e (a := ph + 1) (b := 5) (by omega) (by omega)).mp c1
        omega
      subst h4
      rw [if_neg (by omega)] at hp2
      subst hp2
      refine ⟨R + 1, ?_, ?_, by omega⟩
      · rw [← g3, c3, h3, x3, nI_1]
      · rw [e5, x4, nI_1]
        congr 1
    · have h4 : ph < 4 := by
        rcases Nat.lt_or_ge ph 4 with z | z
        · exact z
        · exact absurd (show nI (ph + 1) = 5 by rw [show ph + 1 = 5 by omega]; rfl) c1
      rw [if_pos h4] at hp2
      subst hp2
      refine ⟨R, ?_, ?_, by omega⟩
      · rw [← g3, c3, h3, x3]
      · rw [e5, x4, nI_1]
        congr 1
def TM (c : Nat) (S S1 : Nat → Int32) : Prop := ∀ n, n < c → S1 (139 + 17 * n + 4) = S (139 + 17 * n + 4) ∨ ∃ t u, t ≤ u ∧ u ≤ 4 ∧ S (139 + 17 * n + 4) = nI t ∧ S1 (139 + 17 * n + 4) = nI u
theorem TM.trans {c : Nat} {S T U : Nat → Int32} (h : TM c S T) (h2 : TM c T U) : TM c S U := fun n hn => by
  rcases h2 n hn with e | ⟨t, u, a1, a2, a3, a4⟩
  · rcases h n hn with e1 | ⟨t, u, a1, a2, a3, a4⟩
    · exact Or.inl (e.trans e1)
    · exact Or.inr ⟨t, u, a1, a2, a3, e.trans a4⟩
  · rcases h n hn with e1 | ⟨t2, u2, b1, b2, b3, b4⟩
    · exact Or.inr ⟨t, u, a1, a2, e1.symm.trans a3, a4⟩
    · by_cases ht : t < 1000000
      · have := (nI_e (by omega) ht).mp (b4.symm.trans a3)
        subst this
        exact Or.inr ⟨t2, u, by omega, a2, b3, a4⟩
      · omega
/-- a phase, with what it does besides -/
theorem phase_x {B c f r ph : Nat} {S : Nat → Int32} {σ μ : mm_M} (hW : WF B c f S) (hr : r < 6) (hp : S 1 = nI ph) (hph : ph < 5) (hR : RS c f σ r S) (h0 : 0 < c) (hB : B < 200000) (hX : XS B c ph S) : ∃ t S1 σ1 μ1, t ≤ 4 * (B + 2) ∧ fx_X7_runNext r σ = some (nI t, σ1) ∧ fx_X11_passes (mw μ S) = some (nI t, mw μ1 S1) ∧ WF (B + 1) c f S1 ∧ RS c f σ1 r S1 ∧ S1 1 = nI (if ph < 4 then ph + 1 else 0) ∧ XS (B + 1) c (if ph < 4 then ph + 1 else 0) S1 ∧ S1 5 = S 5 + 1 ∧ TM c S S1 := by
  obtain ⟨t, S1, σ1, μ1, ht, e1, e2, hW1, hR1, hp1, _⟩ := phase_both (μ := μ) hW hr hp hph hR h0 (by omega)
  have hc0 : σ r 0 0 2 = nI c := hR.s0.trans hW.s0
  have hne : σ r 0 0 2 ≠ 0 := by
    rw [hc0]
    have := hW.c4
    exact fun z => absurd ((nI_e (a := c) (b := 0) (by omega) (by omega)).mp z) (by omega)
  obtain ⟨y1, y2, y3⟩ := hX.run hW.c4 hB hR hR1 hW.s0 hp hph rfl (run_R2 hne e1)
  refine ⟨t, S1, σ1, μ1, ht, e1, e2, hW1, hR1, ?_, y1, y2, y3⟩
  rcases hp1 with ⟨a, b⟩ | ⟨a, b⟩
  · rw [if_pos a]; exact b
  · rw [if_neg (by omega)]; exact b
def vRun (S : Nat → Int32) (v : Int32) : Prop := if S 0 = 0 then v = -1000002 else 0 ≤ v
theorem run_both {B r : Nat} {σ μ : mm_M} {S : Nat → Int32} (hr : r < 6) (hB : B < 200000) (hG : GS B σ r S) : IB (B + 1) r S (vRun S) (fun S1 => S1 5 = S 5 + 1) (fx_X7_runNext r σ) (fx_X11_phases (mw μ S)) := by
  obtain ⟨c, f, ph, hW, hR, hp, hph, hX⟩ := hG
  have hc0 : σ r 0 0 2 = nI c := hR.s0.trans hW.s0
  have hc1 : mw μ S 10 31 0 (0 : Int32).toNatClampNeg = nI c := by rw [mw_row]; exact hW.s0
  have hc4 := hW.c4
  by_cases h0 : c = 0
  · subst h0
    rw [fx_X7_runNext, hc0, if_pos (show nI 0 = (0 : Int32) from rfl), fx_X11_phases, hc1, if_pos (show nI 0 = (0 : Int32) from rfl)]
    exact ⟨_, σ, μ, S, rfl, rfl, (by unfold vRun; rw [if_pos (show S 0 = 0 from hW.s0)]), Or.inr ⟨Or.inr (Or.inl rfl), rfl⟩⟩
  · obtain ⟨t, S1, σ1, μ1, ht, e1, e2, hW1, hR1, hp1, hX1, e5, _⟩ := phase_x (μ := μ) hW hr hp hph hR (by omega) hB hX
    have hne : ¬ nI c = (0 : Int32) := ne_lit (b := 0) rfl h0 (by omega) (by omega)
    rw [e1, fx_X11_phases, hc1, if_neg hne, e2, mm_bd_some]
    refine ⟨_, σ1, μ1, S1, rfl, rfl, ?_, Or.inl ⟨t, by omega, rfl, ⟨c, f, if ph < 4 then ph + 1 else 0, hW1, hR1, hp1, ?_, hX1⟩, e5⟩⟩
    · unfold vRun
      rw [hW.s0, if_neg hne]
      exact nI_pos' (by omega)
    · split <;> omega
