/-! the acting functions on one race, on both sides -/
def GS (B : Nat) (σ : mm_M) (r : Nat) (S : Nat → Int32) : Prop := ∃ c f ph, WF B c f S ∧ RS c f σ r S ∧ S 1 = nI ph ∧ ph < 5
def er (v : Int32) : Prop := v = -1000001 ∨ v = -1000002 ∨ v = -1000003
def IB (B r : Nat) (S : Nat → Int32) (x y : mm_R) : Prop := ∃ v σ1 μ1 S1, x = some (v, σ1) ∧ y = some (v, mw μ1 S1) ∧ ((∃ t, t < 1000000 ∧ v = nI t ∧ GS B σ1 r S1) ∨ (er v ∧ S1 = S))
theorem in_nat {x : Int32} {N : Nat} (hN : N < 1000000) (h : 0 ≤ x ∧ x ≤ nI N) : ∃ k, k ≤ N ∧ x = nI k := by
  obtain ⟨k, hk, e⟩ := i32_isN (N := N + 1) (Int32.not_lt.mpr h.1) ((i32_le_iff x N hN).mp h.2) (by omega)
  exact ⟨k, by omega, e⟩
/-- one of the board's numbers -/
theorem RS.board {c f r t b k N : Nat} {σ : mm_M} {S : Nat → Int32} (h : RS c f σ r S) (hc : c ≤ 4) (hf : f ≤ 4) (hk : k < N) (ht : (t = 2 ∧ b = 11 ∧ N = 64) ∨ (t = 3 ∧ b = 75 ∧ N = 64) ∨ (t = 4 ∧ b = 7 ∧ N = 4)) (v : Int32) : RS c f (mm_u σ r t 0 k v) r (upd S (b + k) v) := by
  have U : ∀ t1 n1 i1, ¬ (t1 = t ∧ n1 = 0 ∧ i1 = k) → mm_u σ r t 0 k v r t1 n1 i1 = σ r t1 n1 i1 := fun t1 n1 i1 hh => by rw [mm_u_ap, if_neg (by omega)]
  have V : ∀ i, i ≠ b + k → upd S (b + k) v i = S i := fun i hh => pk_un hh
  have X : ∀ t1 b1 k1, (t1 = t ∧ b1 = b) ∨ (t1 ≠ t ∧ b1 + k1 ≠ b + k) → σ r t1 0 k1 = S (b1 + k1) → mm_u σ r t 0 k v r t1 0 k1 = upd S (b + k) v (b1 + k1) := by
    intro t1 b1 k1 hh e
    by_cases hx : t1 = t ∧ k1 = k
    · obtain ⟨rfl, rfl⟩ := hx
      have : b1 = b := by omega
      subst this
      rw [mm_u_ap, if_pos ⟨rfl, rfl, rfl, rfl⟩, pk_us]
    · rw [U _ _ _ (by omega), V _ (by omega)]; exact e
  obtain ⟨h1, h2, h3, h4, h5, h6, h7, h8, h9, h10, h11, h12⟩ := h
  refine ⟨?_, ?_, ?_, ?_, ?_, ?_, ?_, fun k2 hk2 => X 2 11 k2 (by omega) (h8 k2 hk2), fun k2 hk2 => X 3 75 k2 (by omega) (h9 k2 hk2), fun k2 hk2 => X 4 7 k2 (by omega) (h10 k2 hk2), fun m hm => ⟨fun k2 hk2 => ?_, fun j hj => ⟨?_, fun h0 => ?_⟩⟩, fun m hm hm4 => ⟨fun k a b => ?_, fun j hj => ?_⟩⟩
  · rw [U _ _ _ (by omega), V _ (by omega)]; exact h1
  · rw [U _ _ _ (by omega), V _ (by omega)]; exact h2
  · rw [U _ _ _ (by omega), V _ (by omega)]; exact h3
  · rw [U _ _ _ (by omega), V _ (by omega)]; exact h4
  · rw [U _ _ _ (by omega), V _ (by omega)]; exact h5
  · rw [U _ _ _ (by omega), V _ (by omega)]; exact h6
  · rw [U _ _ _ (by omega), V _ (by omega)]; exact h7
  · rw [U _ _ _ (by omega), V _ (by omega)]; exact (h11 m hm).1 k2 hk2
  · rw [U _ _ _ (by omega), V _ (by omega)]; exact ((h11 m hm).2 j hj).1
  · rw [V _ (by omega)] at h0
    rw [U _ _ _ (by omega), V _ (by omega)]; exact ((h11 m hm).2 j hj).2 h0
  · rw [U _ _ _ (by omega)]; exact (h12 m hm hm4).1 k a b
  · rw [U _ _ _ (by omega)]; exact (h12 m hm hm4).2 j hj
theorem WF.board {B c f i : Nat} {S : Nat → Int32} (h : WF B c f S) (hi : 7 ≤ i) (hi2 : i < 139) {v : Int32} (hv : i < 11 → isN v 64) (hv2 : 11 ≤ i → i < 75 → isN v 9) : WF B c f (upd S i v) := by
  have V : ∀ k, k ≠ i → upd S i v k = S k := fun i hh => pk_un hh
  obtain ⟨h1, h2, h3, h4, h5, h6, h7, h8, h9⟩ := h
  refine ⟨h1, h2, ?_, ?_, ?_, fun k hk => ?_, fun k hk => ?_, fun n hn => ?_, fun n m hn hm hne => ?_⟩
  · rw [V _ (by omega)]; exact h3
  · rw [V _ (by omega)]; exact h4
  · rw [V _ (by omega)]; exact h5
  · by_cases e : 7 + k = i
    · rw [e, pk_us]; exact hv (by omega)
    · rw [V _ e]; exact h6 k hk
  · by_cases e : 11 + k = i
    · rw [e, pk_us]; exact hv2 (by omega) (by omega)
    · rw [V _ e]; exact h7 k hk
  · exact (h8 n hn).same (by omega) (fun k hk => V _ (by omega))
  · rw [V _ (by omega), V _ (by omega)]; exact h9 n m hn hm hne
theorem kind_both {B r : Nat} {a b : Int32} {σ μ : mm_M} {S : Nat → Int32} (hG : GS B σ r S) : IB B r S (fx_X8_setKind r a b σ) (fx_X11_kinds a b (mw μ S)) := by
  obtain ⟨c, f, ph, hW, hR, hp, hph⟩ := hG
  have hc4 := hW.c4
  rw [fx_X8_setKind, cc_isCell, mm_bd_some, fx_X11_kinds, md_isCell, mm_bd_some]
  by_cases ha : (0 : Int32) ≤ a ∧ a ≤ 63
  · rw [if_pos ha, if_neg (show ¬ (1 : Int32) = 0 by decide), if_neg (show ¬ (1 : Int32) = 0 by decide), cc_isWithin, mm_bd_some, md_in, mm_bd_some]
    by_cases hb : (0 : Int32) ≤ b ∧ b ≤ 8
    · rw [if_pos hb, if_neg (show ¬ (1 : Int32) = 0 by decide), if_neg (show ¬ (1 : Int32) = 0 by decide)]
      obtain ⟨q, hq, rfl⟩ := in_nat (N := 63) (by omega) ha
      obtain ⟨k, hk, rfl⟩ := in_nat (N := 8) (by omega) hb
      have e11 : (11 : Int32) + nI q = nI (11 + q) := by show nI 11 + nI q = _; rw [nI_add]
      have fin : IB B r S (fx_X8_setKind_J38 r (nI q) (nI k) σ) (fx_X11_kinds_J37 (nI q) (nI k) (mw μ S)) := by
        obtain ⟨j, hj, ej⟩ := hW.kd (k := q) (by omega)
        refine ⟨S (11 + q), mm_u σ r 2 0 q (nI k), μ, upd S (11 + q) (nI k), ?_, ?_, Or.inl ⟨j, by omega, ej, c, f, ph, hW.board (by omega) (by omega) (fun z => absurd z (by omega)) (fun _ _ => ⟨k, by omega, rfl⟩), hR.board (t := 2) (b := 11) (N := 64) hc4 hW.f4 (by omega) (by omega) _, (pk_un (by omega)).trans hp, hph⟩⟩
        · rw [fx_X8_setKind_J38, mm_gd_t (mm_ix_n (by omega) (by omega)), mm_li_e, mm_gd_t (mm_ix_n (by omega) (by omega)), mm_lt_e, nI_cl (by omega), hR.kd (by omega)]
        · rw [fx_X11_kinds_J37, e11, mm_gd_t (mm_ix_n (by omega) (by omega)), mm_li_e, mm_gd_t (mm_ix_n (by omega) (by omega)), mm_lt_e, nI_cl (by omega), mw_row, mw_u]
      by_cases h7 : nI k = (7 : Int32)
      · rw [if_pos h7, if_pos h7, cc_cartOn hW hR rfl (by omega), mm_bd_some, mo_cartOn μ S rfl hW.s0 hc4, mm_bd_some]
        rcases sp_on_spec S q c hc4 with ⟨x, y⟩ | ⟨m, hm, x, y⟩
        · rw [x, if_pos rfl, if_pos m1_lt0]
          exact fin
        · rw [x, if_neg (nI_m1 (by omega)), if_neg (nI_pos (by omega))]
          exact ⟨_, σ, μ, S, rfl, rfl, Or.inr ⟨Or.inr (Or.inl rfl), rfl⟩⟩
      · rw [if_neg h7, if_neg h7]
        exact fin
    · rw [if_neg hb, if_pos rfl, if_pos rfl]
      exact ⟨_, σ, μ, S, rfl, rfl, Or.inr ⟨Or.inl rfl, rfl⟩⟩
  · rw [if_neg ha, if_pos rfl, if_pos rfl]
    exact ⟨_, σ, μ, S, rfl, rfl, Or.inr ⟨Or.inl rfl, rfl⟩⟩
theorem cc_flip {c f r q d : Nat} {σ : mm_M} {S : Nat → Int32} (hR : RS c f σ r S) (hc : c ≤ 4) (hf : f ≤ 4) (hq : q < 64) : ∃ σ1, fx_X1_flipSide r (nI q) (nI d) σ = some (0, σ1) ∧ RS c f σ1 r (upd S (75 + q) (S (75 + q) ^^^ ((1 : Int32) <<< (nI d &&& 31)))) := by
  rw [fx_X1_flipSide, if_neg (cell_nI hq).1, if_neg (cell_nI hq).2, mm_gd_t (mm_ix_n hq (by omega)), mm_gd_t (mm_ix_n hq (by omega)), mm_lt_e, nI_cl (by omega), hR.wl hq]
  exact ⟨_, rfl, hR.board (t := 3) (b := 75) (N := 64) hc hf hq (by omega) _⟩
theorem wall_both {B r : Nat} {a b : Int32} {σ μ : mm_M} {S : Nat → Int32} (hG : GS B σ r S) : IB B r S (fx_X8_flipWall r a b σ) (fx_X11_walls a b (mw μ S)) := by
  obtain ⟨c, f, ph, hW, hR, hp, hph⟩ := hG
  have hc4 := hW.c4
  have hf4 := hW.f4
  rw [fx_X8_flipWall, cc_isCell, mm_bd_some, fx_X11_walls, md_isCell, mm_bd_some]
  by_cases ha : (0 : Int32) ≤ a ∧ a ≤ 63
  · rw [if_pos ha, if_neg (show ¬ (1 : Int32) = 0 by decide), if_neg (show ¬ (1 : Int32) = 0 by decide), cc_isDirection, mm_bd_some, md_in, mm_bd_some]
    by_cases hb : (0 : Int32) ≤ b ∧ b ≤ 3
    · rw [if_pos hb, if_neg (show ¬ (1 : Int32) = 0 by decide), if_neg (show ¬ (1 : Int32) = 0 by decide)]
      obtain ⟨q, hq, rfl⟩ := in_nat (N := 63) (by omega) ha
      obtain ⟨d, hd, rfl⟩ := in_nat (N := 3) (by omega) hb
      have e75 : ∀ q, (75 : Int32) + nI q = nI (75 + q) := fun q => by show nI 75 + nI q = _; rw [nI_add]
      obtain ⟨σ1, e1, hR1⟩ := cc_flip (d := d) hR hc4 hf4 (q := q) (by omega)
      have hW1 : WF B c f (upd S (75 + q) (S (75 + q) ^^^ ((1 : Int32) <<< (nI d &&& 31)))) := hW.board (by omega) (by omega) (fun z => absurd z (by omega)) (fun _ z => absurd z (by omega))
      have p1 : upd S (75 + q) (S (75 + q) ^^^ ((1 : Int32) <<< (nI d &&& 31))) 1 = nI ph := (pk_un (by omega)).trans hp
      have tc : (nI d + (2 : Int32)) &&& 3 = nI ((d + 2) % 4) := turn_c (a := d) (b := 2) (by omega) (by omega)
      have tm : (nI d + (2 : Int32)) - (nI d + (2 : Int32)) / 4 * 4 = nI ((d + 2) % 4) := turn_m (a := d) (b := 2) (by omega) (by omega)
      have fin : ∀ (σ2 : mm_M) (T : Nat → Int32), WF B c f T → RS c f σ2 r T → T 1 = nI ph → IB B r S (mm_bd (fx_X1_hasWall r (nI q) (nI d) σ2) fun r_6 s_6 => (if r_6 = (0 : Int32) then some ((0 : Int32), s_6) else some ((1 : Int32), s_6))) (fx_X11_walls_J63 (nI q) (nI d) (mw μ T)) := by
        intro σ2 T hW2 hR2 hp2
        rw [cc_hasWall r σ2 rfl (show q < 64 by omega), mm_bd_some, hR2.wl (by omega), fx_X11_walls_J63, e75, mm_gd_t (mm_ix_n (by omega) (by omega)), nI_cl (by omega), mw_row]
        rcases and1 (T (75 + q) >>> (nI d &&& 31)) with h | h
        · rw [h, if_pos rfl, if_pos rfl]
          exact ⟨0, σ2, μ, T, rfl, rfl, Or.inl ⟨0, by omega, rfl, c, f, ph, hW2, hR2, hp2, hph⟩⟩
        · rw [h, if_neg (show ¬ (1 : Int32) = 0 by decide), if_neg (show ¬ (1 : Int32) = 0 by decide)]
          exact ⟨1, σ2, μ, T, rfl, rfl, Or.inl ⟨1, by omega, rfl, c, f, ph, hW2, hR2, hp2, hph⟩⟩
      rw [fx_X1_flipWall, e1, mm_bd_some, cc_neighbour σ1 rfl rfl (by omega) (by omega), mm_bd_some, fx_X10_turned, mm_bd_some, tc, e75, mm_gd_t (mm_ix_n (by omega) (by omega)), mm_gd_t (mm_ix_n (by omega) (by omega)), mm_lt_e, nI_cl (by omega), mw_row, mw_u, md_next _ rfl rfl (by omega) (by omega), mm_bd_some]
      rcases sp_nx_in (q := q) (d := d) (by omega) with hN | ⟨q2, hq2, hN⟩
      · rw [hN, fx_X1_flipSide, if_pos m1_lt0, mm_bd_some, mm_bd_some, if_pos m1_lt0]
        exact fin σ1 _ hW1 hR1 p1
      · obtain ⟨σ2, e2, hR2⟩ := cc_flip (d := (d + 2) % 4) hR1 hc4 hf4 hq2
        rw [hN, e2, mm_bd_some, mm_bd_some, if_neg (nI_pos (by omega)), e75, mm_gd_t (mm_ix_n (by omega) (by omega)), mm_gd_t (mm_ix_n (by omega) (by omega)), mm_lt_e, nI_cl (by omega), mw_row, mw_u, tm]
        exact fin σ2 _ (hW1.board (by omega) (by omega) (fun z => absurd z (by omega)) (fun _ z => absurd z (by omega))) hR2 ((pk_un (by omega)).trans p1)
    · rw [if_neg hb, if_pos rfl, if_pos rfl]
      exact ⟨_, σ, μ, S, rfl, rfl, Or.inr ⟨Or.inl rfl, rfl⟩⟩
  · rw [if_neg ha, if_pos rfl, if_pos rfl]
    exact ⟨_, σ, μ, S, rfl, rfl, Or.inr ⟨Or.inl rfl, rfl⟩⟩
theorem run_both {B r : Nat} {σ μ : mm_M} {S : Nat → Int32} (hr : r < 6) (hB : B < 200000) (hG : GS B σ r S) : IB (B + 1) r S (fx_X7_runNext r σ) (fx_X11_phases (mw μ S)) := by
  obtain ⟨c, f, ph, hW, hR, hp, hph⟩ := hG
  have hc0 : σ r 0 0 2 = nI c := hR.s0.trans hW.s0
  have hc1 : mw μ S 10 31 0 (0 : Int32).toNatClampNeg = nI c := by rw [mw_row]; exact hW.s0
  by_cases h0 : c = 0
  · subst h0
    rw [fx_X7_runNext, hc0, if_pos (show nI 0 = (0 : Int32) from rfl), fx_X11_phases, hc1, if_pos (show nI 0 = (0 : Int32) from rfl)]
    exact ⟨_, σ, μ, S, rfl, rfl, Or.inr ⟨Or.inr (Or.inl rfl), rfl⟩⟩
  · obtain ⟨t, S1, σ1, μ1, ht, e1, e2, hW1, hR1, hp1, _⟩ := phase_both (μ := μ) hW hr hp hph hR (by omega) (by omega)
    have hc4 := hW.c4
    rw [e1, fx_X11_phases, hc1, if_neg (show ¬ nI c = (0 : Int32) from ne_lit (b := 0) rfl h0 (by omega) (by omega)), e2, mm_bd_some]
    refine ⟨_, σ1, μ1, S1, rfl, rfl, Or.inl ⟨t, by omega, rfl, c, f, if ph < 4 then ph + 1 else 0, hW1, hR1, ?_, ?_⟩⟩
    · rcases hp1 with ⟨a, b⟩ | ⟨a, b⟩
      · rw [if_pos a]; exact b
      · rw [if_neg (by omega)]; exact b
    · split <;> omega
