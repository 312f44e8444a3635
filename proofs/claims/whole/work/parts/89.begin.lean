/-! the start keeps the invariant -/
theorem s0_row {i : Nat} (h : i ≠ 4 ∧ i ≠ 7 ∧ i ≠ 8 ∧ i ≠ 9 ∧ i ≠ 10) : m_s0 10 31 0 i = 0 := by
  show upd (upd (upd (upd (upd (fun _ => 0) 4 (-1 : Int32)) 7 (-1 : Int32)) 8 (-1 : Int32)) 9 (-1 : Int32)) 10 (-1 : Int32) i = 0
  rw [pk_un h.2.2.2.2, pk_un h.2.2.2.1, pk_un h.2.2.1, pk_un h.2.1, pk_un h.1]
theorem s0_4 : m_s0 10 31 0 4 = -1 := by
  show upd (upd (upd (upd (upd (fun _ => 0) 4 (-1 : Int32)) 7 (-1 : Int32)) 8 (-1 : Int32)) 9 (-1 : Int32)) 10 (-1 : Int32) 4 = -1
  rw [pk_un (by omega), pk_un (by omega), pk_un (by omega), pk_un (by omega), pk_us]
theorem J_start : JJ 0 m_s0 := by
  refine ⟨⟨0, fun _ _ => 0, ⟨by omega, rfl, fun i => i, ⟨fun i hi => ⟨hi, ?_⟩, fun i j _ _ e => e⟩, fun i hi => absurd hi (by omega)⟩, ⟨by omega, rfl, fun i hi => absurd hi (by omega)⟩⟩, ⟨0, 0, 0, ⟨by omega, by omega, ?_, ?_, Or.inl s0_4, fun k hk => absurd hk (by omega), fun k hk => ⟨0, by omega, ?_⟩, fun n hn => absurd hn (by omega), fun n m hn => absurd hn (by omega)⟩, ⟨?_, ?_, ?_, ?_, ?_, ?_, ?_, fun k hk => ?_, fun k hk => ?_, fun k hk => absurd hk (by omega), fun n hn => absurd hn (by omega), fun n hn hn4 => ⟨fun k a b => ?_, fun j hj => rfl⟩⟩, ?_, by omega⟩, 0, by omega, rfl, rfl, fun i hi => absurd hi (by omega)⟩
  · show nI (i + 2) = nI (2 + i)
    rw [Nat.add_comm]
  · rw [s0_row (by omega)]; rfl
  · rw [s0_row (by omega)]; rfl
  · rw [s0_row (by omega)]; rfl
  · rw [s0_row (by omega)]; rfl
  · rw [s0_row (by omega)]; rfl
  · rw [s0_row (by omega)]; rfl
  · rw [s0_row (by omega)]; rfl
  · rw [s0_row (by omega)]; rfl
  · rw [s0_4]; rfl
  · rw [s0_row (by omega)]; rfl
  · rw [s0_row (by omega)]; rfl
  · rw [s0_row (by omega)]; rfl
  · show (if k + 2 = 3 then (-1 : Int32) else 0) = 0
    rw [if_neg (by omega)]
  · rw [s0_row (by omega)]; rfl
