def fw_X10_play  (q t i : Nat) : Prop := (q = 0 ∧ t = 0 ∧ i = 2) ∨ (q = 0 ∧ t = 0 ∧ i = 3) ∨ (q = 0 ∧ t = 0 ∧ i = 4) ∨ (q = 0 ∧ t = 0 ∧ i = 5) ∨ (q = 0 ∧ t = 0 ∧ i = 6) ∨ (q = 0 ∧ t = 0 ∧ i = 7) ∨ (q = 0 ∧ t = 1 ∧ i = 3) ∨ (q = 0 ∧ t = 2) ∨ (q = 0 ∧ t = 3) ∨ (q = 0 ∧ t = 4) ∨ (q = 0 ∧ t = 6 ∧ i = 2) ∨ (q = 0 ∧ t = 6 ∧ i = 3) ∨ (q = 0 ∧ t = 6 ∧ i = 4) ∨ (q = 0 ∧ t = 6 ∧ i = 5) ∨ (q = 0 ∧ t = 6 ∧ i = 6) ∨ (q = 0 ∧ t = 6 ∧ i = 7) ∨ (q = 0 ∧ t = 6 ∧ i = 8) ∨ (q = 0 ∧ t = 7) ∨ (q = 0 ∧ t = 8) ∨ (q = 1 ∧ t = 0 ∧ i = 2) ∨ (q = 1 ∧ t = 0 ∧ i = 3) ∨ (q = 1 ∧ t = 0 ∧ i = 4) ∨ (q = 1 ∧ t = 0 ∧ i = 5) ∨ (q = 1 ∧ t = 0 ∧ i = 6) ∨ (q = 1 ∧ t = 0 ∧ i = 7) ∨ (q = 1 ∧ t = 1 ∧ i = 3) ∨ (q = 1 ∧ t = 2) ∨ (q = 1 ∧ t = 3) ∨ (q = 1 ∧ t = 4) ∨ (q = 1 ∧ t = 6 ∧ i = 2) ∨ (q = 1 ∧ t = 6 ∧ i = 3) ∨ (q = 1 ∧ t = 6 ∧ i = 4) ∨ (q = 1 ∧ t = 6 ∧ i = 5) ∨ (q = 1 ∧ t = 6 ∧ i = 6) ∨ (q = 1 ∧ t = 6 ∧ i = 7) ∨ (q = 1 ∧ t = 6 ∧ i = 8) ∨ (q = 1 ∧ t = 7) ∨ (q = 1 ∧ t = 8) ∨ (q = 6 ∧ t = 10 ∧ i = 1) ∨ (q = 6 ∧ t = 11) ∨ (q = 7 ∧ t = 14) ∨ (q = 7 ∧ t = 15) ∨ (q = 7 ∧ t = 17) ∨ (q = 7 ∧ t = 18) ∨ (q = 7 ∧ t = 19) ∨ (q = 8 ∧ t = 23 ∧ i = 2) ∨ (q = 8 ∧ t = 23 ∧ i = 4) ∨ (q = 8 ∧ t = 25) ∨ (q = 9 ∧ t = 26 ∧ i = 2) ∨ (q = 9 ∧ t = 26 ∧ i = 3) ∨ (q = 9 ∧ t = 26 ∧ i = 4) ∨ (q = 9 ∧ t = 26 ∧ i = 5) ∨ (q < 6 ∧ t = 0 ∧ i = 2) ∨ (q < 6 ∧ t = 0 ∧ i = 3) ∨ (q < 6 ∧ t = 0 ∧ i = 4) ∨ (q < 6 ∧ t = 0 ∧ i = 5) ∨ (q < 6 ∧ t = 0 ∧ i = 6) ∨ (q < 6 ∧ t = 0 ∧ i = 7) ∨ (q < 6 ∧ t = 1 ∧ i = 3) ∨ (q < 6 ∧ t = 2) ∨ (q < 6 ∧ t = 3) ∨ (q < 6 ∧ t = 4) ∨ (q < 6 ∧ t = 6 ∧ i = 2) ∨ (q < 6 ∧ t = 6 ∧ i = 3) ∨ (q < 6 ∧ t = 6 ∧ i = 4) ∨ (q < 6 ∧ t = 6 ∧ i = 5) ∨ (q < 6 ∧ t = 6 ∧ i = 6) ∨ (q < 6 ∧ t = 6 ∧ i = 7) ∨ (q < 6 ∧ t = 6 ∧ i = 8) ∨ (q < 6 ∧ t = 7) ∨ (q < 6 ∧ t = 8)
theorem fr_X10_play_J34  (rv : Int32) (σ1 : mm_M)  : ∀ (w1 : Int32) (σ : mm_M), fx_X10_play_J34  w1 σ = some (rv, σ1) → mm_fr (fw_X10_play) σ σ1 := by
  intro w1 σ hf
  rw [fx_X10_play_J34] at hf
  have F : mm_fr (fw_X10_play) σ σ := mm_fr.rf
  obtain ⟨r_5, s_5, e_5, hf⟩ := mm_bd_ok hf
  have F := F.trans ((fr_X10_keep w1 σ r_5 s_5 e_5).mono (fun q t i h => (fun h => h.elim (fun h => (Or.inl h)) (fun h => h.elim (fun h => (Or.inr (Or.inl h))) (fun h => h.elim (fun h => (Or.inr (Or.inr (Or.inl h)))) (fun h => h.elim (fun h => (Or.inr (Or.inr (Or.inr (Or.inl h))))) (fun h => h.elim (fun h => (Or.inr (Or.inr (Or.inr (Or.inr (Or.inl h)))))) (fun h => h.elim (fun h => (Or.inr (Or.inr (Or.inr (Or.inr (Or.inr (Or.inl h))))))) (fun h => h.elim (fun h => (Or.inr (Or.inr (Or.inr (Or.inr (Or.inr (Or.inr (Or.inl h)))))))) (fun h => h.elim (fun h => (Or.inr (Or.inr (Or.inr (Or.inr (Or.inr (Or.inr (Or.inr (Or.inl h))))))))) (fun h => h.elim (fun h => (Or.inr (Or.inr (Or.inr (Or.inr (Or.inr (Or.inr (Or.inr (Or.inr (Or.inl h)))))))))) (fun h => h.elim (fun h => (Or.inr (Or.inr (Or.inr (Or.inr (Or.inr (Or.inr (Or.inr (Or.inr (Or.inr (Or.inl h))))))))))) (fun h => h.elim (fun h => (Or.inr (Or.inr (Or.inr (Or.inr (Or.inr (Or.inr (Or.inr (Or.inr (Or.inr (Or.inr (Or.inl h)))))))))))) (fun h => h.elim (fun h => (Or.inr (Or.inr (Or.inr (Or.inr (Or.inr (Or.inr (Or.inr (Or.inr (Or.inr (Or.inr (Or.inr (Or.inl h))))))))))))) (fun h => h.elim (fun h => (Or.inr (Or.inr (Or.inr (Or.inr (Or.inr (Or.inr (Or.inr (Or.inr (Or.inr (Or.inr (Or.inr (Or.inr (Or.inl h)))))))))))))) (fun h => h.elim (fun h => (Or.inr (Or.inr (Or.inr (Or.inr (Or.inr (Or.inr (Or.inr (Or.inr (Or.inr (Or.inr (Or.inr (Or.inr (Or.inr (Or.inl h))))))))))))))) (fun h => h.elim (fun h => (Or.inr (Or.inr (Or.inr (Or.inr (Or.inr (Or.inr (Or.inr (Or.inr (Or.inr (Or.inr (Or.inr (Or.inr (Or.inr (Or.inr (Or.inl h)))))))))))))))) (fun h => h.elim (fun h => (Or.inr (Or.inr (Or.inr (Or.inr (Or.inr (Or.inr (Or.inr (Or.inr (Or.inr (Or.inr (Or.inr (Or.inr (Or.inr (Or.inr (Or.inr (Or.inl h))))))))))))))))) (fun h => h.elim (fun h => (Or.inr (Or.inr (Or.inr (Or.inr (Or.inr (Or.inr (Or.inr (Or.inr (Or.inr (Or.inr (Or.inr (Or.inr (Or.inr (Or.inr (Or.inr (Or.inr (Or.inl h)))))))))))))))))) (fun h => h.elim (fun h => (Or.inr (Or.inr (Or.inr (Or.inr (Or.inr (Or.inr (Or.inr (Or.inr (Or.inr (Or.inr (Or.inr (Or.inr (Or.inr (Or.inr (Or.inr (Or.inr (Or.inr (Or.inl h))))))))))))))))))) (fun h => h.elim (fun h => (Or.inr (Or.inr (Or.inr (Or.inr (Or.inr (Or.inr (Or.inr (Or.inr (Or.inr (Or.inr (Or.inr (Or.inr (Or.inr (Or.inr (Or.inr (Or.inr (Or.inr (Or.inr (Or.inl h)))))))))))))))))))) (fun h => h.elim (fun h => (Or.inr (Or.inr (Or.inr (Or.inr (Or.inr (Or.inr (Or.inr (Or.inr (Or.inr (Or.inr (Or.inr (Or.inr (Or.inr (Or.inr (Or.inr (Or.inr (Or.inr (Or.inr (Or.inr (Or.inr (Or.inr (Or.inr (Or.inr (Or.inr (Or.inr (Or.inr (Or.inr (Or.inr (Or.inr (Or.inr (Or.inr (Or.inr (Or.inr (Or.inr (Or.inr (Or.inr (Or.inr (Or.inr (Or.inl h)))))))))))))))))))))))))))))))))))))))) (fun h => h.elim (fun h => (Or.inr (Or.inr (Or.inr (Or.inr (Or.inr (Or.inr (Or.inr (Or.inr (Or.inr (Or.inr (Or.inr (Or.inr (Or.inr (Or.inr (Or.inr (Or.inr (Or.inr (Or.inr (Or.inr (Or.inr (Or.inr (Or.inr (Or.inr (Or.inr (Or.inr (Or.inr (Or.inr (Or.inr (Or.inr (Or.inr (Or.inr (Or.inr (Or.inr (Or.inr (Or.inr (Or.inr (Or.inr (Or.inr (Or.inr (Or.inl h))))))))))))))))))))))))))))))))))))))))) (fun h => h.elim (fun h => (Or.inr (Or.inr (Or.inr (Or.inr (Or.inr (Or.inr (Or.inr (Or.inr (Or.inr (Or.inr (Or.inr (Or.inr (Or.inr (Or.inr (Or.inr (Or.inr (Or.inr (Or.inr (Or.inr (Or.inr (Or.inr (Or.inr (Or.inr (Or.inr (Or.inr (Or.inr (Or.inr (Or.inr (Or.inr (Or.inr (Or.inr (Or.inr (Or.inr (Or.inr (Or.inr (Or.inr (Or.inr (Or.inr (Or.inr (Or.inr (Or.inr (Or.inr (Or.inr (Or.inr (Or.inr (Or.inr (Or.inr (Or.inr (Or.inr (Or.inr (Or.inr (Or.inr (Or.inl h)))))))))))))))))))))))))))))))))))))))))))))))))))))) (fun h => h.elim (fun h => (Or.inr (Or.inr (Or.inr (Or.inr (Or.inr (Or.inr (Or.inr (Or.inr (Or.inr (Or.inr (Or.inr (Or.inr (Or.inr (Or.inr (Or.inr (Or.inr (Or.inr (Or.inr (Or.inr (Or.inr (Or.inr (Or.inr (Or.inr (Or.inr (Or.inr (Or.inr (Or.inr (Or.inr (Or.inr (Or.inr (Or.inr (Or.inr (Or.inr (Or.inr (Or.inr (Or.inr (Or.inr (Or.inr (Or.inr (Or.inr (Or.inr (Or.inr (Or.inr (Or.inr (Or.inr (Or.inr (Or.inr (Or.inr (Or.inr (Or.inr (Or.inr (Or.inr (Or.inr (Or.inl h))))))))))))))))))))))))))))))))))))))))))))))))))))))) (fun h => h.elim (fun h => (Or.inr (Or.inr (Or.inr (Or.inr (Or.inr (Or.inr (Or.inr (Or.inr (Or.inr (Or.inr (Or.inr (Or.inr (Or.inr (Or.inr (Or.inr (Or.inr (Or.inr (Or.inr (Or.inr (Or.inr (Or.inr (Or.inr (Or.inr (Or.inr (Or.inr (Or.inr (Or.inr (Or.inr (Or.inr (Or.inr (Or.inr (Or.inr (Or.inr (Or.inr (Or.inr (Or.inr (Or.inr (Or.inr (Or.inr (Or.inr (Or.inr (Or.inr (Or.inr (Or.inr (Or.inr (Or.inr (Or.inr (Or.inr (Or.inr (Or.inr (Or.inr (Or.inr (Or.inr (Or.inr (Or.inl h)))))))))))))))))))))))))))))))))))))))))))))))))))))))) (fun h => h.elim (fun h => (Or.inr (Or.inr (Or.inr (Or.inr (Or.inr (Or.inr (Or.inr (Or.inr (Or.inr (Or.inr (Or.inr (Or.inr (Or.inr (Or.inr (Or.inr (Or.inr (Or.inr (Or.inr (Or.inr (Or.inr (Or.inr (Or.inr (Or.inr (Or.inr (Or.inr (Or.inr (Or.inr (Or.inr (Or.inr (Or.inr (Or.inr (Or.inr (Or.inr (Or.inr (Or.inr (Or.inr (Or.inr (Or.inr (Or.inr (Or.inr (Or.inr (Or.inr (Or.inr (Or.inr (Or.inr (Or.inr (Or.inr (Or.inr (Or.inr (Or.inr (Or.inr (Or.inr (Or.inr (Or.inr (Or.inr (Or.inl h))))))))))))))))))))))))))))))))))))))))))))))))))))))))) (fun h => h.elim (fun h => (Or.inr (Or.inr (Or.inr (Or.inr (Or.inr (Or.inr (Or.inr (Or.inr (Or.inr (Or.inr (Or.inr (Or.inr (Or.inr (Or.inr (Or.inr (Or.inr (Or.inr (Or.inr (Or.inr (Or.inr (Or.inr (Or.inr (Or.inr (Or.inr (Or.inr (Or.inr (Or.inr (Or.inr (Or.inr (Or.inr (Or.inr (Or.inr (Or.inr (Or.inr (Or.inr (Or.inr (Or.inr (Or.inr (Or.inr (Or.inr (Or.inr (Or.inr (Or.inr (Or.inr (Or.inr (Or.inr (Or.inr (Or.inr (Or.inr (Or.inr (Or.inr (Or.inr (Or.inr (Or.inr (Or.inr (Or.inr (Or.inl h)))))))))))))))))))))))))))))))))))))))))))))))))))))))))) (fun h => h.elim (fun h => (Or.inr (Or.inr (Or.inr (Or.inr (Or.inr (Or.inr (Or.inr (Or.inr (Or.inr (Or.inr (Or.inr (Or.inr (Or.inr (Or.inr (Or.inr (Or.inr (Or.inr (Or.inr (Or.inr (Or.inr (Or.inr (Or.inr (Or.inr (Or.inr (Or.inr (Or.inr (Or.inr (Or.inr (Or.inr (Or.inr (Or.inr (Or.inr (Or.inr (Or.inr (Or.inr (Or.inr (Or.inr (Or.inr (Or.inr (Or.inr (Or.inr (Or.inr (Or.inr (Or.inr (Or.inr (Or.inr (Or.inr (Or.inr (Or.inr (Or.inr (Or.inr (Or.inr (Or.inr (Or.inr (Or.inr (Or.inr (Or.inr (Or.inl h))))))))))))))))))))))))))))))))))))))))))))))))))))))))))) (fun h => h.elim (fun h => (Or.inr (Or.inr (Or.inr (Or.inr (Or.inr (Or.inr (Or.inr (Or.inr (Or.inr (Or.inr (Or.inr (Or.inr (Or.inr (Or.inr (Or.inr (Or.inr (Or.inr (Or.inr (Or.inr (Or.inr (Or.inr (Or.inr (Or.inr (Or.inr (Or.inr (Or.inr (Or.inr (Or.inr (Or.inr (Or.inr (Or.inr (Or.inr (Or.inr (Or.inr (Or.inr (Or.inr (Or.inr (Or.inr (Or.inr (Or.inr (Or.inr (Or.inr (Or.inr (Or.inr (Or.inr (Or.inr (Or.inr (Or.inr (Or.inr (Or.inr (Or.inr (Or.inr (Or.inr (Or.inr (Or.inr (Or.inr (Or.inr (Or.inr (Or.inl h)))))))))))))))))))))))))))))))))))))))))))))))))))))))))))) (fun h => h.elim (fun h => (Or.inr (Or.inr (Or.inr (Or.inr (Or.inr (Or.inr (Or.inr (Or.inr (Or.inr (Or.inr (Or.inr (Or.inr (Or.inr (Or.inr (Or.inr (Or.inr (Or.inr (Or.inr (Or.inr (Or.inr (Or.inr (Or.inr (Or.inr (Or.inr (Or.inr (Or.inr (Or.inr (Or.inr (Or.inr (Or.inr (Or.inr (Or.inr (Or.inr (Or.inr (Or.inr (Or.inr (Or.inr (Or.inr (Or.inr (Or.inr (Or.inr (Or.inr (Or.inr (Or.inr (Or.inr (Or.inr (Or.inr (Or.inr (Or.inr (Or.inr (Or.inr (Or.inr (Or.inr (Or.inr (Or.inr (Or.inr (Or.inr (Or.inr (Or.inr (Or.inl h))))))))))))))))))))))))))))))))))))))))))))))))))))))))))))) (fun h => h.elim (fun h => (Or.inr (Or.inr (Or.inr (Or.inr (Or.inr (Or.inr (Or.inr (Or.inr (Or.inr (Or.inr (Or.inr (Or.inr (Or.inr (Or.inr (Or.inr (Or.inr (Or.inr (Or.inr (Or.inr (Or.inr (Or.inr (Or.inr (Or.inr (Or.inr (Or.inr (Or.inr (Or.inr (Or.inr (Or.inr (Or.inr (Or.inr (Or.inr (Or.inr (Or.inr (Or.inr (Or.inr (Or.inr (Or.inr (Or.inr (Or.inr (Or.inr (Or.inr (Or.inr (Or.inr (Or.inr (Or.inr (Or.inr (Or.inr (Or.inr (Or.inr (Or.inr (Or.inr (Or.inr (Or.inr (Or.inr (Or.inr (Or.inr (Or.inr (Or.inr (Or.inr (Or.inl h)))))))))))))))))))))))))))))))))))))))))))))))))))))))))))))) (fun h => h.elim (fun h => (Or.inr (Or.inr (Or.inr (Or.inr (Or.inr (Or.inr (Or.inr (Or.inr (Or.inr (Or.inr (Or.inr (Or.inr (Or.inr (Or.inr (Or.inr (Or.inr (Or.inr (Or.inr (Or.inr (Or.inr (Or.inr (Or.inr (Or.inr (Or.inr (Or.inr (Or.inr (Or.inr (Or.inr (Or.inr (Or.inr (Or.inr (Or.inr (Or.inr (Or.inr (Or.inr (Or.inr (Or.inr (Or.inr (Or.inr (Or.inr (Or.inr (Or.inr (Or.inr (Or.inr (Or.inr (Or.inr (Or.inr (Or.inr (Or.inr (Or.inr (Or.inr (Or.inr (Or.inr (Or.inr (Or.inr (Or.inr (Or.inr (Or.inr (Or.inr (Or.inr (Or.inr (Or.inl h))))))))))))))))))))))))))))))))))))))))))))))))))))))))))))))) (fun h => h.elim (fun h => (Or.inr (Or.inr (Or.inr (Or.inr (Or.inr (Or.inr (Or.inr (Or.inr (Or.inr (Or.inr (Or.inr (Or.inr (Or.inr (Or.inr (Or.inr (Or.inr (Or.inr (Or.inr (Or.inr (Or.inr (Or.inr (Or.inr (Or.inr (Or.inr (Or.inr (Or.inr (Or.inr (Or.inr (Or.inr (Or.inr (Or.inr (Or.inr (Or.inr (Or.inr (Or.inr (Or.inr (Or.inr (Or.inr (Or.inr (Or.inr (Or.inr (Or.inr (Or.inr (Or.inr (Or.inr (Or.inr (Or.inr (Or.inr (Or.inr (Or.inr (Or.inr (Or.inr (Or.inr (Or.inr (Or.inr (Or.inr (Or.inr (Or.inr (Or.inr (Or.inr (Or.inr (Or.inr (Or.inl h)))))))))))))))))))))))))))))))))))))))))))))))))))))))))))))))) (fun h => h.elim (fun h => (Or.inr (Or.inr (Or.inr (Or.inr (Or.inr (Or.inr (Or.inr (Or.inr (Or.inr (Or.inr (Or.inr (Or.inr (Or.inr (Or.inr (Or.inr (Or.inr (Or.inr (Or.inr (Or.inr (Or.inr (Or.inr (Or.inr (Or.inr (Or.inr (Or.inr (Or.inr (Or.inr (Or.inr (Or.inr (Or.inr (Or.inr (Or.inr (Or.inr (Or.inr (Or.inr (Or.inr (Or.inr (Or.inr (Or.inr (Or.inr (Or.inr (Or.inr (Or.inr (Or.inr (Or.inr (Or.inr (Or.inr (Or.inr (Or.inr (Or.inr (Or.inr (Or.inr (Or.inr (Or.inr (Or.inr (Or.inr (Or.inr (Or.inr (Or.inr (Or.inr (Or.inr (Or.inr (Or.inr (Or.inl h))))))))))))))))))))))))))))))))))))))))))))))))))))))))))))))))) (fun h => h.elim (fun h => (Or.inr (Or.inr (Or.inr (Or.inr (Or.inr (Or.inr (Or.inr (Or.inr (Or.inr (Or.inr (Or.inr (Or.inr (Or.inr (Or.inr (Or.inr (Or.inr (Or.inr (Or.inr (Or.inr (Or.inr (Or.inr (Or.inr (Or.inr (Or.inr (Or.inr (Or.inr (Or.inr (Or.inr (Or.inr (Or.inr (Or.inr (Or.inr (Or.inr (Or.inr (Or.inr (Or.inr (Or.inr (Or.inr (Or.inr (Or.inr (Or.inr (Or.inr (Or.inr (Or.inr (Or.inr (Or.inr (Or.inr (Or.inr (Or.inr (Or.inr (Or.inr (Or.inr (Or.inr (Or.inr (Or.inr (Or.inr (Or.inr (Or.inr (Or.inr (Or.inr (Or.inr (Or.inr (Or.inr (Or.inr (Or.inl h)))))))))))))))))))))))))))))))))))))))))))))))))))))))))))))))))) (fun h => h.elim (fun h => (Or.inr (Or.inr (Or.inr (Or.inr (Or.inr (Or.inr (Or.inr (Or.inr (Or.inr (Or.inr (Or.inr (Or.inr (Or.inr (Or.inr (Or.inr (Or.inr (Or.inr (Or.inr (Or.inr (Or.inr (Or.inr (Or.inr (Or.inr (Or.inr (Or.inr (Or.inr (Or.inr (Or.inr (Or.inr (Or.inr (Or.inr (Or.inr (Or.inr (Or.inr (Or.inr (Or.inr (Or.inr (Or.inr (Or.inr (Or.inr (Or.inr (Or.inr (Or.inr (Or.inr (Or.inr (Or.inr (Or.inr (Or.inr (Or.inr (Or.inr (Or.inr (Or.inr (Or.inr (Or.inr (Or.inr (Or.inr (Or.inr (Or.inr (Or.inr (Or.inr (Or.inr (Or.inr (Or.inr (Or.inr (Or.inr (Or.inl h))))))))))))))))))))))))))))))))))))))))))))))))))))))))))))))))))) (fun h => h.elim (fun h => (Or.inr (Or.inr (Or.inr (Or.inr (Or.inr (Or.inr (Or.inr (Or.inr (Or.inr (Or.inr (Or.inr (Or.inr (Or.inr (Or.inr (Or.inr (Or.inr (Or.inr (Or.inr (Or.inr (Or.inr (Or.inr (Or.inr (Or.inr (Or.inr (Or.inr (Or.inr (Or.inr (Or.inr (Or.inr (Or.inr (Or.inr (Or.inr (Or.inr (Or.inr (Or.inr (Or.inr (Or.inr (Or.inr (Or.inr (Or.inr (Or.inr (Or.inr (Or.inr (Or.inr (Or.inr (Or.inr (Or.inr (Or.inr (Or.inr (Or.inr (Or.inr (Or.inr (Or.inr (Or.inr (Or.inr (Or.inr (Or.inr (Or.inr (Or.inr (Or.inr (Or.inr (Or.inr (Or.inr (Or.inr (Or.inr (Or.inr (Or.inl h)))))))))))))))))))))))))))))))))))))))))))))))))))))))))))))))))))) (fun h => h.elim (fun h => (Or.inr (Or.inr (Or.inr (Or.inr (Or.inr (Or.inr (Or.inr (Or.inr (Or.inr (Or.inr (Or.inr (Or.inr (Or.inr (Or.inr (Or.inr (Or.inr (Or.inr (Or.inr (Or.inr (Or.inr (Or.inr (Or.inr (Or.inr (Or.inr (Or.inr (Or.inr (Or.inr (Or.inr (Or.inr (Or.inr (Or.inr (Or.inr (Or.inr (Or.inr (Or.inr (Or.inr (Or.inr (Or.inr (Or.inr (Or.inr (Or.inr (Or.inr (Or.inr (Or.inr (Or.inr (Or.inr (Or.inr (Or.inr (Or.inr (Or.inr (Or.inr (Or.inr (Or.inr (Or.inr (Or.inr (Or.inr (Or.inr (Or.inr (Or.inr (Or.inr (Or.inr (Or.inr (Or.inr (Or.inr (Or.inr (Or.inr (Or.inr (Or.inl h))))))))))))))))))))))))))))))))))))))))))))))))))))))))))))))))))))) (fun h => h.elim (fun h => (Or.inr (Or.inr (Or.inr (Or.inr (Or.inr (Or.inr (Or.inr (Or.inr (Or.inr (Or.inr (Or.inr (Or.inr (Or.inr (Or.inr (Or.inr (Or.inr (Or.inr (Or.inr (Or.inr (Or.inr (Or.inr (Or.inr (Or.inr (Or.inr (Or.inr (Or.inr (Or.inr (Or.inr (Or.inr (Or.inr (Or.inr (Or.inr (Or.inr (Or.inr (Or.inr (Or.inr (Or.inr (Or.inr (Or.inr (Or.inr (Or.inr (Or.inr (Or.inr (Or.inr (Or.inr (Or.inr (Or.inr (Or.inr (Or.inr (Or.inr (Or.inr (Or.inr (Or.inr (Or.inr (Or.inr (Or.inr (Or.inr (Or.inr (Or.inr (Or.inr (Or.inr (Or.inr (Or.inr (Or.inr (Or.inr (Or.inr (Or.inr (Or.inr (Or.inl h)))))))))))))))))))))))))))))))))))))))))))))))))))))))))))))))))))))) (fun h => h.elim (fun h => (Or.inr (Or.inr (Or.inr (Or.inr (Or.inr (Or.inr (Or.inr (Or.inr (Or.inr (Or.inr (Or.inr (Or.inr (Or.inr (Or.inr (Or.inr (Or.inr (Or.inr (Or.inr (Or.inr (Or.inr (Or.inr (Or.inr (Or.inr (Or.inr (Or.inr (Or.inr (Or.inr (Or.inr (Or.inr (Or.inr (Or.inr (Or.inr (Or.inr (Or.inr (Or.inr (Or.inr (Or.inr (Or.inr (Or.inr (Or.inr (Or.inr (Or.inr (Or.inr (Or.inr (Or.inr (Or.inr (Or.inr (Or.inr (Or.inr (Or.inr (Or.inr (Or.inr (Or.inr (Or.inr (Or.inr (Or.inr (Or.inr (Or.inr (Or.inr (Or.inr (Or.inr (Or.inr (Or.inr (Or.inr (Or.inr (Or.inr (Or.inr (Or.inr (Or.inr (Or.inl h))))))))))))))))))))))))))))))))))))))))))))))))))))))))))))))))))))))) (fun h => (Or.inr (Or.inr (Or.inr (Or.inr (Or.inr (Or.inr (Or.inr (Or.inr (Or.inr (Or.inr (Or.inr (Or.inr (Or.inr (Or.inr (Or.inr (Or.inr (Or.inr (Or.inr (Or.inr (Or.inr (Or.inr (Or.inr (Or.inr (Or.inr (Or.inr (Or.inr (Or.inr (Or.inr (Or.inr (Or.inr (Or.inr (Or.inr (Or.inr (Or.inr (Or.inr (Or.inr (Or.inr (Or.inr (Or.inr (Or.inr (Or.inr (Or.inr (Or.inr (Or.inr (Or.inr (Or.inr (Or.inr (Or.inr (Or.inr (Or.inr (Or.inr (Or.inr (Or.inr (Or.inr (Or.inr (Or.inr (Or.inr (Or.inr (Or.inr (Or.inr (Or.inr (Or.inr (Or.inr (Or.inr (Or.inr (Or.inr (Or.inr (Or.inr (Or.inr (Or.inr h)))))))))))))))))))))))))))))))))))))))))))))))))))))))))))))))))))))))))))))))))))))))))))))))))))))))))))))) h))
  exact mm_fr.ret hf F
theorem fr_X10_play  (σ : mm_M) (rv : Int32) (σ1 : mm_M) (hf : fx_X10_play  σ = some (rv, σ1)) : mm_fr (fw_X10_play) σ σ1 := by
  rw [fx_X10_play] at hf
  have F : mm_fr (fw_X10_play) σ σ := mm_fr.rf
  obtain ⟨r_1, s_1, e_1, hf⟩ := mm_bd_ok hf
  have F := F.trans ((fr_X10_freshTrial  σ r_1 s_1 e_1).mono (fun q t i h => (fun h => h.elim (fun h => (Or.inr (Or.inr (Or.inr (Or.inr (Or.inr (Or.inr (Or.inr (Or.inr (Or.inr (Or.inr (Or.inr (Or.inr (Or.inr (Or.inr (Or.inr (Or.inr (Or.inr (Or.inr (Or.inr (Or.inl h))))))))))))))))))))) (fun h => h.elim (fun h => (Or.inr (Or.inr (Or.inr (Or.inr (Or.inr (Or.inr (Or.inr (Or.inr (Or.inr (Or.inr (Or.inr (Or.inr (Or.inr (Or.inr (Or.inr (Or.inr (Or.inr (Or.inr (Or.inr (Or.inr (Or.inl h)))))))))))))))))))))) (fun h => h.elim (fun h => (Or.inr (Or.inr (Or.inr (Or.inr (Or.inr (Or.inr (Or.inr (Or.inr (Or.inr (Or.inr (Or.inr (Or.inr (Or.inr (Or.inr (Or.inr (Or.inr (Or.inr (Or.inr (Or.inr (Or.inr (Or.inr (Or.inl h))))))))))))))))))))))) (fun h => h.elim (fun h => (Or.inr (Or.inr (Or.inr (Or.inr (Or.inr (Or.inr (Or.inr (Or.inr (Or.inr (Or.inr (Or.inr (Or.inr (Or.inr (Or.inr (Or.inr (Or.inr (Or.inr (Or.inr (Or.inr (Or.inr (Or.inr (Or.inr (Or.inl h)))))))))))))))))))))))) (fun h => h.elim (fun h => (Or.inr (Or.inr (Or.inr (Or.inr (Or.inr (Or.inr (Or.inr (Or.inr (Or.inr (Or.inr (Or.inr (Or.inr (Or.inr (Or.inr (Or.inr (Or.inr (Or.inr (Or.inr (Or.inr (Or.inr (Or.inr (Or.inr (Or.inr (Or.inl h))))))))))))))))))))))))) (fun h => h.elim (fun h => (Or.inr (Or.inr (Or.inr (Or.inr (Or.inr (Or.inr (Or.inr (Or.inr (Or.inr (Or.inr (Or.inr (Or.inr (Or.inr (Or.inr (Or.inr (Or.inr (Or.inr (Or.inr (Or.inr (Or.inr (Or.inr (Or.inr (Or.inr (Or.inr (Or.inl h)))))))))))))))))))))))))) (fun h => h.elim (fun h => (Or.inr (Or.inr (Or.inr (Or.inr (Or.inr (Or.inr (Or.inr (Or.inr (Or.inr (Or.inr (Or.inr (Or.inr (Or.inr (Or.inr (Or.inr (Or.inr (Or.inr (Or.inr (Or.inr (Or.inr (Or.inr (Or.inr (Or.inr (Or.inr (Or.inr (Or.inl h))))))))))))))))))))))))))) (fun h => h.elim (fun h => (Or.inr (Or.inr (Or.inr (Or.inr (Or.inr (Or.inr (Or.inr (Or.inr (Or.inr (Or.inr (Or.inr (Or.inr (Or.inr (Or.inr (Or.inr (Or.inr (Or.inr (Or.inr (Or.inr (Or.inr (Or.inr (Or.inr (Or.inr (Or.inr (Or.inr (Or.inr (Or.inl h)))))))))))))))))))))))))))) (fun h => h.elim (fun h => (Or.inr (Or.inr (Or.inr (Or.inr (Or.inr (Or.inr (Or.inr (Or.inr (Or.inr (Or.inr (Or.inr (Or.inr (Or.inr (Or.inr (Or.inr (Or.inr (Or.inr (Or.inr (Or.inr (Or.inr (Or.inr (Or.inr (Or.inr (Or.inr (Or.inr (Or.inr (Or.inr (Or.inl h))))))))))))))))))))))))))))) (fun h => h.elim (fun h => (Or.inr (Or.inr (Or.inr (Or.inr (Or.inr (Or.inr (Or.inr (Or.inr (Or.inr (Or.inr (Or.inr (Or.inr (Or.inr (Or.inr (Or.inr (Or.inr (Or.inr (Or.inr (Or.inr (Or.inr (Or.inr (Or.inr (Or.inr (Or.inr (Or.inr (Or.inr (Or.inr (Or.inr (Or.inl h)))))))))))))))))))))))))))))) (fun h => h.elim (fun h => (Or.inr (Or.inr (Or.inr (Or.inr (Or.inr (Or.inr (Or.inr (Or.inr (Or.inr (Or.inr (Or.inr (Or.inr (Or.inr (Or.inr (Or.inr (Or.inr (Or.inr (Or.inr (Or.inr (Or.inr (Or.inr (Or.inr (Or.inr (Or.inr (Or.inr (Or.inr (Or.inr (Or.inr (Or.inr (Or.inl h))))))))))))))))))))))))))))))) (fun h => h.elim (fun h => (Or.inr (Or.inr (Or.inr (Or.inr (Or.inr (Or.inr (Or.inr (Or.inr (Or.inr (Or.inr (Or.inr (Or.inr (Or.inr (Or.inr (Or.inr (Or.inr (Or.inr (Or.inr (Or.inr (Or.inr (Or.inr (Or.inr (Or.inr (Or.inr (Or.inr (Or.inr (Or.inr (Or.inr (Or.inr (Or.inr (Or.inl h)))))))))))))))))))))))))))))))) (fun h => h.elim (fun h => (Or.inr (Or.inr (Or.inr (Or.inr (Or.inr (Or.inr (Or.inr (Or.inr (Or.inr (Or.inr (Or.inr (Or.inr (Or.inr (Or.inr (Or.inr (Or.inr (Or.inr (Or.inr (Or.inr (Or.inr (Or.inr (Or.inr (Or.inr (Or.inr (Or.inr (Or.inr (Or.inr (Or.inr (Or.inr (Or.inr (Or.inr (Or.inl h))))))))))))))))))))))))))))))))) (fun h => h.elim (fun h => (Or.inr (Or.inr (Or.inr (Or.inr (Or.inr (Or.inr (Or.inr (Or.inr (Or.inr (Or.inr (Or.inr (Or.inr (Or.inr (Or.inr (Or.inr (Or.inr (Or.inr (Or.inr (Or.inr (Or.inr (Or.inr (Or.inr (Or.inr (Or.inr (Or.inr (Or.inr (Or.inr (Or.inr (Or.inr (Or.inr (Or.inr (Or.inr (Or.inl h)))))))))))))))))))))))))))))))))) (fun h => h.elim (fun h => (Or.inr (Or.inr (Or.inr (Or.inr (Or.inr (Or.inr (Or.inr (Or.inr (Or.inr (Or.inr (Or.inr (Or.inr (Or.inr (Or.inr (Or.inr (Or.inr (Or.inr (Or.inr (Or.inr (Or.inr (Or.inr (Or.inr (Or.inr (Or.inr (Or.inr (Or.inr (Or.inr (Or.inr (Or.inr (Or.inr (Or.inr (Or.inr (Or.inr (Or.inl h))))))))))))))))))))))))))))))))))) (fun h => h.elim (fun h => (Or.inr (Or.inr (Or.inr (Or.inr (Or.inr (Or.inr (Or.inr (Or.inr (Or.inr (Or.inr (Or.inr (Or.inr (Or.inr (Or.inr (Or.inr (Or.inr (Or.inr (Or.inr (Or.inr (Or.inr (Or.inr (Or.inr (Or.inr (Or.inr (Or.inr (Or.inr (Or.inr (Or.inr (Or.inr (Or.inr (Or.inr (Or.inr (Or.inr (Or.inr (Or.inl h)))))))))))))))))))))))))))))))))))) (fun h => h.elim (fun h => (Or.inr (Or.inr (Or.inr (Or.inr (Or.inr (Or.inr (Or.inr (Or.inr (Or.inr (Or.inr (Or.inr (Or.inr (Or.inr (Or.inr (Or.inr (Or.inr (Or.inr (Or.inr (Or.inr (Or.inr (Or.inr (Or.inr (Or.inr (Or.inr (Or.inr (Or.inr (Or.inr (Or.inr (Or.inr (Or.inr (Or.inr (Or.inr (Or.inr (Or.inr (Or.inr (Or.inl h))))))))))))))))))))))))))))))))))))) (fun h => h.elim (fun h => (Or.inr (Or.inr (Or.inr (Or.inr (Or.inr (Or.inr (Or.inr (Or.inr (Or.inr (Or.inr (Or.inr (Or.inr (Or.inr (Or.inr (Or.inr (Or.inr (Or.inr (Or.inr (Or.inr (Or.inr (Or.inr (Or.inr (Or.inr (Or.inr (Or.inr (Or.inr (Or.inr (Or.inr (Or.inr (Or.inr (Or.inr (Or.inr (Or.inr (Or.inr (Or.inr (Or.inr (Or.inl h)))))))))))))))))))))))))))))))))))))) (fun h => (Or.inr (Or.inr (Or.inr (Or.inr (Or.inr (Or.inr (Or.inr (Or.inr (Or.inr (Or.inr (Or.inr (Or.inr (Or.inr (Or.inr (Or.inr (Or.inr (Or.inr (Or.inr (Or.inr (Or.inr (Or.inr (Or.inr (Or.inr (Or.inr (Or.inr (Or.inr (Or.inr (Or.inr (Or.inr (Or.inr (Or.inr (Or.inr (Or.inr (Or.inr (Or.inr (Or.inr (Or.inr (Or.inl h))))))))))))))))))))))))))))))))))))))))))))))))))))))))) h))
  obtain ⟨r_2, s_2, e_2, hf⟩ := mm_bd_ok hf
  have F := F.trans ((fr_X5_doAll 1 s_1 r_2 s_2 e_2).mono (fun q t i h => (fun h => h.elim (fun h => (Or.inr (Or.inr (Or.inr (Or.inr (Or.inr (Or.inr (Or.inr (Or.inr (Or.inr (Or.inr (Or.inr (Or.inr (Or.inr (Or.inr (Or.inr (Or.inr (Or.inr (Or.inr (Or.inr (Or.inr (Or.inr (Or.inr (Or.inr (Or.inr (Or.inr (Or.inr (Or.inr (Or.inr (Or.inr (Or.inr (Or.inr (Or.inr (Or.inr (Or.inr (Or.inr (Or.inr (Or.inr (Or.inr (Or.inr (Or.inr (Or.inl h)))))))))))))))))))))))))))))))))))))))))) (fun h => h.elim (fun h => (Or.inr (Or.inr (Or.inr (Or.inr (Or.inr (Or.inr (Or.inr (Or.inr (Or.inr (Or.inr (Or.inr (Or.inr (Or.inr (Or.inr (Or.inr (Or.inr (Or.inr (Or.inr (Or.inr (Or.inr (Or.inr (Or.inr (Or.inr (Or.inr (Or.inr (Or.inr (Or.inr (Or.inr (Or.inr (Or.inr (Or.inr (Or.inr (Or.inr (Or.inr (Or.inr (Or.inr (Or.inr (Or.inr (Or.inr (Or.inr (Or.inr (Or.inl h))))))))))))))))))))))))))))))))))))))))))) (fun h => h.elim (fun h => (Or.inr (Or.inr (Or.inr (Or.inr (Or.inr (Or.inr (Or.inr (Or.inr (Or.inr (Or.inr (Or.inr (Or.inr (Or.inr (Or.inr (Or.inr (Or.inr (Or.inr (Or.inr (Or.inr (Or.inr (Or.inr (Or.inr (Or.inr (Or.inr (Or.inr (Or.inr (Or.inr (Or.inr (Or.inr (Or.inr (Or.inr (Or.inr (Or.inr (Or.inr (Or.inr (Or.inr (Or.inr (Or.inr (Or.inr (Or.inr (Or.inr (Or.inr (Or.inl h)))))))))))))))))))))))))))))))))))))))))))) (fun h => h.elim (fun h => (Or.inr (Or.inr (Or.inr (Or.inr (Or.inr (Or.inr (Or.inr (Or.inr (Or.inr (Or.inr (Or.inr (Or.inr (Or.inr (Or.inr (Or.inr (Or.inr (Or.inr (Or.inr (Or.inr (Or.inr (Or.inr (Or.inr (Or.inr (Or.inr (Or.inr (Or.inr (Or.inr (Or.inr (Or.inr (Or.inr (Or.inr (Or.inr (Or.inr (Or.inr (Or.inr (Or.inr (Or.inr (Or.inr (Or.inr (Or.inr (Or.inr (Or.inr (Or.inr (Or.inl h))))))))))))))))))))))))))))))))))))))))))))) (fun h => h.elim (fun h => (Or.inr (Or.inr (Or.inr (Or.inr (Or.inr (Or.inr (Or.inr (Or.inr (Or.inr (Or.inr (Or.inr (Or.inr (Or.inr (Or.inr (Or.inr (Or.inr (Or.inr (Or.inr (Or.inr (Or.inr (Or.inr (Or.inr (Or.inr (Or.inr (Or.inr (Or.inr (Or.inr (Or.inr (Or.inr (Or.inr (Or.inr (Or.inr (Or.inr (Or.inr (Or.inr (Or.inr (Or.inr (Or.inr (Or.inr (Or.inr (Or.inr (Or.inr (Or.inr (Or.inr (Or.inl h)))))))))))))))))))))))))))))))))))))))))))))) (fun h => h.elim (fun h => (Or.inr (Or.inr (Or.inr (Or.inr (Or.inr (Or.inr (Or.inr (Or.inr (Or.inr (Or.inr (Or.inr (Or.inr (Or.inr (Or.inr (Or.inr (Or.inr (Or.inr (Or.inr (Or.inr (Or.inr (Or.inr (Or.inr (Or.inr (Or.inr (Or.inr (Or.inr (Or.inr (Or.inr (Or.inr (Or.inr (Or.inr (Or.inr (Or.inr (Or.inr (Or.inr (Or.inr (Or.inr (Or.inr (Or.inr (Or.inr (Or.inr (Or.inr (Or.inr (Or.inr (Or.inr (Or.inl h))))))))))))))))))))))))))))))))))))))))))))))) (fun h => h.elim (fun h => (Or.inr (Or.inr (Or.inr (Or.inr (Or.inr (Or.inr (Or.inr (Or.inr (Or.inr (Or.inr (Or.inr (Or.inr (Or.inr (Or.inr (Or.inr (Or.inr (Or.inr (Or.inr (Or.inr (Or.inr (Or.inr (Or.inr (Or.inr (Or.inr (Or.inr (Or.inr (Or.inr (Or.inr (Or.inr (Or.inr (Or.inr (Or.inr (Or.inr (Or.inr (Or.inr (Or.inr (Or.inr (Or.inr (Or.inr (Or.inr (Or.inr (Or.inr (Or.inr (Or.inr (Or.inr (Or.inr (Or.inl h)))))))))))))))))))))))))))))))))))))))))))))))) (fun h => h.elim (fun h => (Or.inr (Or.inr (Or.inr (Or.inr (Or.inr (Or.inr (Or.inr (Or.inr (Or.inr (Or.inr (Or.inr (Or.inr (Or.inr (Or.inr (Or.inr (Or.inr (Or.inr (Or.inr (Or.inr (Or.inr (Or.inr (Or.inr (Or.inr (Or.inr (Or.inr (Or.inr (Or.inr (Or.inr (Or.inr (Or.inr (Or.inr (Or.inr (Or.inr (Or.inr (Or.inr (Or.inr (Or.inr (Or.inr (Or.inr (Or.inr (Or.inr (Or.inr (Or.inr (Or.inr (Or.inr (Or.inr (Or.inr (Or.inl h))))))))))))))))))))))))))))))))))))))))))))))))) (fun h => h.elim (fun h => (Or.inr (Or.inr (Or.inr (Or.inr (Or.inr (Or.inr (Or.inr (Or.inr (Or.inr (Or.inr (Or.inr (Or.inr (Or.inr (Or.inr (Or.inr (Or.inr (Or.inr (Or.inr (Or.inr (Or.inr (Or.inr (Or.inr (Or.inr (Or.inr (Or.inr (Or.inr (Or.inr (Or.inr (Or.inr (Or.inr (Or.inr (Or.inr (Or.inr (Or.inr (Or.inr (Or.inr (Or.inr (Or.inr (Or.inr (Or.inr (Or.inr (Or.inr (Or.inr (Or.inr (Or.inr (Or.inr (Or.inr (Or.inr (Or.inl h)))))))))))))))))))))))))))))))))))))))))))))))))) (fun h => h.elim (fun h => (Or.inr (Or.inr (Or.inr (Or.inr (Or.inr (Or.inr (Or.inr (Or.inr (Or.inr (Or.inr (Or.inr (Or.inr (Or.inr (Or.inr (Or.inr (Or.inr (Or.inr (Or.inr (Or.inr (Or.inr (Or.inr (Or.inr (Or.inr (Or.inr (Or.inr (Or.inr (Or.inr (Or.inr (Or.inr (Or.inr (Or.inr (Or.inr (Or.inr (Or.inr (Or.inr (Or.inr (Or.inr (Or.inr (Or.inr (Or.inr (Or.inr (Or.inr (Or.inr (Or.inr (Or.inr (Or.inr (Or.inr (Or.inr (Or.inr (Or.inl h))))))))))))))))))))))))))))))))))))))))))))))))))) (fun h => h.elim (fun h => (Or.inr (Or.inr (Or.inr (Or.inr (Or.inr (Or.inr (Or.inr (Or.inr (Or.inr (Or.inr (Or.inr (Or.inr (Or.inr (Or.inr (Or.inr (Or.inr (Or.inr (Or.inr (Or.inr (Or.inr (Or.inr (Or.inr (Or.inr (Or.inr (Or.inr (Or.inr (Or.inr (Or.inr (Or.inr (Or.inr (Or.inr (Or.inr (Or.inr (Or.inr (Or.inr (Or.inr (Or.inr (Or.inr (Or.inr (Or.inr (Or.inr (Or.inr (Or.inr (Or.inr (Or.inr (Or.inr (Or.inr (Or.inr (Or.inr (Or.inr (Or.inl h)))))))))))))))))))))))))))))))))))))))))))))))))))) (fun h => h.elim (fun h => (Or.inr (Or.inr (Or.inr (Or.inr (Or.inr (Or.inr (Or.inr (Or.inr (Or.inr (Or.inr (Or.inr (Or.inr (Or.inr (Or.inr (Or.inr (Or.inr (Or.inr (Or.inr (Or.inr (Or.inr (Or.inr (Or.inr (Or.inr (Or.inr (Or.inr (Or.inr (Or.inr (Or.inr (Or.inr (Or.inr (Or.inr (Or.inr (Or.inr (Or.inr (Or.inr (Or.inr (Or.inr (Or.inr (Or.inr (Or.inr (Or.inr (Or.inr (Or.inr (Or.inr (Or.inr (Or.inr (Or.inr (Or.inr (Or.inr (Or.inr (Or.inr (Or.inl h))))))))))))))))))))))))))))))))))))))))))))))))))))) (fun h => h.elim (fun h => (Or.inr (Or.inr (Or.inr (Or.inr (Or.inr (Or.inr (Or.inr (Or.inr (Or.inr (Or.inr (Or.inr (Or.inr (Or.inr (Or.inr (Or.inr (Or.inr (Or.inr (Or.inr (Or.inr (Or.inl h))))))))))))))))))))) (fun h => h.elim (fun h => (Or.inr (Or.inr (Or.inr (Or.inr (Or.inr (Or.inr (Or.inr (Or.inr (Or.inr (Or.inr (Or.inr (Or.inr (Or.inr (Or.inr (Or.inr (Or.inr (Or.inr (Or.inr (Or.inr (Or.inr (Or.inl h)))))))))))))))))))))) (fun h => h.elim (fun h => (Or.inr (Or.inr (Or.inr (Or.inr (Or.inr (Or.inr (Or.inr (Or.inr (Or.inr (Or.inr (Or.inr (Or.inr (Or.inr (Or.inr (Or.inr (Or.inr (Or.inr (Or.inr (Or.inr (Or.inr (Or.inr (Or.inl h))))))))))))))))))))))) (fun h => h.elim (fun h => (Or.inr (Or.inr (Or.inr (Or.inr (Or.inr (Or.inr (Or.inr (Or.inr (Or.inr (Or.inr (Or.inr (Or.inr (Or.inr (Or.inr (Or.inr (Or.inr (Or.inr (Or.inr (Or.inr (Or.inr (Or.inr (Or.inr (Or.inl h)))))))))))))))))))))))) (fun h => h.elim (fun h => (Or.inr (Or.inr (Or.inr (Or.inr (Or.inr (Or.inr (Or.inr (Or.inr (Or.inr (Or.inr (Or.inr (Or.inr (Or.inr (Or.inr (Or.inr (Or.inr (Or.inr (Or.inr (Or.inr (Or.inr (Or.inr (Or.inr (Or.inr (Or.inl h))))))))))))))))))))))))) (fun h => h.elim (fun h => (Or.inr (Or.inr (Or.inr (Or.inr (Or.inr (Or.inr (Or.inr (Or.inr (Or.inr (Or.inr (Or.inr (Or.inr (Or.inr (Or.inr (Or.inr (Or.inr (Or.inr (Or.inr (Or.inr (Or.inr (Or.inr (Or.inr (Or.inr (Or.inr (Or.inl h)))))))))))))))))))))))))) (fun h => h.elim (fun h => (Or.inr (Or.inr (Or.inr (Or.inr (Or.inr (Or.inr (Or.inr (Or.inr (Or.inr (Or.inr (Or.inr (Or.inr (Or.inr (Or.inr (Or.inr (Or.inr (Or.inr (Or.inr (Or.inr (Or.inr (Or.inr (Or.inr (Or.inr (Or.inr (Or.inr (Or.inr (Or.inl h)))))))))))))))))))))))))))) (fun h => h.elim (fun h => (Or.inr (Or.inr (Or.inr (Or.inr (Or.inr (Or.inr (Or.inr (Or.inr (Or.inr (Or.inr (Or.inr (Or.inr (Or.inr (Or.inr (Or.inr (Or.inr (Or.inr (Or.inr (Or.inr (Or.inr (Or.inr (Or.inr (Or.inr (Or.inr (Or.inr (Or.inr (Or.inr (Or.inl h))))))))))))))))))))))))))))) (fun h => h.elim (fun h => (Or.inr (Or.inr (Or.inr (Or.inr (Or.inr (Or.inr (Or.inr (Or.inr (Or.inr (Or.inr (Or.inr (Or.inr (Or.inr (Or.inr (Or.inr (Or.inr (Or.inr (Or.inr (Or.inr (Or.inr (Or.inr (Or.inr (Or.inr (Or.inr (Or.inr (Or.inr (Or.inr (Or.inr (Or.inr (Or.inl h))))))))))))))))))))))))))))))) (fun h => h.elim (fun h => (Or.inr (Or.inr (Or.inr (Or.inr (Or.inr (Or.inr (Or.inr (Or.inr (Or.inr (Or.inr (Or.inr (Or.inr (Or.inr (Or.inr (Or.inr (Or.inr (Or.inr (Or.inr (Or.inr (Or.inr (Or.inr (Or.inr (Or.inr (Or.inr (Or.inr (Or.inr (Or.inr (Or.inr (Or.inr (Or.inr (Or.inl h)))))))))))))))))))))))))))))))) (fun h => h.elim (fun h => (Or.inr (Or.inr (Or.inr (Or.inr (Or.inr (Or.inr (Or.inr (Or.inr (Or.inr (Or.inr (Or.inr (Or.inr (Or.inr (Or.inr (Or.inr (Or.inr (Or.inr (Or.inr (Or.inr (Or.inr (Or.inr (Or.inr (Or.inr (Or.inr (Or.inr (Or.inr (Or.inr (Or.inr (Or.inr (Or.inr (Or.inr (Or.inl h))))))))))))))))))))))))))))))))) (fun h => h.elim (fun h => (Or.inr (Or.inr (Or.inr (Or.inr (Or.inr (Or.inr (Or.inr (Or.inr (Or.inr (Or.inr (Or.inr (Or.inr (Or.inr (Or.inr (Or.inr (Or.inr (Or.inr (Or.inr (Or.inr (Or.inr (Or.inr (Or.inr (Or.inr (Or.inr (Or.inr (Or.inr (Or.inr (Or.inr (Or.inr (Or.inr (Or.inr (Or.inr (Or.inl h)))))))))))))))))))))))))))))))))) (fun h => h.elim (fun h => (Or.inr (Or.inr (Or.inr (Or.inr (Or.inr (Or.inr (Or.inr (Or.inr (Or.inr (Or.inr (Or.inr (Or.inr (Or.inr (Or.inr (Or.inr (Or.inr (Or.inr (Or.inr (Or.inr (Or.inr (Or.inr (Or.inr (Or.inr (Or.inr (Or.inr (Or.inr (Or.inr (Or.inr (Or.inr (Or.inr (Or.inr (Or.inr (Or.inr (Or.inl h))))))))))))))))))))))))))))))))))) (fun h => h.elim (fun h => (Or.inr (Or.inr (Or.inr (Or.inr (Or.inr (Or.inr (Or.inr (Or.inr (Or.inr (Or.inr (Or.inr (Or.inr (Or.inr (Or.inr (Or.inr (Or.inr (Or.inr (Or.inr (Or.inr (Or.inr (Or.inr (Or.inr (Or.inr (Or.inr (Or.inr (Or.inr (Or.inr (Or.inr (Or.inr (Or.inr (Or.inr (Or.inr (Or.inr (Or.inr (Or.inl h)))))))))))))))))))))))))))))))))))) (fun h => h.elim (fun h => (Or.inr (Or.inr (Or.inr (Or.inr (Or.inr (Or.inr (Or.inr (Or.inr (Or.inr (Or.inr (Or.inr (Or.inr (Or.inr (Or.inr (Or.inr (Or.inr (Or.inr (Or.inr (Or.inr (Or.inr (Or.inr (Or.inr (Or.inr (Or.inr (Or.inr (Or.inr (Or.inr (Or.inr (Or.inr (Or.inr (Or.inr (Or.inr (Or.inr (Or.inr (Or.inr (Or.inl h))))))))))))))))))))))))))))))))))))) (fun h => h.elim (fun h => (Or.inr (Or.inr (Or.inr (Or.inr (Or.inr (Or.inr (Or.inr (Or.inr (Or.inr (Or.inr (Or.inr (Or.inr (Or.inr (Or.inr (Or.inr (Or.inr (Or.inr (Or.inr (Or.inr (Or.inr (Or.inr (Or.inr (Or.inr (Or.inr (Or.inr (Or.inr (Or.inr (Or.inr (Or.inr (Or.inr (Or.inr (Or.inr (Or.inr (Or.inr (Or.inr (Or.inr (Or.inl h)))))))))))))))))))))))))))))))))))))) (fun h => (Or.inr (Or.inr (Or.inr (Or.inr (Or.inr (Or.inr (Or.inr (Or.inr (Or.inr (Or.inr (Or.inr (Or.inr (Or.inr (Or.inr (Or.inr (Or.inr (Or.inr (Or.inr (Or.inr (Or.inr (Or.inr (Or.inr (Or.inr (Or.inr (Or.inr (Or.inr (Or.inr (Or.inr (Or.inr (Or.inr (Or.inr (Or.inr (Or.inr (Or.inr (Or.inr (Or.inr (Or.inr (Or.inl h))))))))))))))))))))))))))))))))))))))))))))))))))))))))))))))))))) h))
  obtain ⟨r_3, s_3, e_3, hf⟩ := mm_bd_ok hf
  have F := F.trans (mm_fr.eq (fr_X5_isFaulty  s_2 r_3 s_3 e_3))
  by_cases c_4 : r_3 = (0 : Int32)
  · replace hf := mm_it c_4 hf
    exact F.trans (fr_X10_play_J34 rv σ1 (s_3 9 26 0 2) s_3 hf)
  · replace hf := mm_if c_4 hf
    exact F.trans (fr_X10_play_J34 rv σ1 (-1000002 : Int32) s_3 hf)
def fw_X11_begins  (q t i : Nat) : Prop := (q = 10 ∧ t = 32)
theorem fr_X11_begins_L2  (rv : Int32) (σ1 : mm_M)  : ∀ (fu : Nat) (v1 : Int32) (σ : mm_M), fx_X11_begins_L2  fu v1 σ = some (rv, σ1) → mm_fr (fw_X11_begins) σ σ1 := by
  intro fu
  induction fu with
  | zero =>
    intro v1 σ hf
    exact mm_no hf
  | succ fu ih =>
    intro v1 σ hf
    rw [fx_X11_begins_L2] at hf
    have F : mm_fr (fw_X11_begins) σ σ := mm_fr.rf
    by_cases c_1 : (207 : Int32) ≤ v1
    · replace hf := mm_it c_1 hf
      exact mm_fr.ret hf F
    · replace hf := mm_if c_1 hf
      obtain ⟨h_2, hf⟩ := mm_gd_ok hf
      obtain ⟨h_3, hf⟩ := mm_gd_ok hf
      obtain ⟨s_4, e_4, hf⟩ := mm_lt_ok hf
      have F := F.trans (mm_fr.a e_4 (fun _ => ⟨rfl, rfl⟩))
      obtain ⟨y_5, e_5, hf⟩ := mm_li_ok hf
      exact F.trans (ih y_5 s_4 hf)
theorem fr_X11_begins  (σ : mm_M) (rv : Int32) (σ1 : mm_M) (hf : fx_X11_begins  σ = some (rv, σ1)) : mm_fr (fw_X11_begins) σ σ1 := by
  rw [fx_X11_begins] at hf
  have F : mm_fr (fw_X11_begins) σ σ := mm_fr.rf
  exact F.trans (fr_X11_begins_L2 rv σ1 mm_FU (0 : Int32) σ hf)
def fw_X11_in (x0 : Int32) (x1 : Int32) (x2 : Int32) (q t i : Nat) : Prop := False
theorem fr_X11_in (x0 : Int32) (x1 : Int32) (x2 : Int32) (σ : mm_M) (rv : Int32) (σ1 : mm_M) (hf : fx_X11_in x0 x1 x2 σ = some (rv, σ1)) : σ1 = σ := by
  refine mm_fr.none (W := (fw_X11_in x0 x1 x2)) (fun _ _ _ h => h) ?_
  rw [fx_X11_in] at hf
  have F : mm_fr (fw_X11_in x0 x1 x2) σ σ := mm_fr.rf
  by_cases c_1 : x0 < x1
  · replace hf := mm_it c_1 hf
    exact mm_fr.ret hf F
  · replace hf := mm_if c_1 hf
    by_cases c_2 : x2 < x0
    · replace hf := mm_it c_2 hf
      exact mm_fr.ret hf F
    · replace hf := mm_if c_2 hf
      exact mm_fr.ret hf F
def fw_X11_isCell (x0 : Int32) (q t i : Nat) : Prop := False
theorem fr_X11_isCell (x0 : Int32) (σ : mm_M) (rv : Int32) (σ1 : mm_M) (hf : fx_X11_isCell x0 σ = some (rv, σ1)) : σ1 = σ := by
  refine mm_fr.none (W := (fw_X11_isCell x0)) (fun _ _ _ h => h) ?_
  rw [fx_X11_isCell] at hf
  have F : mm_fr (fw_X11_isCell x0) σ σ := mm_fr.rf
  obtain ⟨r_1, s_1, e_1, hf⟩ := mm_bd_ok hf
  have F := F.trans (mm_fr.eq (fr_X11_in x0 (0 : Int32) (63 : Int32) σ r_1 s_1 e_1))
  obtain ⟨h_2, hf⟩ := mm_gd_ok hf
  exact mm_fr.ret hf F
def fw_X11_of (x1 : Int32) (x2 : Int32) (q t i : Nat) : Prop := False
theorem fr_X11_of (x1 : Int32) (x2 : Int32) (σ : mm_M) (rv : Int32) (σ1 : mm_M) (hf : fx_X11_of x1 x2 σ = some (rv, σ1)) : σ1 = σ := by
  refine mm_fr.none (W := (fw_X11_of x1 x2)) (fun _ _ _ h => h) ?_
  rw [fx_X11_of] at hf
  have F : mm_fr (fw_X11_of x1 x2) σ σ := mm_fr.rf
  obtain ⟨h_1, hf⟩ := mm_gd_ok hf
  exact mm_fr.ret hf F
def fw_X11_cartOn (x1 : Int32) (q t i : Nat) : Prop := False
theorem fr_X11_cartOn_J29 (x1 : Int32) (rv : Int32) (σ1 : mm_M) (k4 : Int32 → Int32 → mm_M → mm_R) (hk4 : ∀ (v2 : Int32) (v3 : Int32) (σ : mm_M), k4 v2 v3 σ = some (rv, σ1) → mm_fr (fw_X11_cartOn x1) σ σ1) : ∀ (v3 : Int32) (w0 : Int32) (σ : mm_M), fx_X11_cartOn_J29 x1 k4 v3 w0 σ = some (rv, σ1) → mm_fr (fw_X11_cartOn x1) σ σ1 := by
  intro v3 w0 σ hf
  rw [fx_X11_cartOn_J29] at hf
  have F : mm_fr (fw_X11_cartOn x1) σ σ := mm_fr.rf
  obtain ⟨y_4, e_4, hf⟩ := mm_li_ok hf
  exact F.trans (hk4 w0 y_4 σ hf)
theorem fr_X11_cartOn_L4 (x1 : Int32) (rv : Int32) (σ1 : mm_M)  : ∀ (fu : Nat) (v2 : Int32) (v3 : Int32) (σ : mm_M), fx_X11_cartOn_L4 x1 fu v2 v3 σ = some (rv, σ1) → mm_fr (fw_X11_cartOn x1) σ σ1 := by
  intro fu
  induction fu with
  | zero =>
    intro v2 v3 σ hf
    exact mm_no hf
  | succ fu ih =>
    intro v2 v3 σ hf
    rw [fx_X11_cartOn_L4] at hf
    have F : mm_fr (fw_X11_cartOn x1) σ σ := mm_fr.rf
    by_cases c_1 : (σ 10 31 0 (0 : Int32).toNatClampNeg) ≤ v3
    · replace hf := mm_it c_1 hf
      exact mm_fr.ret hf F
    · replace hf := mm_if c_1 hf
      obtain ⟨r_2, s_2, e_2, hf⟩ := mm_bd_ok hf
      have F := F.trans (mm_fr.eq (fr_X11_of v3 (1 : Int32) σ r_2 s_2 e_2))
      by_cases c_3 : r_2 = x1
      · replace hf := mm_it c_3 hf
        exact F.trans (fr_X11_cartOn_J29 x1 rv σ1 (fun z0 z1 z => fx_X11_cartOn_L4 x1 fu z0 z1 z) ih v3 v3 s_2 hf)
      · replace hf := mm_if c_3 hf
        exact F.trans (fr_X11_cartOn_J29 x1 rv σ1 (fun z0 z1 z => fx_X11_cartOn_L4 x1 fu z0 z1 z) ih v3 v2 s_2 hf)
theorem fr_X11_cartOn (x1 : Int32) (σ : mm_M) (rv : Int32) (σ1 : mm_M) (hf : fx_X11_cartOn x1 σ = some (rv, σ1)) : σ1 = σ := by
  refine mm_fr.none (W := (fw_X11_cartOn x1)) (fun _ _ _ h => h) ?_
  rw [fx_X11_cartOn] at hf
  have F : mm_fr (fw_X11_cartOn x1) σ σ := mm_fr.rf
  exact F.trans (fr_X11_cartOn_L4 x1 rv σ1 mm_FU (-1 : Int32) (0 : Int32) σ hf)
def fw_X11_kinds (x1 : Int32) (x2 : Int32) (q t i : Nat) : Prop := (q = 10 ∧ t = 31)
theorem fr_X11_kinds_J37 (x1 : Int32) (x2 : Int32) (rv : Int32) (σ1 : mm_M)  : ∀ (σ : mm_M), fx_X11_kinds_J37 x1 x2  σ = some (rv, σ1) → mm_fr (fw_X11_kinds x1 x2) σ σ1 := by
  intro  σ hf
  rw [fx_X11_kinds_J37] at hf
  have F : mm_fr (fw_X11_kinds x1 x2) σ σ := mm_fr.rf
  obtain ⟨h_8, hf⟩ := mm_gd_ok hf
  obtain ⟨y_9, e_9, hf⟩ := mm_li_ok hf
  obtain ⟨h_10, hf⟩ := mm_gd_ok hf
  obtain ⟨s_11, e_11, hf⟩ := mm_lt_ok hf
  have F := F.trans (mm_fr.a e_11 (fun _ => ⟨rfl, rfl⟩))
  exact mm_fr.ret hf F
theorem fr_X11_kinds (x1 : Int32) (x2 : Int32) (σ : mm_M) (rv : Int32) (σ1 : mm_M) (hf : fx_X11_kinds x1 x2 σ = some (rv, σ1)) : mm_fr (fw_X11_kinds x1 x2) σ σ1 := by
  rw [fx_X11_kinds] at hf
  have F : mm_fr (fw_X11_kinds x1 x2) σ σ := mm_fr.rf
  obtain ⟨r_1, s_1, e_1, hf⟩ := mm_bd_ok hf
  have F := F.trans (mm_fr.eq (fr_X11_isCell x1 σ r_1 s_1 e_1))
  by_cases c_2 : r_1 = (0 : Int32)
  · replace hf := mm_it c_2 hf
    exact mm_fr.ret hf F
  · replace hf := mm_if c_2 hf
    obtain ⟨r_3, s_3, e_3, hf⟩ := mm_bd_ok hf
    have F := F.trans (mm_fr.eq (fr_X11_in x2 (0 : Int32) (8 : Int32) s_1 r_3 s_3 e_3))
    by_cases c_4 : r_3 = (0 : Int32)
    · replace hf := mm_it c_4 hf
      exact mm_fr.ret hf F
    · replace hf := mm_if c_4 hf
      by_cases c_5 : x2 = (7 : Int32)
      · replace hf := mm_it c_5 hf
        obtain ⟨r_6, s_6, e_6, hf⟩ := mm_bd_ok hf
        have F := F.trans (mm_fr.eq (fr_X11_cartOn x1 s_3 r_6 s_6 e_6))
        by_cases c_7 : r_6 < (0 : Int32)
        · replace hf := mm_it c_7 hf
          exact F.trans (fr_X11_kinds_J37 x1 x2 rv σ1 s_6 hf)
        · replace hf := mm_if c_7 hf
          exact mm_fr.ret hf F
      · replace hf := mm_if c_5 hf
        exact F.trans (fr_X11_kinds_J37 x1 x2 rv σ1 s_3 hf)
def fw_X11_returns  (q t i : Nat) : Prop := (q = 10 ∧ t = 31)
theorem fr_X11_returns_L2  (rv : Int32) (σ1 : mm_M)  : ∀ (fu : Nat) (v1 : Int32) (σ : mm_M), fx_X11_returns_L2  fu v1 σ = some (rv, σ1) → mm_fr (fw_X11_returns) σ σ1 := by
  intro fu
  induction fu with
  | zero =>
    intro v1 σ hf
    exact mm_no hf
  | succ fu ih =>
    intro v1 σ hf
    rw [fx_X11_returns_L2] at hf
    have F : mm_fr (fw_X11_returns) σ σ := mm_fr.rf
    by_cases c_1 : (207 : Int32) ≤ v1
    · replace hf := mm_it c_1 hf
      exact mm_fr.ret hf F
    · replace hf := mm_if c_1 hf
      obtain ⟨h_2, hf⟩ := mm_gd_ok hf
      obtain ⟨h_3, hf⟩ := mm_gd_ok hf
      obtain ⟨s_4, e_4, hf⟩ := mm_lt_ok hf
      have F := F.trans (mm_fr.a e_4 (fun _ => ⟨rfl, rfl⟩))
      obtain ⟨y_5, e_5, hf⟩ := mm_li_ok hf
      exact F.trans (ih y_5 s_4 hf)
theorem fr_X11_returns  (σ : mm_M) (rv : Int32) (σ1 : mm_M) (hf : fx_X11_returns  σ = some (rv, σ1)) : mm_fr (fw_X11_returns) σ σ1 := by
  rw [fx_X11_returns] at hf
  have F : mm_fr (fw_X11_returns) σ σ := mm_fr.rf
  exact F.trans (fr_X11_returns_L2 rv σ1 mm_FU (0 : Int32) σ hf)
def fw_X11_acted (x1 : Int32) (q t i : Nat) : Prop := (q = 10 ∧ t = 30 ∧ i = 4) ∨ (q = 10 ∧ t = 31) ∨ (q = 10 ∧ t = 34)
theorem fr_X11_acted_L63 (x1 : Int32) (rv : Int32) (σ1 : mm_M)  : ∀ (fu : Nat) (v2 : Int32) (σ : mm_M), fx_X11_acted_L63 x1 fu v2 σ = some (rv, σ1) → mm_fr (fw_X11_acted x1) σ σ1 := by
  intro fu
  induction fu with
  | zero =>
    intro v2 σ hf
    exact mm_no hf
  | succ fu ih =>
    intro v2 σ hf
    rw [fx_X11_acted_L63] at hf
    have F : mm_fr (fw_X11_acted x1) σ σ := mm_fr.rf
    by_cases c_4 : (207 : Int32) ≤ v2
    · replace hf := mm_it c_4 hf
      obtain ⟨s_5, e_5, hf⟩ := mm_lt_ok hf
      have F := F.trans (mm_fr.u e_5 ((Or.inl ⟨rfl, rfl, rfl⟩)))
      exact mm_fr.ret hf F
    · replace hf := mm_if c_4 hf
      obtain ⟨h_6, hf⟩ := mm_gd_ok hf
      obtain ⟨h_7, hf⟩ := mm_gd_ok hf
      obtain ⟨s_8, e_8, hf⟩ := mm_lt_ok hf
      have F := F.trans (mm_fr.a e_8 (fun _ => (Or.inr (Or.inr ⟨rfl, rfl⟩))))
      obtain ⟨y_9, e_9, hf⟩ := mm_li_ok hf
      exact F.trans (ih y_9 s_8 hf)
theorem fr_X11_acted_L22 (x1 : Int32) (rv : Int32) (σ1 : mm_M)  : ∀ (fu : Nat) (v2 : Int32) (σ : mm_M), fx_X11_acted_L22 x1 fu v2 σ = some (rv, σ1) → mm_fr (fw_X11_acted x1) σ σ1 := by
  intro fu
  induction fu with
  | zero =>
    intro v2 σ hf
    exact mm_no hf
  | succ fu ih =>
    intro v2 σ hf
    rw [fx_X11_acted_L22] at hf
    have F : mm_fr (fw_X11_acted x1) σ σ := mm_fr.rf
    by_cases c_10 : (621 : Int32) ≤ v2
    · replace hf := mm_it c_10 hf
      obtain ⟨s_11, e_11, hf⟩ := mm_lt_ok hf
      have F := F.trans (mm_fr.u e_11 ((Or.inl ⟨rfl, rfl, rfl⟩)))
      exact F.trans (fr_X11_acted_L63 x1 rv σ1 mm_FU (0 : Int32) s_11 hf)
    · replace hf := mm_if c_10 hf
      obtain ⟨h_12, hf⟩ := mm_gd_ok hf
      obtain ⟨h_13, hf⟩ := mm_gd_ok hf
      obtain ⟨s_14, e_14, hf⟩ := mm_lt_ok hf
      have F := F.trans (mm_fr.a e_14 (fun _ => (Or.inr (Or.inr ⟨rfl, rfl⟩))))
      obtain ⟨y_15, e_15, hf⟩ := mm_li_ok hf
      exact F.trans (ih y_15 s_14 hf)
theorem fr_X11_acted (x1 : Int32) (σ : mm_M) (rv : Int32) (σ1 : mm_M) (hf : fx_X11_acted x1 σ = some (rv, σ1)) : mm_fr (fw_X11_acted x1) σ σ1 := by
  rw [fx_X11_acted] at hf
  have F : mm_fr (fw_X11_acted x1) σ σ := mm_fr.rf
  by_cases c_1 : (-1000001 : Int32) < x1
  · replace hf := mm_it c_1 hf
    by_cases c_2 : (σ 10 30 0 4) = (4 : Int32)
    · replace hf := mm_it c_2 hf
      exact F.trans (fr_X11_acted_L22 x1 rv σ1 mm_FU (0 : Int32) σ hf)
    · replace hf := mm_if c_2 hf
      exact F.trans (fr_X11_acted_L63 x1 rv σ1 mm_FU (0 : Int32) σ hf)
  · replace hf := mm_if c_1 hf
    obtain ⟨r_3, s_3, e_3, hf⟩ := mm_bd_ok hf
    have F := F.trans ((fr_X11_returns  σ r_3 s_3 e_3).mono (fun q t i h => (fun h => (Or.inr (Or.inl h))) h))
    exact mm_fr.ret hf F
def fw_X11_kind (x1 : Int32) (x2 : Int32) (q t i : Nat) : Prop := (q = 10 ∧ t = 30 ∧ i = 4) ∨ (q = 10 ∧ t = 31) ∨ (q = 10 ∧ t = 32) ∨ (q = 10 ∧ t = 34)
theorem fr_X11_kind (x1 : Int32) (x2 : Int32) (σ : mm_M) (rv : Int32) (σ1 : mm_M) (hf : fx_X11_kind x1 x2 σ = some (rv, σ1)) : mm_fr (fw_X11_kind x1 x2) σ σ1 := by
  rw [fx_X11_kind] at hf
  have F : mm_fr (fw_X11_kind x1 x2) σ σ := mm_fr.rf
  obtain ⟨r_1, s_1, e_1, hf⟩ := mm_bd_ok hf
  have F := F.trans ((fr_X11_begins  σ r_1 s_1 e_1).mono (fun q t i h => (fun h => (Or.inr (Or.inr (Or.inl h)))) h))
  obtain ⟨r_2, s_2, e_2, hf⟩ := mm_bd_ok hf
  have F := F.trans ((fr_X11_kinds x1 x2 s_1 r_2 s_2 e_2).mono (fun q t i h => (fun h => (Or.inr (Or.inl h))) h))
  obtain ⟨r_3, s_3, e_3, hf⟩ := mm_bd_ok hf
  have F := F.trans ((fr_X11_acted r_2 s_2 r_3 s_3 e_3).mono (fun q t i h => (fun h => h.elim (fun h => (Or.inl h)) (fun h => h.elim (fun h => (Or.inr (Or.inl h))) (fun h => (Or.inr (Or.inr (Or.inr h)))))) h))
  exact mm_fr.ret hf F
def fw_X11_next (x0 : Int32) (x1 : Int32) (q t i : Nat) : Prop := False
theorem fr_X11_next_J47 (x0 : Int32) (x1 : Int32) (rv : Int32) (σ1 : mm_M)  : ∀ (v2 : Int32) (w0 : Int32) (w1 : Int32) (σ : mm_M), fx_X11_next_J47 x0 x1 v2 w0 w1 σ = some (rv, σ1) → mm_fr (fw_X11_next x0 x1) σ σ1 := by
  intro v2 w0 w1 σ hf
  rw [fx_X11_next_J47] at hf
  have F : mm_fr (fw_X11_next x0 x1) σ σ := mm_fr.rf
  obtain ⟨y_6, e_6, hf⟩ := mm_li_ok hf
  obtain ⟨r_7, s_7, e_7, hf⟩ := mm_bd_ok hf
  have F := F.trans (mm_fr.eq (fr_X11_in v2 (0 : Int32) (7 : Int32) σ r_7 s_7 e_7))
  by_cases c_8 : r_7 = (0 : Int32)
  · replace hf := mm_it c_8 hf
    exact mm_fr.ret hf F
  · replace hf := mm_if c_8 hf
    obtain ⟨r_9, s_9, e_9, hf⟩ := mm_bd_ok hf
    have F := F.trans (mm_fr.eq (fr_X11_in y_6 (0 : Int32) (7 : Int32) s_7 r_9 s_9 e_9))
    by_cases c_10 : r_9 = (0 : Int32)
    · replace hf := mm_it c_10 hf
      exact mm_fr.ret hf F
    · replace hf := mm_if c_10 hf
      exact mm_fr.ret hf F
theorem fr_X11_next_J23 (x0 : Int32) (x1 : Int32) (rv : Int32) (σ1 : mm_M)  : ∀ (w0 : Int32) (w1 : Int32) (σ : mm_M), fx_X11_next_J23 x0 x1 w0 w1 σ = some (rv, σ1) → mm_fr (fw_X11_next x0 x1) σ σ1 := by
  intro w0 w1 σ hf
  rw [fx_X11_next_J23] at hf
  have F : mm_fr (fw_X11_next x0 x1) σ σ := mm_fr.rf
  obtain ⟨y_3, e_3, hf⟩ := mm_li_ok hf
  by_cases c_4 : x1 = (2 : Int32)
  · replace hf := mm_it c_4 hf
    exact F.trans (fr_X11_next_J47 x0 x1 rv σ1 y_3 (x0 / (8 : Int32)) (1 : Int32) σ hf)
  · replace hf := mm_if c_4 hf
    by_cases c_5 : x1 = (0 : Int32)
    · replace hf := mm_it c_5 hf
      exact F.trans (fr_X11_next_J47 x0 x1 rv σ1 y_3 (x0 / (8 : Int32)) (-1 : Int32) σ hf)
    · replace hf := mm_if c_5 hf
      exact F.trans (fr_X11_next_J47 x0 x1 rv σ1 y_3 (x0 / (8 : Int32)) (0 : Int32) σ hf)
theorem fr_X11_next (x0 : Int32) (x1 : Int32) (σ : mm_M) (rv : Int32) (σ1 : mm_M) (hf : fx_X11_next x0 x1 σ = some (rv, σ1)) : σ1 = σ := by
  refine mm_fr.none (W := (fw_X11_next x0 x1)) (fun _ _ _ h => h) ?_
  rw [fx_X11_next] at hf
  have F : mm_fr (fw_X11_next x0 x1) σ σ := mm_fr.rf
  by_cases c_1 : x1 = (1 : Int32)
  · replace hf := mm_it c_1 hf
    exact F.trans (fr_X11_next_J23 x0 x1 rv σ1 (x0 - x0 / (8 : Int32) * (8 : Int32)) (1 : Int32) σ hf)
  · replace hf := mm_if c_1 hf
    by_cases c_2 : x1 = (3 : Int32)
    · replace hf := mm_it c_2 hf
      exact F.trans (fr_X11_next_J23 x0 x1 rv σ1 (x0 - x0 / (8 : Int32) * (8 : Int32)) (-1 : Int32) σ hf)
    · replace hf := mm_if c_2 hf
      exact F.trans (fr_X11_next_J23 x0 x1 rv σ1 (x0 - x0 / (8 : Int32) * (8 : Int32)) (0 : Int32) σ hf)
def fw_X11_walls (x1 : Int32) (x2 : Int32) (q t i : Nat) : Prop := (q = 10 ∧ t = 31)
theorem fr_X11_walls_J63 (x1 : Int32) (x2 : Int32) (rv : Int32) (σ1 : mm_M)  : ∀ (σ : mm_M), fx_X11_walls_J63 x1 x2  σ = some (rv, σ1) → mm_fr (fw_X11_walls x1 x2) σ σ1 := by
  intro  σ hf
  rw [fx_X11_walls_J63] at hf
  have F : mm_fr (fw_X11_walls x1 x2) σ σ := mm_fr.rf
  obtain ⟨h_13, hf⟩ := mm_gd_ok hf
  exact mm_fr.ret hf F
theorem fr_X11_walls (x1 : Int32) (x2 : Int32) (σ : mm_M) (rv : Int32) (σ1 : mm_M) (hf : fx_X11_walls x1 x2 σ = some (rv, σ1)) : mm_fr (fw_X11_walls x1 x2) σ σ1 := by
  rw [fx_X11_walls] at hf
  have F : mm_fr (fw_X11_walls x1 x2) σ σ := mm_fr.rf
  obtain ⟨r_1, s_1, e_1, hf⟩ := mm_bd_ok hf
  have F := F.trans (mm_fr.eq (fr_X11_isCell x1 σ r_1 s_1 e_1))
  by_cases c_2 : r_1 = (0 : Int32)
  · replace hf := mm_it c_2 hf
    exact mm_fr.ret hf F
  · replace hf := mm_if c_2 hf
    obtain ⟨r_3, s_3, e_3, hf⟩ := mm_bd_ok hf
    have F := F.trans (mm_fr.eq (fr_X11_in x2 (0 : Int32) (3 : Int32) s_1 r_3 s_3 e_3))
    by_cases c_4 : r_3 = (0 : Int32)
    · replace hf := mm_it c_4 hf
      exact mm_fr.ret hf F
    · replace hf := mm_if c_4 hf
      obtain ⟨h_5, hf⟩ := mm_gd_ok hf
      obtain ⟨h_6, hf⟩ := mm_gd_ok hf
      obtain ⟨s_7, e_7, hf⟩ := mm_lt_ok hf
      have F := F.trans (mm_fr.a e_7 (fun _ => ⟨rfl, rfl⟩))
      obtain ⟨r_8, s_8, e_8, hf⟩ := mm_bd_ok hf
      have F := F.trans (mm_fr.eq (fr_X11_next x1 x2 s_7 r_8 s_8 e_8))
      by_cases c_9 : r_8 < (0 : Int32)
      · replace hf := mm_it c_9 hf
        exact F.trans (fr_X11_walls_J63 x1 x2 rv σ1 s_8 hf)
      · replace hf := mm_if c_9 hf
        obtain ⟨h_10, hf⟩ := mm_gd_ok hf
        obtain ⟨h_11, hf⟩ := mm_gd_ok hf
        obtain ⟨s_12, e_12, hf⟩ := mm_lt_ok hf
        have F := F.trans (mm_fr.a e_12 (fun _ => ⟨rfl, rfl⟩))
        exact F.trans (fr_X11_walls_J63 x1 x2 rv σ1 s_12 hf)
def fw_X11_wall (x1 : Int32) (x2 : Int32) (q t i : Nat) : Prop := (q = 10 ∧ t = 30 ∧ i = 4) ∨ (q = 10 ∧ t = 31) ∨ (q = 10 ∧ t = 32) ∨ (q = 10 ∧ t = 34)
theorem fr_X11_wall (x1 : Int32) (x2 : Int32) (σ : mm_M) (rv : Int32) (σ1 : mm_M) (hf : fx_X11_wall x1 x2 σ = some (rv, σ1)) : mm_fr (fw_X11_wall x1 x2) σ σ1 := by
  rw [fx_X11_wall] at hf
  have F : mm_fr (fw_X11_wall x1 x2) σ σ := mm_fr.rf
  obtain ⟨r_1, s_1, e_1, hf⟩ := mm_bd_ok hf
  have F := F.trans ((fr_X11_begins  σ r_1 s_1 e_1).mono (fun q t i h => (fun h => (Or.inr (Or.inr (Or.inl h)))) h))
  obtain ⟨r_2, s_2, e_2, hf⟩ := mm_bd_ok hf
  have F := F.trans ((fr_X11_walls x1 x2 s_1 r_2 s_2 e_2).mono (fun q t i h => (fun h => (Or.inr (Or.inl h))) h))
  obtain ⟨r_3, s_3, e_3, hf⟩ := mm_bd_ok hf
  have F := F.trans ((fr_X11_acted r_2 s_2 r_3 s_3 e_3).mono (fun q t i h => (fun h => h.elim (fun h => (Or.inl h)) (fun h => h.elim (fun h => (Or.inr (Or.inl h))) (fun h => (Or.inr (Or.inr (Or.inr h)))))) h))
  exact mm_fr.ret hf F
def fw_X11_flag (x1 : Int32) (x2 : Int32) (q t i : Nat) : Prop := (q = 10 ∧ t = 30 ∧ i = 4) ∨ (q = 10 ∧ t = 31) ∨ (q = 10 ∧ t = 32) ∨ (q = 10 ∧ t = 34)
theorem fr_X11_flag_J68 (x1 : Int32) (x2 : Int32) (rv : Int32) (σ1 : mm_M)  : ∀ (w1 : Int32) (w2 : Int32) (σ : mm_M), fx_X11_flag_J68 x1 x2 w1 w2 σ = some (rv, σ1) → mm_fr (fw_X11_flag x1 x2) σ σ1 := by
  intro w1 w2 σ hf
  rw [fx_X11_flag_J68] at hf
  have F : mm_fr (fw_X11_flag x1 x2) σ σ := mm_fr.rf
  obtain ⟨h_8, hf⟩ := mm_gd_ok hf
  obtain ⟨s_9, e_9, hf⟩ := mm_lt_ok hf
  have F := F.trans (mm_fr.a e_9 (fun _ => (Or.inr (Or.inl ⟨rfl, rfl⟩))))
  obtain ⟨h_10, hf⟩ := mm_gd_ok hf
  obtain ⟨s_11, e_11, hf⟩ := mm_lt_ok hf
  have F := F.trans (mm_fr.a e_11 (fun _ => (Or.inr (Or.inl ⟨rfl, rfl⟩))))
  obtain ⟨r_12, s_12, e_12, hf⟩ := mm_bd_ok hf
  have F := F.trans ((fr_X11_acted (s_11 10 31 0 (3 : Int32).toNatClampNeg) s_11 r_12 s_12 e_12).mono (fun q t i h => (fun h => h.elim (fun h => (Or.inl h)) (fun h => h.elim (fun h => (Or.inr (Or.inl h))) (fun h => (Or.inr (Or.inr (Or.inr h)))))) h))
  exact mm_fr.ret hf F
theorem fr_X11_flag (x1 : Int32) (x2 : Int32) (σ : mm_M) (rv : Int32) (σ1 : mm_M) (hf : fx_X11_flag x1 x2 σ = some (rv, σ1)) : mm_fr (fw_X11_flag x1 x2) σ σ1 := by
  rw [fx_X11_flag] at hf
  have F : mm_fr (fw_X11_flag x1 x2) σ σ := mm_fr.rf
  obtain ⟨r_1, s_1, e_1, hf⟩ := mm_bd_ok hf
  have F := F.trans ((fr_X11_begins  σ r_1 s_1 e_1).mono (fun q t i h => (fun h => (Or.inr (Or.inr (Or.inl h)))) h))
  obtain ⟨r_2, s_2, e_2, hf⟩ := mm_bd_ok hf
  have F := F.trans (mm_fr.eq (fr_X11_in x1 (0 : Int32) (3 : Int32) s_1 r_2 s_2 e_2))
  by_cases c_3 : r_2 = (0 : Int32)
  · replace hf := mm_it c_3 hf
    exact mm_fr.ret hf F
  · replace hf := mm_if c_3 hf
    obtain ⟨r_4, s_4, e_4, hf⟩ := mm_bd_ok hf
    have F := F.trans (mm_fr.eq (fr_X11_isCell x2 s_2 r_4 s_4 e_4))
    by_cases c_5 : r_4 = (0 : Int32)
    · replace hf := mm_it c_5 hf
      exact mm_fr.ret hf F
    · replace hf := mm_if c_5 hf
      by_cases c_6 : x1 ≤ (s_4 10 31 0 (3 : Int32).toNatClampNeg)
      · replace hf := mm_it c_6 hf
        by_cases c_7 : x1 = (s_4 10 31 0 (3 : Int32).toNatClampNeg)
        · replace hf := mm_it c_7 hf
          exact F.trans (fr_X11_flag_J68 x1 x2 rv σ1 (3 : Int32) ((s_4 10 31 0 (3 : Int32).toNatClampNeg) + (1 : Int32)) s_4 hf)
        · replace hf := mm_if c_7 hf
          exact F.trans (fr_X11_flag_J68 x1 x2 rv σ1 (3 : Int32) (s_4 10 31 0 (3 : Int32).toNatClampNeg) s_4 hf)
      · replace hf := mm_if c_6 hf
        exact mm_fr.ret hf F
def fw_X11_isGood (x1 : Int32) (q t i : Nat) : Prop := False
theorem fr_X11_isGood (x1 : Int32) (σ : mm_M) (rv : Int32) (σ1 : mm_M) (hf : fx_X11_isGood x1 σ = some (rv, σ1)) : σ1 = σ := by
  refine mm_fr.none (W := (fw_X11_isGood x1)) (fun _ _ _ h => h) ?_
  rw [fx_X11_isGood] at hf
  have F : mm_fr (fw_X11_isGood x1) σ σ := mm_fr.rf
  obtain ⟨h_1, hf⟩ := mm_gd_ok hf
  by_cases c_2 : (σ 10 31 0 ((11 : Int32) + x1).toNatClampNeg) = (7 : Int32)
  · replace hf := mm_it c_2 hf
    exact mm_fr.ret hf F
  · replace hf := mm_if c_2 hf
    obtain ⟨r_3, s_3, e_3, hf⟩ := mm_bd_ok hf
    have F := F.trans (mm_fr.eq (fr_X11_cartOn x1 σ r_3 s_3 e_3))
    by_cases c_4 : (0 : Int32) ≤ r_3
    · replace hf := mm_it c_4 hf
      exact mm_fr.ret hf F
    · replace hf := mm_if c_4 hf
      exact mm_fr.ret hf F
def fw_X11_lays (x1 : Int32) (x2 : Int32) (x3 : Int32) (q t i : Nat) : Prop := (q = 10 ∧ t = 31)
theorem fr_X11_lays (x1 : Int32) (x2 : Int32) (x3 : Int32) (σ : mm_M) (rv : Int32) (σ1 : mm_M) (hf : fx_X11_lays x1 x2 x3 σ = some (rv, σ1)) : mm_fr (fw_X11_lays x1 x2 x3) σ σ1 := by
  rw [fx_X11_lays] at hf
  have F : mm_fr (fw_X11_lays x1 x2 x3) σ σ := mm_fr.rf
  obtain ⟨h_1, hf⟩ := mm_gd_ok hf
  obtain ⟨s_2, e_2, hf⟩ := mm_lt_ok hf
  have F := F.trans (mm_fr.a e_2 (fun _ => ⟨rfl, rfl⟩))
  exact mm_fr.ret hf F
def fw_X11_comes (x1 : Int32) (x2 : Int32) (q t i : Nat) : Prop := (q = 10 ∧ t = 31)
theorem fr_X11_comes_L63 (x1 : Int32) (x2 : Int32) (rv : Int32) (σ1 : mm_M)  : ∀ (fu : Nat) (v3 : Int32) (v4 : Int32) (σ : mm_M), fx_X11_comes_L63 x1 x2 fu v3 v4 σ = some (rv, σ1) → mm_fr (fw_X11_comes x1 x2) σ σ1 := by
  intro fu
  induction fu with
  | zero =>
    intro v3 v4 σ hf
    exact mm_no hf
  | succ fu ih =>
    intro v3 v4 σ hf
    rw [fx_X11_comes_L63] at hf
    have F : mm_fr (fw_X11_comes x1 x2) σ σ := mm_fr.rf
    by_cases c_10 : (17 : Int32) ≤ v4
    · replace hf := mm_it c_10 hf
      obtain ⟨r_11, s_11, e_11, hf⟩ := mm_bd_ok hf
      have F := F.trans ((fr_X11_lays v3 (0 : Int32) x1 σ r_11 s_11 e_11).mono (fun q t i h => (fun h => h) h))
      obtain ⟨r_12, s_12, e_12, hf⟩ := mm_bd_ok hf
      have F := F.trans ((fr_X11_lays v3 (1 : Int32) x1 s_11 r_12 s_12 e_12).mono (fun q t i h => (fun h => h) h))
      obtain ⟨r_13, s_13, e_13, hf⟩ := mm_bd_ok hf
      have F := F.trans ((fr_X11_lays v3 (2 : Int32) x2 s_12 r_13 s_13 e_13).mono (fun q t i h => (fun h => h) h))
      exact mm_fr.ret hf F
    · replace hf := mm_if c_10 hf
      obtain ⟨r_14, s_14, e_14, hf⟩ := mm_bd_ok hf
      have F := F.trans ((fr_X11_lays v3 v4 (0 : Int32) σ r_14 s_14 e_14).mono (fun q t i h => (fun h => h) h))
      obtain ⟨y_15, e_15, hf⟩ := mm_li_ok hf
      exact F.trans (ih v3 y_15 s_14 hf)
theorem fr_X11_comes (x1 : Int32) (x2 : Int32) (σ : mm_M) (rv : Int32) (σ1 : mm_M) (hf : fx_X11_comes x1 x2 σ = some (rv, σ1)) : mm_fr (fw_X11_comes x1 x2) σ σ1 := by
  rw [fx_X11_comes] at hf
  have F : mm_fr (fw_X11_comes x1 x2) σ σ := mm_fr.rf
  obtain ⟨r_1, s_1, e_1, hf⟩ := mm_bd_ok hf
  have F := F.trans (mm_fr.eq (fr_X11_isCell x1 σ r_1 s_1 e_1))
  by_cases c_2 : r_1 = (0 : Int32)
  · replace hf := mm_it c_2 hf
    exact mm_fr.ret hf F
  · replace hf := mm_if c_2 hf
    obtain ⟨r_3, s_3, e_3, hf⟩ := mm_bd_ok hf
    have F := F.trans (mm_fr.eq (fr_X11_in x2 (0 : Int32) (3 : Int32) s_1 r_3 s_3 e_3))
    by_cases c_4 : r_3 = (0 : Int32)
    · replace hf := mm_it c_4 hf
      exact mm_fr.ret hf F
    · replace hf := mm_if c_4 hf
      obtain ⟨r_5, s_5, e_5, hf⟩ := mm_bd_ok hf
      have F := F.trans (mm_fr.eq (fr_X11_isGood x1 s_3 r_5 s_5 e_5))
      by_cases c_6 : r_5 = (0 : Int32)
      · replace hf := mm_it c_6 hf
        exact mm_fr.ret hf F
      · replace hf := mm_if c_6 hf
        by_cases c_7 : (s_5 10 31 0 (0 : Int32).toNatClampNeg) = (4 : Int32)
        · replace hf := mm_it c_7 hf
          exact mm_fr.ret hf F
        · replace hf := mm_if c_7 hf
          obtain ⟨y_8, e_8, hf⟩ := mm_li_ok hf
          obtain ⟨s_9, e_9, hf⟩ := mm_lt_ok hf
          have F := F.trans (mm_fr.a e_9 (fun _ => ⟨rfl, rfl⟩))
          exact F.trans (fr_X11_comes_L63 x1 x2 rv σ1 mm_FU y_8 (0 : Int32) s_9 hf)
def fw_X11_cart (x1 : Int32) (x2 : Int32) (q t i : Nat) : Prop := (q = 10 ∧ t = 30 ∧ i = 4) ∨ (q = 10 ∧ t = 31) ∨ (q = 10 ∧ t = 32) ∨ (q = 10 ∧ t = 34)
theorem fr_X11_cart (x1 : Int32) (x2 : Int32) (σ : mm_M) (rv : Int32) (σ1 : mm_M) (hf : fx_X11_cart x1 x2 σ = some (rv, σ1)) : mm_fr (fw_X11_cart x1 x2) σ σ1 := by
  rw [fx_X11_cart] at hf
  have F : mm_fr (fw_X11_cart x1 x2) σ σ := mm_fr.rf
  obtain ⟨r_1, s_1, e_1, hf⟩ := mm_bd_ok hf
  have F := F.trans ((fr_X11_begins  σ r_1 s_1 e_1).mono (fun q t i h => (fun h => (Or.inr (Or.inr (Or.inl h)))) h))
  obtain ⟨r_2, s_2, e_2, hf⟩ := mm_bd_ok hf
  have F := F.trans ((fr_X11_comes x1 x2 s_1 r_2 s_2 e_2).mono (fun q t i h => (fun h => (Or.inr (Or.inl h))) h))
  obtain ⟨r_3, s_3, e_3, hf⟩ := mm_bd_ok hf
  have F := F.trans ((fr_X11_acted r_2 s_2 r_3 s_3 e_3).mono (fun q t i h => (fun h => h.elim (fun h => (Or.inl h)) (fun h => h.elim (fun h => (Or.inr (Or.inl h))) (fun h => (Or.inr (Or.inr (Or.inr h)))))) h))
  exact mm_fr.ret hf F
def fw_X11_isCart (x1 : Int32) (q t i : Nat) : Prop := False
theorem fr_X11_isCart (x1 : Int32) (σ : mm_M) (rv : Int32) (σ1 : mm_M) (hf : fx_X11_isCart x1 σ = some (rv, σ1)) : σ1 = σ := by
  refine mm_fr.none (W := (fw_X11_isCart x1)) (fun _ _ _ h => h) ?_
  rw [fx_X11_isCart] at hf
  have F : mm_fr (fw_X11_isCart x1) σ σ := mm_fr.rf
  obtain ⟨r_1, s_1, e_1, hf⟩ := mm_bd_ok hf
  have F := F.trans (mm_fr.eq (fr_X11_in x1 (0 : Int32) ((σ 10 31 0 (0 : Int32).toNatClampNeg) - (1 : Int32)) σ r_1 s_1 e_1))
  obtain ⟨h_2, hf⟩ := mm_gd_ok hf
  exact mm_fr.ret hf F
def fw_X11_isOut (x1 : Int32) (q t i : Nat) : Prop := False
theorem fr_X11_isOut (x1 : Int32) (σ : mm_M) (rv : Int32) (σ1 : mm_M) (hf : fx_X11_isOut x1 σ = some (rv, σ1)) : σ1 = σ := by
  refine mm_fr.none (W := (fw_X11_isOut x1)) (fun _ _ _ h => h) ?_
  rw [fx_X11_isOut] at hf
  have F : mm_fr (fw_X11_isOut x1) σ σ := mm_fr.rf
  obtain ⟨r_1, s_1, e_1, hf⟩ := mm_bd_ok hf
  have F := F.trans (mm_fr.eq (fr_X11_of x1 (1 : Int32) σ r_1 s_1 e_1))
  by_cases c_2 : (0 : Int32) ≤ r_1
  · replace hf := mm_it c_2 hf
    exact mm_fr.ret hf F
  · replace hf := mm_if c_2 hf
    exact mm_fr.ret hf F
def fw_X11_isLocked (x1 : Int32) (x2 : Int32) (q t i : Nat) : Prop := False
theorem fr_X11_isLocked (x1 : Int32) (x2 : Int32) (σ : mm_M) (rv : Int32) (σ1 : mm_M) (hf : fx_X11_isLocked x1 x2 σ = some (rv, σ1)) : σ1 = σ := by
  refine mm_fr.none (W := (fw_X11_isLocked x1 x2)) (fun _ _ _ h => h) ?_
  rw [fx_X11_isLocked] at hf
  have F : mm_fr (fw_X11_isLocked x1 x2) σ σ := mm_fr.rf
  obtain ⟨r_1, s_1, e_1, hf⟩ := mm_bd_ok hf
  have F := F.trans (mm_fr.eq (fr_X11_of x1 (3 : Int32) σ r_1 s_1 e_1))
  by_cases c_2 : x2 < ((5 : Int32) - (r_1 - (4 : Int32)))
  · replace hf := mm_it c_2 hf
    exact mm_fr.ret hf F
  · replace hf := mm_if c_2 hf
    exact mm_fr.ret hf F
def fw_X11_rank (x1 : Int32) (x2 : Int32) (q t i : Nat) : Prop := False
theorem fr_X11_rank (x1 : Int32) (x2 : Int32) (σ : mm_M) (rv : Int32) (σ1 : mm_M) (hf : fx_X11_rank x1 x2 σ = some (rv, σ1)) : σ1 = σ := by
  refine mm_fr.none (W := (fw_X11_rank x1 x2)) (fun _ _ _ h => h) ?_
  rw [fx_X11_rank] at hf
  have F : mm_fr (fw_X11_rank x1 x2) σ σ := mm_fr.rf
  obtain ⟨r_1, s_1, e_1, hf⟩ := mm_bd_ok hf
  have F := F.trans (mm_fr.eq (fr_X11_of x1 (((7 : Int32) + ((2 : Int32) * x2)) + (1 : Int32)) σ r_1 s_1 e_1))
  exact mm_fr.ret hf F
def fw_X11_withCards (x1 : Int32) (q t i : Nat) : Prop := False
theorem fr_X11_withCards_J26 (x1 : Int32) (rv : Int32) (σ1 : mm_M) (k4 : Int32 → Int32 → mm_M → mm_R) (hk4 : ∀ (v2 : Int32) (v3 : Int32) (σ : mm_M), k4 v2 v3 σ = some (rv, σ1) → mm_fr (fw_X11_withCards x1) σ σ1) : ∀ (v3 : Int32) (w0 : Int32) (w1 : Int32) (σ : mm_M), fx_X11_withCards_J26 x1 k4 v3 w0 w1 σ = some (rv, σ1) → mm_fr (fw_X11_withCards x1) σ σ1 := by
  intro v3 w0 w1 σ hf
  rw [fx_X11_withCards_J26] at hf
  have F : mm_fr (fw_X11_withCards x1) σ σ := mm_fr.rf
  obtain ⟨y_4, e_4, hf⟩ := mm_li_ok hf
  obtain ⟨y_5, e_5, hf⟩ := mm_li_ok hf
  exact F.trans (hk4 y_4 y_5 σ hf)
theorem fr_X11_withCards_L4 (x1 : Int32) (rv : Int32) (σ1 : mm_M)  : ∀ (fu : Nat) (v2 : Int32) (v3 : Int32) (σ : mm_M), fx_X11_withCards_L4 x1 fu v2 v3 σ = some (rv, σ1) → mm_fr (fw_X11_withCards x1) σ σ1 := by
  intro fu
  induction fu with
  | zero =>
    intro v2 v3 σ hf
    exact mm_no hf
  | succ fu ih =>
    intro v2 v3 σ hf
    rw [fx_X11_withCards_L4] at hf
    have F : mm_fr (fw_X11_withCards x1) σ σ := mm_fr.rf
    by_cases c_1 : (5 : Int32) ≤ v3
    · replace hf := mm_it c_1 hf
      exact mm_fr.ret hf F
    · replace hf := mm_if c_1 hf
      obtain ⟨r_2, s_2, e_2, hf⟩ := mm_bd_ok hf
      have F := F.trans (mm_fr.eq (fr_X11_rank x1 v3 σ r_2 s_2 e_2))
      by_cases c_3 : r_2 ≤ (0 : Int32)
      · replace hf := mm_it c_3 hf
        exact F.trans (fr_X11_withCards_J26 x1 rv σ1 (fun z0 z1 z => fx_X11_withCards_L4 x1 fu z0 z1 z) ih v3 v2 (0 : Int32) s_2 hf)
      · replace hf := mm_if c_3 hf
        exact F.trans (fr_X11_withCards_J26 x1 rv σ1 (fun z0 z1 z => fx_X11_withCards_L4 x1 fu z0 z1 z) ih v3 v2 ((1 : Int32) <<< (v3 &&& 31)) s_2 hf)
theorem fr_X11_withCards (x1 : Int32) (σ : mm_M) (rv : Int32) (σ1 : mm_M) (hf : fx_X11_withCards x1 σ = some (rv, σ1)) : σ1 = σ := by
  refine mm_fr.none (W := (fw_X11_withCards x1)) (fun _ _ _ h => h) ?_
  rw [fx_X11_withCards] at hf
  have F : mm_fr (fw_X11_withCards x1) σ σ := mm_fr.rf
  exact F.trans (fr_X11_withCards_L4 x1 rv σ1 mm_FU (0 : Int32) (0 : Int32) σ hf)
def fw_X11_ones (x0 : Int32) (q t i : Nat) : Prop := False
theorem fr_X11_ones_L4 (x0 : Int32) (rv : Int32) (σ1 : mm_M)  : ∀ (fu : Nat) (v1 : Int32) (v2 : Int32) (σ : mm_M), fx_X11_ones_L4 x0 fu v1 v2 σ = some (rv, σ1) → mm_fr (fw_X11_ones x0) σ σ1 := by
  intro fu
  induction fu with
  | zero =>
    intro v1 v2 σ hf
    exact mm_no hf
  | succ fu ih =>
    intro v1 v2 σ hf
    rw [fx_X11_ones_L4] at hf
    have F : mm_fr (fw_X11_ones x0) σ σ := mm_fr.rf
    by_cases c_1 : (5 : Int32) ≤ v2
    · replace hf := mm_it c_1 hf
      exact mm_fr.ret hf F
    · replace hf := mm_if c_1 hf
      obtain ⟨y_2, e_2, hf⟩ := mm_li_ok hf
      obtain ⟨y_3, e_3, hf⟩ := mm_li_ok hf
      exact F.trans (ih y_2 y_3 σ hf)
theorem fr_X11_ones (x0 : Int32) (σ : mm_M) (rv : Int32) (σ1 : mm_M) (hf : fx_X11_ones x0 σ = some (rv, σ1)) : σ1 = σ := by
  refine mm_fr.none (W := (fw_X11_ones x0)) (fun _ _ _ h => h) ?_
  rw [fx_X11_ones] at hf
  have F : mm_fr (fw_X11_ones x0) σ σ := mm_fr.rf
  exact F.trans (fr_X11_ones_L4 x0 rv σ1 mm_FU (0 : Int32) (0 : Int32) σ hf)
def fw_X11_cards (x1 : Int32) (x2 : Int32) (x3 : Int32) (x4 : Int32) (q t i : Nat) : Prop := (q = 10 ∧ t = 31)
theorem fr_X11_cards (x1 : Int32) (x2 : Int32) (x3 : Int32) (x4 : Int32) (σ : mm_M) (rv : Int32) (σ1 : mm_M) (hf : fx_X11_cards x1 x2 x3 x4 σ = some (rv, σ1)) : mm_fr (fw_X11_cards x1 x2 x3 x4) σ σ1 := by
  rw [fx_X11_cards] at hf
  have F : mm_fr (fw_X11_cards x1 x2 x3 x4) σ σ := mm_fr.rf
  obtain ⟨r_1, s_1, e_1, hf⟩ := mm_bd_ok hf
  have F := F.trans (mm_fr.eq (fr_X11_isCart x1 σ r_1 s_1 e_1))
  by_cases c_2 : r_1 = (0 : Int32)
  · replace hf := mm_it c_2 hf
    exact mm_fr.ret hf F
  · replace hf := mm_if c_2 hf
    obtain ⟨r_3, s_3, e_3, hf⟩ := mm_bd_ok hf
    have F := F.trans (mm_fr.eq (fr_X11_in x2 (0 : Int32) (4 : Int32) s_1 r_3 s_3 e_3))
    by_cases c_4 : r_3 = (0 : Int32)
    · replace hf := mm_it c_4 hf
      exact mm_fr.ret hf F
    · replace hf := mm_if c_4 hf
      obtain ⟨r_5, s_5, e_5, hf⟩ := mm_bd_ok hf
      have F := F.trans (mm_fr.eq (fr_X11_in x3 (0 : Int32) (6 : Int32) s_3 r_5 s_5 e_5))
      by_cases c_6 : r_5 = (0 : Int32)
      · replace hf := mm_it c_6 hf
        exact mm_fr.ret hf F
      · replace hf := mm_if c_6 hf
        obtain ⟨r_7, s_7, e_7, hf⟩ := mm_bd_ok hf
        have F := F.trans (mm_fr.eq (fr_X11_in x4 (1 : Int32) (999 : Int32) s_5 r_7 s_7 e_7))
        by_cases c_8 : r_7 = (0 : Int32)
        · replace hf := mm_it c_8 hf
          exact mm_fr.ret hf F
        · replace hf := mm_if c_8 hf
          obtain ⟨r_9, s_9, e_9, hf⟩ := mm_bd_ok hf
          have F := F.trans (mm_fr.eq (fr_X11_isOut x1 s_7 r_9 s_9 e_9))
          by_cases c_10 : r_9 = (0 : Int32)
          · replace hf := mm_it c_10 hf
            obtain ⟨r_11, s_11, e_11, hf⟩ := mm_bd_ok hf
            have F := F.trans (mm_fr.eq (fr_X11_isLocked x1 x2 s_9 r_11 s_11 e_11))
            by_cases c_12 : r_11 = (0 : Int32)
            · replace hf := mm_it c_12 hf
              by_cases c_13 : (s_11 10 31 0 (1 : Int32).toNatClampNeg) ≤ x2
              · replace hf := mm_it c_13 hf
                obtain ⟨r_14, s_14, e_14, hf⟩ := mm_bd_ok hf
                have F := F.trans ((fr_X11_lays x1 ((7 : Int32) + ((2 : Int32) * x2)) x3 s_11 r_14 s_14 e_14).mono (fun q t i h => (fun h => h) h))
                obtain ⟨r_15, s_15, e_15, hf⟩ := mm_bd_ok hf
                have F := F.trans ((fr_X11_lays x1 (((7 : Int32) + ((2 : Int32) * x2)) + (1 : Int32)) x4 s_14 r_15 s_15 e_15).mono (fun q t i h => (fun h => h) h))
                obtain ⟨r_16, s_16, e_16, hf⟩ := mm_bd_ok hf
                have F := F.trans (mm_fr.eq (fr_X11_withCards x1 s_15 r_16 s_16 e_16))
                obtain ⟨r_17, s_17, e_17, hf⟩ := mm_bd_ok hf
                have F := F.trans (mm_fr.eq (fr_X11_ones r_16 s_16 r_17 s_17 e_17))
                exact mm_fr.ret hf F
              · replace hf := mm_if c_13 hf
                exact mm_fr.ret hf F
            · replace hf := mm_if c_12 hf
              exact mm_fr.ret hf F
          · replace hf := mm_if c_10 hf
            exact mm_fr.ret hf F
def fw_X11_card (x1 : Int32) (x2 : Int32) (x3 : Int32) (x4 : Int32) (q t i : Nat) : Prop := (q = 10 ∧ t = 30 ∧ i = 4) ∨ (q = 10 ∧ t = 31) ∨ (q = 10 ∧ t = 32) ∨ (q = 10 ∧ t = 34)
theorem fr_X11_card (x1 : Int32) (x2 : Int32) (x3 : Int32) (x4 : Int32) (σ : mm_M) (rv : Int32) (σ1 : mm_M) (hf : fx_X11_card x1 x2 x3 x4 σ = some (rv, σ1)) : mm_fr (fw_X11_card x1 x2 x3 x4) σ σ1 := by
  rw [fx_X11_card] at hf
  have F : mm_fr (fw_X11_card x1 x2 x3 x4) σ σ := mm_fr.rf
  obtain ⟨r_1, s_1, e_1, hf⟩ := mm_bd_ok hf
  have F := F.trans ((fr_X11_begins  σ r_1 s_1 e_1).mono (fun q t i h => (fun h => (Or.inr (Or.inr (Or.inl h)))) h))
  obtain ⟨r_2, s_2, e_2, hf⟩ := mm_bd_ok hf
  have F := F.trans ((fr_X11_cards x1 x2 x3 x4 s_1 r_2 s_2 e_2).mono (fun q t i h => (fun h => (Or.inr (Or.inl h))) h))
  obtain ⟨r_3, s_3, e_3, hf⟩ := mm_bd_ok hf
  have F := F.trans ((fr_X11_acted r_2 s_2 r_3 s_3 e_3).mono (fun q t i h => (fun h => h.elim (fun h => (Or.inl h)) (fun h => h.elim (fun h => (Or.inr (Or.inl h))) (fun h => (Or.inr (Or.inr (Or.inr h)))))) h))
  exact mm_fr.ret hf F
def fw_X11_damage (x1 : Int32) (x2 : Int32) (q t i : Nat) : Prop := (q = 10 ∧ t = 30 ∧ i = 4) ∨ (q = 10 ∧ t = 31) ∨ (q = 10 ∧ t = 32) ∨ (q = 10 ∧ t = 34)
theorem fr_X11_damage_J66 (x1 : Int32) (x2 : Int32) (rv : Int32) (σ1 : mm_M)  : ∀ (w0 : Int32) (σ : mm_M), fx_X11_damage_J66 x1 x2 w0 σ = some (rv, σ1) → mm_fr (fw_X11_damage x1 x2) σ σ1 := by
  intro w0 σ hf
  rw [fx_X11_damage_J66] at hf
  have F : mm_fr (fw_X11_damage x1 x2) σ σ := mm_fr.rf
  obtain ⟨r_12, s_12, e_12, hf⟩ := mm_bd_ok hf
  have F := F.trans ((fr_X11_lays x1 (3 : Int32) w0 σ r_12 s_12 e_12).mono (fun q t i h => (fun h => (Or.inr (Or.inl h))) h))
  obtain ⟨r_13, s_13, e_13, hf⟩ := mm_bd_ok hf
  have F := F.trans ((fr_X11_acted w0 s_12 r_13 s_13 e_13).mono (fun q t i h => (fun h => h.elim (fun h => (Or.inl h)) (fun h => h.elim (fun h => (Or.inr (Or.inl h))) (fun h => (Or.inr (Or.inr (Or.inr h)))))) h))
  exact mm_fr.ret hf F
theorem fr_X11_damage (x1 : Int32) (x2 : Int32) (σ : mm_M) (rv : Int32) (σ1 : mm_M) (hf : fx_X11_damage x1 x2 σ = some (rv, σ1)) : mm_fr (fw_X11_damage x1 x2) σ σ1 := by
  rw [fx_X11_damage] at hf
  have F : mm_fr (fw_X11_damage x1 x2) σ σ := mm_fr.rf
  obtain ⟨r_1, s_1, e_1, hf⟩ := mm_bd_ok hf
  have F := F.trans ((fr_X11_begins  σ r_1 s_1 e_1).mono (fun q t i h => (fun h => (Or.inr (Or.inr (Or.inl h)))) h))
  obtain ⟨r_2, s_2, e_2, hf⟩ := mm_bd_ok hf
  have F := F.trans (mm_fr.eq (fr_X11_isCart x1 s_1 r_2 s_2 e_2))
  by_cases c_3 : r_2 = (0 : Int32)
  · replace hf := mm_it c_3 hf
    exact mm_fr.ret hf F
  · replace hf := mm_if c_3 hf
    obtain ⟨r_4, s_4, e_4, hf⟩ := mm_bd_ok hf
    have F := F.trans (mm_fr.eq (fr_X11_in x2 (-9 : Int32) (9 : Int32) s_2 r_4 s_4 e_4))
    by_cases c_5 : r_4 = (0 : Int32)
    · replace hf := mm_it c_5 hf
      exact mm_fr.ret hf F
    · replace hf := mm_if c_5 hf
      obtain ⟨r_6, s_6, e_6, hf⟩ := mm_bd_ok hf
      have F := F.trans (mm_fr.eq (fr_X11_isOut x1 s_4 r_6 s_6 e_6))
      by_cases c_7 : r_6 = (0 : Int32)
      · replace hf := mm_it c_7 hf
        obtain ⟨r_8, s_8, e_8, hf⟩ := mm_bd_ok hf
        have F := F.trans (mm_fr.eq (fr_X11_of x1 (3 : Int32) s_6 r_8 s_8 e_8))
        obtain ⟨y_9, e_9, hf⟩ := mm_li_ok hf
        by_cases c_10 : (0 : Int32) ≤ y_9
        · replace hf := mm_it c_10 hf
          by_cases c_11 : y_9 ≤ (9 : Int32)
          · replace hf := mm_it c_11 hf
            exact F.trans (fr_X11_damage_J66 x1 x2 rv σ1 y_9 s_8 hf)
          · replace hf := mm_if c_11 hf
            exact F.trans (fr_X11_damage_J66 x1 x2 rv σ1 (9 : Int32) s_8 hf)
        · replace hf := mm_if c_10 hf
          exact F.trans (fr_X11_damage_J66 x1 x2 rv σ1 (0 : Int32) s_8 hf)
      · replace hf := mm_if c_7 hf
        exact mm_fr.ret hf F
def fw_X11_outs  (q t i : Nat) : Prop := False
theorem fr_X11_outs_L4  (rv : Int32) (σ1 : mm_M)  : ∀ (fu : Nat) (v1 : Int32) (v2 : Int32) (σ : mm_M), fx_X11_outs_L4  fu v1 v2 σ = some (rv, σ1) → mm_fr (fw_X11_outs) σ σ1 := by
  intro fu
  induction fu with
  | zero =>
    intro v1 v2 σ hf
    exact mm_no hf
  | succ fu ih =>
    intro v1 v2 σ hf
    rw [fx_X11_outs_L4] at hf
    have F : mm_fr (fw_X11_outs) σ σ := mm_fr.rf
    by_cases c_1 : (σ 10 31 0 (0 : Int32).toNatClampNeg) ≤ v2
    · replace hf := mm_it c_1 hf
      exact mm_fr.ret hf F
    · replace hf := mm_if c_1 hf
      obtain ⟨r_2, s_2, e_2, hf⟩ := mm_bd_ok hf
      have F := F.trans (mm_fr.eq (fr_X11_of v2 (5 : Int32) σ r_2 s_2 e_2))
      obtain ⟨y_3, e_3, hf⟩ := mm_li_ok hf
      obtain ⟨y_4, e_4, hf⟩ := mm_li_ok hf
      exact F.trans (ih y_3 y_4 s_2 hf)
theorem fr_X11_outs  (σ : mm_M) (rv : Int32) (σ1 : mm_M) (hf : fx_X11_outs  σ = some (rv, σ1)) : σ1 = σ := by
  refine mm_fr.none (W := (fw_X11_outs)) (fun _ _ _ h => h) ?_
  rw [fx_X11_outs] at hf
  have F : mm_fr (fw_X11_outs) σ σ := mm_fr.rf
  exact F.trans (fr_X11_outs_L4 rv σ1 mm_FU (0 : Int32) (0 : Int32) σ hf)
def fw_X11_orders  (q t i : Nat) : Prop := (q = 10 ∧ t = 30 ∧ i = 9) ∨ (q = 10 ∧ t = 37)
theorem fr_X11_orders_J92  (rv : Int32) (σ1 : mm_M) (k14 : Int32 → Int32 → mm_M → mm_R) (hk14 : ∀ (v1 : Int32) (v2 : Int32) (σ : mm_M), k14 v1 v2 σ = some (rv, σ1) → mm_fr (fw_X11_orders) σ σ1) : ∀ (v1 : Int32) (v2 : Int32) (v3 : Int32) (σ : mm_M), fx_X11_orders_J92 k14 v1 v2 v3 σ = some (rv, σ1) → mm_fr (fw_X11_orders) σ σ1 := by
  intro v1 v2 v3 σ hf
  rw [fx_X11_orders_J92] at hf
  have F : mm_fr (fw_X11_orders) σ σ := mm_fr.rf
  obtain ⟨h_20, hf⟩ := mm_gd_ok hf
  obtain ⟨s_21, e_21, hf⟩ := mm_lt_ok hf
  have F := F.trans (mm_fr.a e_21 (fun _ => (Or.inr ⟨rfl, rfl⟩)))
  obtain ⟨s_22, e_22, hf⟩ := mm_lt_ok hf
  have F := F.trans (mm_fr.u e_22 ((Or.inl ⟨rfl, rfl, rfl⟩)))
  obtain ⟨y_23, e_23, hf⟩ := mm_li_ok hf
  exact F.trans (hk14 v1 y_23 s_22 hf)
theorem fr_X11_orders_L46  (rv : Int32) (σ1 : mm_M) (k14 : Int32 → Int32 → mm_M → mm_R) (hk14 : ∀ (v1 : Int32) (v2 : Int32) (σ : mm_M), k14 v1 v2 σ = some (rv, σ1) → mm_fr (fw_X11_orders) σ σ1) : ∀ (fu : Nat) (v1 : Int32) (v2 : Int32) (v3 : Int32) (σ : mm_M), fx_X11_orders_L46 k14 fu v1 v2 v3 σ = some (rv, σ1) → mm_fr (fw_X11_orders) σ σ1 := by
  intro fu
  induction fu with
  | zero =>
    intro v1 v2 v3 σ hf
    exact mm_no hf
  | succ fu ih =>
    intro v1 v2 v3 σ hf
    rw [fx_X11_orders_L46] at hf
    have F : mm_fr (fw_X11_orders) σ σ := mm_fr.rf
    by_cases c_11 : v3 ≤ (0 : Int32)
    · replace hf := mm_it c_11 hf
      exact F.trans (fr_X11_orders_J92 rv σ1 k14 hk14 v1 v2 v3 σ hf)
    · replace hf := mm_if c_11 hf
      obtain ⟨h_12, hf⟩ := mm_gd_ok hf
      obtain ⟨r_13, s_13, e_13, hf⟩ := mm_bd_ok hf
      have F := F.trans (mm_fr.eq (fr_X11_rank (σ 10 37 0 (v3 - (1 : Int32)).toNatClampNeg) v1 σ r_13 s_13 e_13))
      obtain ⟨r_14, s_14, e_14, hf⟩ := mm_bd_ok hf
      have F := F.trans (mm_fr.eq (fr_X11_rank v2 v1 s_13 r_14 s_14 e_14))
      by_cases c_15 : r_14 ≤ r_13
      · replace hf := mm_it c_15 hf
        exact F.trans (fr_X11_orders_J92 rv σ1 k14 hk14 v1 v2 v3 s_14 hf)
      · replace hf := mm_if c_15 hf
        obtain ⟨h_16, hf⟩ := mm_gd_ok hf
        obtain ⟨h_17, hf⟩ := mm_gd_ok hf
        obtain ⟨s_18, e_18, hf⟩ := mm_lt_ok hf
        have F := F.trans (mm_fr.a e_18 (fun _ => (Or.inr ⟨rfl, rfl⟩)))
        obtain ⟨y_19, e_19, hf⟩ := mm_li_ok hf
        exact F.trans (ih v1 v2 y_19 s_18 hf)
theorem fr_X11_orders_L14  (rv : Int32) (σ1 : mm_M)  : ∀ (fu : Nat) (v1 : Int32) (v2 : Int32) (σ : mm_M), fx_X11_orders_L14  fu v1 v2 σ = some (rv, σ1) → mm_fr (fw_X11_orders) σ σ1 := by
  intro fu
  induction fu with
  | zero =>
    intro v1 v2 σ hf
    exact mm_no hf
  | succ fu ih =>
    intro v1 v2 σ hf
    rw [fx_X11_orders_L14] at hf
    have F : mm_fr (fw_X11_orders) σ σ := mm_fr.rf
    by_cases c_3 : (σ 10 31 0 (0 : Int32).toNatClampNeg) ≤ v2
    · replace hf := mm_it c_3 hf
      exact mm_fr.ret hf F
    · replace hf := mm_if c_3 hf
      obtain ⟨r_4, s_4, e_4, hf⟩ := mm_bd_ok hf
      have F := F.trans (mm_fr.eq (fr_X11_isOut v2 σ r_4 s_4 e_4))
      by_cases c_5 : r_4 = (0 : Int32)
      · replace hf := mm_it c_5 hf
        obtain ⟨r_7, s_7, e_7, hf⟩ := mm_bd_ok hf
        have F := F.trans (mm_fr.eq (fr_X11_rank v2 v1 s_4 r_7 s_7 e_7))
        by_cases c_8 : r_7 ≤ (0 : Int32)
        · replace hf := mm_it c_8 hf
          obtain ⟨y_9, e_9, hf⟩ := mm_li_ok hf
          exact F.trans (ih v1 y_9 s_7 hf)
        · replace hf := mm_if c_8 hf
          obtain ⟨y_10, e_10, hf⟩ := mm_li_ok hf
          exact F.trans (fr_X11_orders_L46 rv σ1 (fun z0 z1 z => fx_X11_orders_L14 fu z0 z1 z) ih mm_FU v1 v2 y_10 s_7 hf)
      · replace hf := mm_if c_5 hf
        obtain ⟨y_6, e_6, hf⟩ := mm_li_ok hf
        exact F.trans (ih v1 y_6 s_4 hf)
theorem fr_X11_orders  (σ : mm_M) (rv : Int32) (σ1 : mm_M) (hf : fx_X11_orders  σ = some (rv, σ1)) : mm_fr (fw_X11_orders) σ σ1 := by
  rw [fx_X11_orders] at hf
  have F : mm_fr (fw_X11_orders) σ σ := mm_fr.rf
  obtain ⟨s_1, e_1, hf⟩ := mm_lt_ok hf
  have F := F.trans (mm_fr.u e_1 ((Or.inl ⟨rfl, rfl, rfl⟩)))
  obtain ⟨y_2, e_2, hf⟩ := mm_li_ok hf
  exact F.trans (fr_X11_orders_L14 rv σ1 mm_FU y_2 (0 : Int32) s_1 hf)
def fw_X11_isOnBelt (x1 : Int32) (q t i : Nat) : Prop := False
theorem fr_X11_isOnBelt (x1 : Int32) (σ : mm_M) (rv : Int32) (σ1 : mm_M) (hf : fx_X11_isOnBelt x1 σ = some (rv, σ1)) : σ1 = σ := by
  refine mm_fr.none (W := (fw_X11_isOnBelt x1)) (fun _ _ _ h => h) ?_
  rw [fx_X11_isOnBelt] at hf
  have F : mm_fr (fw_X11_isOnBelt x1) σ σ := mm_fr.rf
  obtain ⟨r_1, s_1, e_1, hf⟩ := mm_bd_ok hf
  have F := F.trans (mm_fr.eq (fr_X11_isOut x1 σ r_1 s_1 e_1))
  by_cases c_2 : r_1 = (0 : Int32)
  · replace hf := mm_it c_2 hf
    obtain ⟨r_3, s_3, e_3, hf⟩ := mm_bd_ok hf
    have F := F.trans (mm_fr.eq (fr_X11_of x1 (1 : Int32) s_1 r_3 s_3 e_3))
    obtain ⟨h_4, hf⟩ := mm_gd_ok hf
    obtain ⟨r_5, s_5, e_5, hf⟩ := mm_bd_ok hf
    have F := F.trans (mm_fr.eq (fr_X11_in (s_3 10 31 0 ((11 : Int32) + r_3).toNatClampNeg) (1 : Int32) (4 : Int32) s_3 r_5 s_5 e_5))
    by_cases c_6 : r_5 = (0 : Int32)
    · replace hf := mm_it c_6 hf
      exact mm_fr.ret hf F
    · replace hf := mm_if c_6 hf
      exact mm_fr.ret hf F
  · replace hf := mm_if c_2 hf
    exact mm_fr.ret hf F
def fw_X11_isWall (x1 : Int32) (x2 : Int32) (q t i : Nat) : Prop := False
theorem fr_X11_isWall (x1 : Int32) (x2 : Int32) (σ : mm_M) (rv : Int32) (σ1 : mm_M) (hf : fx_X11_isWall x1 x2 σ = some (rv, σ1)) : σ1 = σ := by
  refine mm_fr.none (W := (fw_X11_isWall x1 x2)) (fun _ _ _ h => h) ?_
  rw [fx_X11_isWall] at hf
  have F : mm_fr (fw_X11_isWall x1 x2) σ σ := mm_fr.rf
  obtain ⟨h_1, hf⟩ := mm_gd_ok hf
  by_cases c_2 : (((σ 10 31 0 ((75 : Int32) + x1).toNatClampNeg) >>> (x2 &&& 31)) &&& (1 : Int32)) = (1 : Int32)
  · replace hf := mm_it c_2 hf
    exact mm_fr.ret hf F
  · replace hf := mm_if c_2 hf
    exact mm_fr.ret hf F
def fw_X11_wants (x1 : Int32) (q t i : Nat) : Prop := False
theorem fr_X11_wants (x1 : Int32) (σ : mm_M) (rv : Int32) (σ1 : mm_M) (hf : fx_X11_wants x1 σ = some (rv, σ1)) : σ1 = σ := by
  refine mm_fr.none (W := (fw_X11_wants x1)) (fun _ _ _ h => h) ?_
  rw [fx_X11_wants] at hf
  have F : mm_fr (fw_X11_wants x1) σ σ := mm_fr.rf
  obtain ⟨r_1, s_1, e_1, hf⟩ := mm_bd_ok hf
  have F := F.trans (mm_fr.eq (fr_X11_isOnBelt x1 σ r_1 s_1 e_1))
  by_cases c_2 : r_1 = (0 : Int32)
  · replace hf := mm_it c_2 hf
    exact mm_fr.ret hf F
  · replace hf := mm_if c_2 hf
    obtain ⟨r_3, s_3, e_3, hf⟩ := mm_bd_ok hf
    have F := F.trans (mm_fr.eq (fr_X11_of x1 (1 : Int32) s_1 r_3 s_3 e_3))
    obtain ⟨r_4, s_4, e_4, hf⟩ := mm_bd_ok hf
    have F := F.trans (mm_fr.eq (fr_X11_of x1 (1 : Int32) s_3 r_4 s_4 e_4))
    obtain ⟨h_5, hf⟩ := mm_gd_ok hf
    obtain ⟨r_6, s_6, e_6, hf⟩ := mm_bd_ok hf
    have F := F.trans (mm_fr.eq (fr_X11_next r_3 ((s_4 10 31 0 ((11 : Int32) + r_4).toNatClampNeg) - (1 : Int32)) s_4 r_6 s_6 e_6))
    exact mm_fr.ret hf F
def fw_X11_more (x1 : Int32) (x2 : Int32) (q t i : Nat) : Prop := (q = 10 ∧ t = 31)
theorem fr_X11_more (x1 : Int32) (x2 : Int32) (σ : mm_M) (rv : Int32) (σ1 : mm_M) (hf : fx_X11_more x1 x2 σ = some (rv, σ1)) : mm_fr (fw_X11_more x1 x2) σ σ1 := by
  rw [fx_X11_more] at hf
  have F : mm_fr (fw_X11_more x1 x2) σ σ := mm_fr.rf
  obtain ⟨h_1, hf⟩ := mm_gd_ok hf
  obtain ⟨h_2, hf⟩ := mm_gd_ok hf
  obtain ⟨s_3, e_3, hf⟩ := mm_lt_ok hf
  have F := F.trans (mm_fr.a e_3 (fun _ => ⟨rfl, rfl⟩))
  exact mm_fr.ret hf F
def fw_X11_goesOut (x1 : Int32) (q t i : Nat) : Prop := (q = 10 ∧ t = 31)
theorem fr_X11_goesOut (x1 : Int32) (σ : mm_M) (rv : Int32) (σ1 : mm_M) (hf : fx_X11_goesOut x1 σ = some (rv, σ1)) : mm_fr (fw_X11_goesOut x1) σ σ1 := by
  rw [fx_X11_goesOut] at hf
  have F : mm_fr (fw_X11_goesOut x1) σ σ := mm_fr.rf
  obtain ⟨r_1, s_1, e_1, hf⟩ := mm_bd_ok hf
  have F := F.trans ((fr_X11_lays x1 (1 : Int32) (-1 : Int32) σ r_1 s_1 e_1).mono (fun q t i h => (fun h => h) h))
  obtain ⟨r_2, s_2, e_2, hf⟩ := mm_bd_ok hf
  have F := F.trans ((fr_X11_more x1 (5 : Int32) s_1 r_2 s_2 e_2).mono (fun q t i h => (fun h => h) h))
  exact mm_fr.ret hf F
def fw_X11_comesTo (x1 : Int32) (x2 : Int32) (q t i : Nat) : Prop := (q = 10 ∧ t = 31)
theorem fr_X11_comesTo_J18 (x1 : Int32) (x2 : Int32) (rv : Int32) (σ1 : mm_M)  : ∀ (σ : mm_M), fx_X11_comesTo_J18 x1 x2  σ = some (rv, σ1) → mm_fr (fw_X11_comesTo x1 x2) σ σ1 := by
  intro  σ hf
  rw [fx_X11_comesTo_J18] at hf
  have F : mm_fr (fw_X11_comesTo x1 x2) σ σ := mm_fr.rf
  obtain ⟨r_5, s_5, e_5, hf⟩ := mm_bd_ok hf
  have F := F.trans ((fr_X11_goesOut x1 σ r_5 s_5 e_5).mono (fun q t i h => (fun h => h) h))
  exact mm_fr.ret hf F
theorem fr_X11_comesTo (x1 : Int32) (x2 : Int32) (σ : mm_M) (rv : Int32) (σ1 : mm_M) (hf : fx_X11_comesTo x1 x2 σ = some (rv, σ1)) : mm_fr (fw_X11_comesTo x1 x2) σ σ1 := by
  rw [fx_X11_comesTo] at hf
  have F : mm_fr (fw_X11_comesTo x1 x2) σ σ := mm_fr.rf
  by_cases c_1 : x2 < (0 : Int32)
  · replace hf := mm_it c_1 hf
    exact F.trans (fr_X11_comesTo_J18 x1 x2 rv σ1 σ hf)
  · replace hf := mm_if c_1 hf
    obtain ⟨h_2, hf⟩ := mm_gd_ok hf
    by_cases c_3 : (σ 10 31 0 ((11 : Int32) + x2).toNatClampNeg) = (7 : Int32)
    · replace hf := mm_it c_3 hf
      exact F.trans (fr_X11_comesTo_J18 x1 x2 rv σ1 σ hf)
    · replace hf := mm_if c_3 hf
      obtain ⟨r_4, s_4, e_4, hf⟩ := mm_bd_ok hf
      have F := F.trans ((fr_X11_lays x1 (1 : Int32) x2 σ r_4 s_4 e_4).mono (fun q t i h => (fun h => h) h))
      exact mm_fr.ret hf F
def fw_X11_isInTheWay (x1 : Int32) (x2 : Int32) (x3 : Int32) (q t i : Nat) : Prop := False
theorem fr_X11_isInTheWay_J61 (x1 : Int32) (x2 : Int32) (x3 : Int32) (rv : Int32) (σ1 : mm_M)  : ∀ (v4 : Int32) (w0 : Int32) (σ : mm_M), fx_X11_isInTheWay_J61 x1 x2 x3 v4 w0 σ = some (rv, σ1) → mm_fr (fw_X11_isInTheWay x1 x2 x3) σ σ1 := by
  intro v4 w0 σ hf
  rw [fx_X11_isInTheWay_J61] at hf
  have F : mm_fr (fw_X11_isInTheWay x1 x2 x3) σ σ := mm_fr.rf
  by_cases c_12 : w0 = (0 : Int32)
  · replace hf := mm_it c_12 hf
    obtain ⟨r_13, s_13, e_13, hf⟩ := mm_bd_ok hf
    have F := F.trans (mm_fr.eq (fr_X11_wants x2 σ r_13 s_13 e_13))
    by_cases c_14 : r_13 = v4
    · replace hf := mm_it c_14 hf
      exact mm_fr.ret hf F
    · replace hf := mm_if c_14 hf
      exact mm_fr.ret hf F
  · replace hf := mm_if c_12 hf
    exact mm_fr.ret hf F
theorem fr_X11_isInTheWay_J60 (x1 : Int32) (x2 : Int32) (x3 : Int32) (rv : Int32) (σ1 : mm_M)  : ∀ (v4 : Int32) (σ : mm_M), fx_X11_isInTheWay_J60 x1 x2 x3 v4 σ = some (rv, σ1) → mm_fr (fw_X11_isInTheWay x1 x2 x3) σ σ1 := by
  intro v4 σ hf
  rw [fx_X11_isInTheWay_J60] at hf
  have F : mm_fr (fw_X11_isInTheWay x1 x2 x3) σ σ := mm_fr.rf
  exact F.trans (fr_X11_isInTheWay_J61 x1 x2 x3 rv σ1 v4 (0 : Int32) σ hf)
theorem fr_X11_isInTheWay (x1 : Int32) (x2 : Int32) (x3 : Int32) (σ : mm_M) (rv : Int32) (σ1 : mm_M) (hf : fx_X11_isInTheWay x1 x2 x3 σ = some (rv, σ1)) : σ1 = σ := by
  refine mm_fr.none (W := (fw_X11_isInTheWay x1 x2 x3)) (fun _ _ _ h => h) ?_
  rw [fx_X11_isInTheWay] at hf
  have F : mm_fr (fw_X11_isInTheWay x1 x2 x3) σ σ := mm_fr.rf
  obtain ⟨r_1, s_1, e_1, hf⟩ := mm_bd_ok hf
  have F := F.trans (mm_fr.eq (fr_X11_wants x1 σ r_1 s_1 e_1))
  by_cases c_2 : x2 = x1
  · replace hf := mm_it c_2 hf
    exact mm_fr.ret hf F
  · replace hf := mm_if c_2 hf
    by_cases c_3 : r_1 < (0 : Int32)
    · replace hf := mm_it c_3 hf
      exact mm_fr.ret hf F
    · replace hf := mm_if c_3 hf
      obtain ⟨r_4, s_4, e_4, hf⟩ := mm_bd_ok hf
      have F := F.trans (mm_fr.eq (fr_X11_isOut x2 s_1 r_4 s_4 e_4))
      by_cases c_5 : r_4 = (0 : Int32)
      · replace hf := mm_it c_5 hf
        obtain ⟨r_6, s_6, e_6, hf⟩ := mm_bd_ok hf
        have F := F.trans (mm_fr.eq (fr_X11_of x2 (1 : Int32) s_4 r_6 s_6 e_6))
        by_cases c_7 : r_6 = r_1
        · replace hf := mm_it c_7 hf
          by_cases c_8 : x3 = (0 : Int32)
          · replace hf := mm_it c_8 hf
            exact F.trans (fr_X11_isInTheWay_J61 x1 x2 x3 rv σ1 r_1 (1 : Int32) s_6 hf)
          · replace hf := mm_if c_8 hf
            obtain ⟨r_9, s_9, e_9, hf⟩ := mm_bd_ok hf
            have F := F.trans (mm_fr.eq (fr_X11_wants x2 s_6 r_9 s_9 e_9))
            obtain ⟨r_10, s_10, e_10, hf⟩ := mm_bd_ok hf
            have F := F.trans (mm_fr.eq (fr_X11_of x1 (1 : Int32) s_9 r_10 s_10 e_10))
            by_cases c_11 : r_9 = r_10
            · replace hf := mm_it c_11 hf
              exact F.trans (fr_X11_isInTheWay_J61 x1 x2 x3 rv σ1 r_1 (1 : Int32) s_10 hf)
            · replace hf := mm_if c_11 hf
              exact F.trans (fr_X11_isInTheWay_J60 x1 x2 x3 rv σ1 r_1 s_10 hf)
        · replace hf := mm_if c_7 hf
          exact F.trans (fr_X11_isInTheWay_J60 x1 x2 x3 rv σ1 r_1 s_6 hf)
      · replace hf := mm_if c_5 hf
        exact mm_fr.ret hf F
def fw_X11_stays (x1 : Int32) (q t i : Nat) : Prop := False
theorem fr_X11_stays_J38 (x1 : Int32) (rv : Int32) (σ1 : mm_M) (k4 : Int32 → Int32 → mm_M → mm_R) (hk4 : ∀ (v2 : Int32) (v3 : Int32) (σ : mm_M), k4 v2 v3 σ = some (rv, σ1) → mm_fr (fw_X11_stays x1) σ σ1) : ∀ (v3 : Int32) (w0 : Int32) (σ : mm_M), fx_X11_stays_J38 x1 k4 v3 w0 σ = some (rv, σ1) → mm_fr (fw_X11_stays x1) σ σ1 := by
  intro v3 w0 σ hf
  rw [fx_X11_stays_J38] at hf
  have F : mm_fr (fw_X11_stays x1) σ σ := mm_fr.rf
  obtain ⟨y_7, e_7, hf⟩ := mm_li_ok hf
  exact F.trans (hk4 w0 y_7 σ hf)
theorem fr_X11_stays_L4 (x1 : Int32) (rv : Int32) (σ1 : mm_M)  : ∀ (fu : Nat) (v2 : Int32) (v3 : Int32) (σ : mm_M), fx_X11_stays_L4 x1 fu v2 v3 σ = some (rv, σ1) → mm_fr (fw_X11_stays x1) σ σ1 := by
  intro fu
  induction fu with
  | zero =>
    intro v2 v3 σ hf
    exact mm_no hf
  | succ fu ih =>
    intro v2 v3 σ hf
    rw [fx_X11_stays_L4] at hf
    have F : mm_fr (fw_X11_stays x1) σ σ := mm_fr.rf
    by_cases c_1 : (σ 10 31 0 (0 : Int32).toNatClampNeg) ≤ v3
    · replace hf := mm_it c_1 hf
      obtain ⟨h_2, hf⟩ := mm_gd_ok hf
      exact mm_fr.ret hf F
    · replace hf := mm_if c_1 hf
      by_cases c_3 : v2 = (0 : Int32)
      · replace hf := mm_it c_3 hf
        obtain ⟨h_4, hf⟩ := mm_gd_ok hf
        obtain ⟨r_5, s_5, e_5, hf⟩ := mm_bd_ok hf
        have F := F.trans (mm_fr.eq (fr_X11_isInTheWay x1 v3 (σ 10 38 0 v3.toNatClampNeg) σ r_5 s_5 e_5))
        by_cases c_6 : r_5 = (0 : Int32)
        · replace hf := mm_it c_6 hf
          exact F.trans (fr_X11_stays_J38 x1 rv σ1 (fun z0 z1 z => fx_X11_stays_L4 x1 fu z0 z1 z) ih v3 (0 : Int32) s_5 hf)
        · replace hf := mm_if c_6 hf
          exact F.trans (fr_X11_stays_J38 x1 rv σ1 (fun z0 z1 z => fx_X11_stays_L4 x1 fu z0 z1 z) ih v3 (1 : Int32) s_5 hf)
      · replace hf := mm_if c_3 hf
        exact F.trans (fr_X11_stays_J38 x1 rv σ1 (fun z0 z1 z => fx_X11_stays_L4 x1 fu z0 z1 z) ih v3 (1 : Int32) σ hf)
theorem fr_X11_stays (x1 : Int32) (σ : mm_M) (rv : Int32) (σ1 : mm_M) (hf : fx_X11_stays x1 σ = some (rv, σ1)) : σ1 = σ := by
  refine mm_fr.none (W := (fw_X11_stays x1)) (fun _ _ _ h => h) ?_
  rw [fx_X11_stays] at hf
  have F : mm_fr (fw_X11_stays x1) σ σ := mm_fr.rf
  exact F.trans (fr_X11_stays_L4 x1 rv σ1 mm_FU (0 : Int32) (0 : Int32) σ hf)
def fw_X11_belts  (q t i : Nat) : Prop := (q = 10 ∧ t = 31) ∨ (q = 10 ∧ t = 38) ∨ (q = 10 ∧ t = 39)
theorem fr_X11_belts_J59  (rv : Int32) (σ1 : mm_M) (k2 : Int32 → mm_M → mm_R) (hk2 : ∀ (v1 : Int32) (σ : mm_M), k2 v1 σ = some (rv, σ1) → mm_fr (fw_X11_belts) σ σ1) : ∀ (v1 : Int32) (w1 : Int32) (w2 : Int32) (σ : mm_M), fx_X11_belts_J59 k2 v1 w1 w2 σ = some (rv, σ1) → mm_fr (fw_X11_belts) σ σ1 := by
  intro v1 w1 w2 σ hf
  rw [fx_X11_belts_J59] at hf
  have F : mm_fr (fw_X11_belts) σ σ := mm_fr.rf
  obtain ⟨h_10, hf⟩ := mm_gd_ok hf
  obtain ⟨h_11, hf⟩ := mm_gd_ok hf
  obtain ⟨s_12, e_12, hf⟩ := mm_lt_ok hf
  have F := F.trans (mm_fr.a e_12 (fun _ => (Or.inr (Or.inl ⟨rfl, rfl⟩))))
  obtain ⟨r_13, s_13, e_13, hf⟩ := mm_bd_ok hf
  have F := F.trans (mm_fr.eq (fr_X11_wants v1 s_12 r_13 s_13 e_13))
  obtain ⟨h_14, hf⟩ := mm_gd_ok hf
  obtain ⟨s_15, e_15, hf⟩ := mm_lt_ok hf
  have F := F.trans (mm_fr.a e_15 (fun _ => (Or.inr (Or.inr ⟨rfl, rfl⟩))))
  obtain ⟨y_16, e_16, hf⟩ := mm_li_ok hf
  exact F.trans (hk2 y_16 s_15 hf)
theorem fr_X11_belts_J58  (rv : Int32) (σ1 : mm_M) (k2 : Int32 → mm_M → mm_R) (hk2 : ∀ (v1 : Int32) (σ : mm_M), k2 v1 σ = some (rv, σ1) → mm_fr (fw_X11_belts) σ σ1) : ∀ (v1 : Int32) (w1 : Int32) (σ : mm_M), fx_X11_belts_J58 k2 v1 w1 σ = some (rv, σ1) → mm_fr (fw_X11_belts) σ σ1 := by
  intro v1 w1 σ hf
  rw [fx_X11_belts_J58] at hf
  have F : mm_fr (fw_X11_belts) σ σ := mm_fr.rf
  exact F.trans (fr_X11_belts_J59 rv σ1 k2 hk2 v1 w1 (0 : Int32) σ hf)
theorem fr_X11_belts_L87  (rv : Int32) (σ1 : mm_M) (k79 : Int32 → mm_M → mm_R) (hk79 : ∀ (v1 : Int32) (σ : mm_M), k79 v1 σ = some (rv, σ1) → mm_fr (fw_X11_belts) σ σ1) : ∀ (fu : Nat) (v1 : Int32) (v2 : Int32) (σ : mm_M), fx_X11_belts_L87 k79 fu v1 v2 σ = some (rv, σ1) → mm_fr (fw_X11_belts) σ σ1 := by
  intro fu
  induction fu with
  | zero =>
    intro v1 v2 σ hf
    exact mm_no hf
  | succ fu ih =>
    intro v1 v2 σ hf
    rw [fx_X11_belts_L87] at hf
    have F : mm_fr (fw_X11_belts) σ σ := mm_fr.rf
    by_cases c_24 : (σ 10 31 0 (0 : Int32).toNatClampNeg) ≤ v2
    · replace hf := mm_it c_24 hf
      exact F.trans (hk79 v1 σ hf)
    · replace hf := mm_if c_24 hf
      obtain ⟨h_25, hf⟩ := mm_gd_ok hf
      by_cases c_26 : (σ 10 38 0 v2.toNatClampNeg) = (0 : Int32)
      · replace hf := mm_it c_26 hf
        obtain ⟨y_27, e_27, hf⟩ := mm_li_ok hf
        exact F.trans (ih v1 y_27 σ hf)
      · replace hf := mm_if c_26 hf
        obtain ⟨r_28, s_28, e_28, hf⟩ := mm_bd_ok hf
        have F := F.trans (mm_fr.eq (fr_X11_stays v2 σ r_28 s_28 e_28))
        by_cases c_29 : r_28 = (0 : Int32)
        · replace hf := mm_it c_29 hf
          obtain ⟨y_30, e_30, hf⟩ := mm_li_ok hf
          exact F.trans (ih v1 y_30 s_28 hf)
        · replace hf := mm_if c_29 hf
          obtain ⟨h_31, hf⟩ := mm_gd_ok hf
          obtain ⟨s_32, e_32, hf⟩ := mm_lt_ok hf
          have F := F.trans (mm_fr.a e_32 (fun _ => (Or.inr (Or.inl ⟨rfl, rfl⟩))))
          obtain ⟨y_33, e_33, hf⟩ := mm_li_ok hf
          exact F.trans (ih (1 : Int32) y_33 s_32 hf)
theorem fr_X11_belts_L134  (rv : Int32) (σ1 : mm_M)  : ∀ (fu : Nat) (v2 : Int32) (σ : mm_M), fx_X11_belts_L134  fu v2 σ = some (rv, σ1) → mm_fr (fw_X11_belts) σ σ1 := by
  intro fu
  induction fu with
  | zero =>
    intro v2 σ hf
    exact mm_no hf
  | succ fu ih =>
    intro v2 σ hf
    rw [fx_X11_belts_L134] at hf
    have F : mm_fr (fw_X11_belts) σ σ := mm_fr.rf
    by_cases c_17 : (σ 10 31 0 (0 : Int32).toNatClampNeg) ≤ v2
    · replace hf := mm_it c_17 hf
      exact mm_fr.ret hf F
    · replace hf := mm_if c_17 hf
      obtain ⟨h_18, hf⟩ := mm_gd_ok hf
      by_cases c_19 : (σ 10 38 0 v2.toNatClampNeg) = (0 : Int32)
      · replace hf := mm_it c_19 hf
        obtain ⟨y_20, e_20, hf⟩ := mm_li_ok hf
        exact F.trans (ih y_20 σ hf)
      · replace hf := mm_if c_19 hf
        obtain ⟨h_21, hf⟩ := mm_gd_ok hf
        obtain ⟨r_22, s_22, e_22, hf⟩ := mm_bd_ok hf
        have F := F.trans ((fr_X11_comesTo v2 (σ 10 39 0 v2.toNatClampNeg) σ r_22 s_22 e_22).mono (fun q t i h => (fun h => (Or.inl h)) h))
        obtain ⟨y_23, e_23, hf⟩ := mm_li_ok hf
        exact F.trans (ih y_23 s_22 hf)
theorem fr_X11_belts_L79  (rv : Int32) (σ1 : mm_M)  : ∀ (fu : Nat) (v1 : Int32) (σ : mm_M), fx_X11_belts_L79  fu v1 σ = some (rv, σ1) → mm_fr (fw_X11_belts) σ σ1 := by
  intro fu
  induction fu with
  | zero =>
    intro v1 σ hf
    exact mm_no hf
  | succ fu ih =>
    intro v1 σ hf
    rw [fx_X11_belts_L79] at hf
    have F : mm_fr (fw_X11_belts) σ σ := mm_fr.rf
    by_cases c_9 : v1 = (0 : Int32)
    · replace hf := mm_it c_9 hf
      exact F.trans (fr_X11_belts_L134 rv σ1 mm_FU (0 : Int32) σ hf)
    · replace hf := mm_if c_9 hf
      exact F.trans (fr_X11_belts_L87 rv σ1 (fun z0 z => fx_X11_belts_L79 fu z0 z) ih mm_FU (0 : Int32) (0 : Int32) σ hf)
theorem fr_X11_belts_L2  (rv : Int32) (σ1 : mm_M)  : ∀ (fu : Nat) (v1 : Int32) (σ : mm_M), fx_X11_belts_L2  fu v1 σ = some (rv, σ1) → mm_fr (fw_X11_belts) σ σ1 := by
  intro fu
  induction fu with
  | zero =>
    intro v1 σ hf
    exact mm_no hf
  | succ fu ih =>
    intro v1 σ hf
    rw [fx_X11_belts_L2] at hf
    have F : mm_fr (fw_X11_belts) σ σ := mm_fr.rf
    by_cases c_1 : (σ 10 31 0 (0 : Int32).toNatClampNeg) ≤ v1
    · replace hf := mm_it c_1 hf
      exact F.trans (fr_X11_belts_L79 rv σ1 mm_FU (1 : Int32) σ hf)
    · replace hf := mm_if c_1 hf
      obtain ⟨r_2, s_2, e_2, hf⟩ := mm_bd_ok hf
      have F := F.trans (mm_fr.eq (fr_X11_isOnBelt v1 σ r_2 s_2 e_2))
      by_cases c_3 : r_2 = (0 : Int32)
      · replace hf := mm_it c_3 hf
        exact F.trans (fr_X11_belts_J58 rv σ1 (fun z0 z => fx_X11_belts_L2 fu z0 z) ih v1 v1 s_2 hf)
      · replace hf := mm_if c_3 hf
        obtain ⟨r_4, s_4, e_4, hf⟩ := mm_bd_ok hf
        have F := F.trans (mm_fr.eq (fr_X11_of v1 (1 : Int32) s_2 r_4 s_4 e_4))
        obtain ⟨r_5, s_5, e_5, hf⟩ := mm_bd_ok hf
        have F := F.trans (mm_fr.eq (fr_X11_of v1 (1 : Int32) s_4 r_5 s_5 e_5))
        obtain ⟨h_6, hf⟩ := mm_gd_ok hf
        obtain ⟨r_7, s_7, e_7, hf⟩ := mm_bd_ok hf
        have F := F.trans (mm_fr.eq (fr_X11_isWall r_4 ((s_5 10 31 0 ((11 : Int32) + r_5).toNatClampNeg) - (1 : Int32)) s_5 r_7 s_7 e_7))
        by_cases c_8 : r_7 = (0 : Int32)
        · replace hf := mm_it c_8 hf
          exact F.trans (fr_X11_belts_J59 rv σ1 (fun z0 z => fx_X11_belts_L2 fu z0 z) ih v1 v1 (1 : Int32) s_7 hf)
        · replace hf := mm_if c_8 hf
          exact F.trans (fr_X11_belts_J58 rv σ1 (fun z0 z => fx_X11_belts_L2 fu z0 z) ih v1 v1 s_7 hf)
theorem fr_X11_belts  (σ : mm_M) (rv : Int32) (σ1 : mm_M) (hf : fx_X11_belts  σ = some (rv, σ1)) : mm_fr (fw_X11_belts) σ σ1 := by
  rw [fx_X11_belts] at hf
  have F : mm_fr (fw_X11_belts) σ σ := mm_fr.rf
  exact F.trans (fr_X11_belts_L2 rv σ1 mm_FU (0 : Int32) σ hf)
def fw_X11_turns (x1 : Int32) (x2 : Int32) (q t i : Nat) : Prop := (q = 10 ∧ t = 31)
theorem fr_X11_turns (x1 : Int32) (x2 : Int32) (σ : mm_M) (rv : Int32) (σ1 : mm_M) (hf : fx_X11_turns x1 x2 σ = some (rv, σ1)) : mm_fr (fw_X11_turns x1 x2) σ σ1 := by
  rw [fx_X11_turns] at hf
  have F : mm_fr (fw_X11_turns x1 x2) σ σ := mm_fr.rf
  obtain ⟨r_1, s_1, e_1, hf⟩ := mm_bd_ok hf
  have F := F.trans (mm_fr.eq (fr_X11_of x1 (2 : Int32) σ r_1 s_1 e_1))
  obtain ⟨r_2, s_2, e_2, hf⟩ := mm_bd_ok hf
  have F := F.trans ((fr_X11_lays x1 (2 : Int32) ((r_1 + x2) - (r_1 + x2) / (4 : Int32) * (4 : Int32)) s_1 r_2 s_2 e_2).mono (fun q t i h => (fun h => h) h))
  exact mm_fr.ret hf F
def fw_X11_gears  (q t i : Nat) : Prop := (q = 10 ∧ t = 31)
theorem fr_X11_gears_J61  (rv : Int32) (σ1 : mm_M) (k2 : Int32 → mm_M → mm_R) (hk2 : ∀ (v1 : Int32) (σ : mm_M), k2 v1 σ = some (rv, σ1) → mm_fr (fw_X11_gears) σ σ1) : ∀ (v1 : Int32) (w1 : Int32) (w2 : Int32) (σ : mm_M), fx_X11_gears_J61 k2 v1 w1 w2 σ = some (rv, σ1) → mm_fr (fw_X11_gears) σ σ1 := by
  intro v1 w1 w2 σ hf
  rw [fx_X11_gears_J61] at hf
  have F : mm_fr (fw_X11_gears) σ σ := mm_fr.rf
  obtain ⟨r_8, s_8, e_8, hf⟩ := mm_bd_ok hf
  have F := F.trans ((fr_X11_turns w1 w2 σ r_8 s_8 e_8).mono (fun q t i h => (fun h => h) h))
  obtain ⟨y_9, e_9, hf⟩ := mm_li_ok hf
  exact F.trans (hk2 y_9 s_8 hf)
theorem fr_X11_gears_J38  (rv : Int32) (σ1 : mm_M) (k2 : Int32 → mm_M → mm_R) (hk2 : ∀ (v1 : Int32) (σ : mm_M), k2 v1 σ = some (rv, σ1) → mm_fr (fw_X11_gears) σ σ1) : ∀ (v1 : Int32) (w0 : Int32) (σ : mm_M), fx_X11_gears_J38 k2 v1 w0 σ = some (rv, σ1) → mm_fr (fw_X11_gears) σ σ1 := by
  intro v1 w0 σ hf
  rw [fx_X11_gears_J38] at hf
  have F : mm_fr (fw_X11_gears) σ σ := mm_fr.rf
  by_cases c_6 : w0 = (5 : Int32)
  · replace hf := mm_it c_6 hf
    exact F.trans (fr_X11_gears_J61 rv σ1 k2 hk2 v1 v1 (3 : Int32) σ hf)
  · replace hf := mm_if c_6 hf
    by_cases c_7 : w0 = (6 : Int32)
    · replace hf := mm_it c_7 hf
      exact F.trans (fr_X11_gears_J61 rv σ1 k2 hk2 v1 v1 (1 : Int32) σ hf)
    · replace hf := mm_if c_7 hf
      exact F.trans (fr_X11_gears_J61 rv σ1 k2 hk2 v1 v1 (0 : Int32) σ hf)
theorem fr_X11_gears_L2  (rv : Int32) (σ1 : mm_M)  : ∀ (fu : Nat) (v1 : Int32) (σ : mm_M), fx_X11_gears_L2  fu v1 σ = some (rv, σ1) → mm_fr (fw_X11_gears) σ σ1 := by
  intro fu
  induction fu with
  | zero =>
    intro v1 σ hf
    exact mm_no hf
  | succ fu ih =>
    intro v1 σ hf
    rw [fx_X11_gears_L2] at hf
    have F : mm_fr (fw_X11_gears) σ σ := mm_fr.rf
    by_cases c_1 : (σ 10 31 0 (0 : Int32).toNatClampNeg) ≤ v1
    · replace hf := mm_it c_1 hf
      exact mm_fr.ret hf F
    · replace hf := mm_if c_1 hf
      obtain ⟨r_2, s_2, e_2, hf⟩ := mm_bd_ok hf
      have F := F.trans (mm_fr.eq (fr_X11_isOut v1 σ r_2 s_2 e_2))
      by_cases c_3 : r_2 = (0 : Int32)
      · replace hf := mm_it c_3 hf
        obtain ⟨r_4, s_4, e_4, hf⟩ := mm_bd_ok hf
        have F := F.trans (mm_fr.eq (fr_X11_of v1 (1 : Int32) s_2 r_4 s_4 e_4))
        obtain ⟨h_5, hf⟩ := mm_gd_ok hf
        exact F.trans (fr_X11_gears_J38 rv σ1 (fun z0 z => fx_X11_gears_L2 fu z0 z) ih v1 (s_4 10 31 0 ((11 : Int32) + r_4).toNatClampNeg) s_4 hf)
      · replace hf := mm_if c_3 hf
        exact F.trans (fr_X11_gears_J38 rv σ1 (fun z0 z => fx_X11_gears_L2 fu z0 z) ih v1 (0 : Int32) s_2 hf)
theorem fr_X11_gears  (σ : mm_M) (rv : Int32) (σ1 : mm_M) (hf : fx_X11_gears  σ = some (rv, σ1)) : mm_fr (fw_X11_gears) σ σ1 := by
  rw [fx_X11_gears] at hf
  have F : mm_fr (fw_X11_gears) σ σ := mm_fr.rf
  exact F.trans (fr_X11_gears_L2 rv σ1 mm_FU (0 : Int32) σ hf)
def fw_X11_nextFlag (x1 : Int32) (q t i : Nat) : Prop := False
theorem fr_X11_nextFlag (x1 : Int32) (σ : mm_M) (rv : Int32) (σ1 : mm_M) (hf : fx_X11_nextFlag x1 σ = some (rv, σ1)) : σ1 = σ := by
  refine mm_fr.none (W := (fw_X11_nextFlag x1)) (fun _ _ _ h => h) ?_
  rw [fx_X11_nextFlag] at hf
  have F : mm_fr (fw_X11_nextFlag x1) σ σ := mm_fr.rf
  obtain ⟨r_1, s_1, e_1, hf⟩ := mm_bd_ok hf
  have F := F.trans (mm_fr.eq (fr_X11_of x1 (4 : Int32) σ r_1 s_1 e_1))
  by_cases c_2 : (s_1 10 31 0 (3 : Int32).toNatClampNeg) ≤ r_1
  · replace hf := mm_it c_2 hf
    exact mm_fr.ret hf F
  · replace hf := mm_if c_2 hf
    obtain ⟨r_3, s_3, e_3, hf⟩ := mm_bd_ok hf
    have F := F.trans (mm_fr.eq (fr_X11_of x1 (4 : Int32) s_1 r_3 s_3 e_3))
    obtain ⟨h_4, hf⟩ := mm_gd_ok hf
    exact mm_fr.ret hf F
def fw_X11_touches  (q t i : Nat) : Prop := (q = 10 ∧ t = 31)
theorem fr_X11_touches_J79  (rv : Int32) (σ1 : mm_M) (k2 : Int32 → mm_M → mm_R) (hk2 : ∀ (v1 : Int32) (σ : mm_M), k2 v1 σ = some (rv, σ1) → mm_fr (fw_X11_touches) σ σ1) : ∀ (v1 : Int32) (w1 : Int32) (w2 : Int32) (σ : mm_M), fx_X11_touches_J79 k2 v1 w1 w2 σ = some (rv, σ1) → mm_fr (fw_X11_touches) σ σ1 := by
  intro v1 w1 w2 σ hf
  rw [fx_X11_touches_J79] at hf
  have F : mm_fr (fw_X11_touches) σ σ := mm_fr.rf
  obtain ⟨h_13, hf⟩ := mm_gd_ok hf
  obtain ⟨s_14, e_14, hf⟩ := mm_lt_ok hf
  have F := F.trans (mm_fr.a e_14 (fun _ => ⟨rfl, rfl⟩))
  obtain ⟨y_15, e_15, hf⟩ := mm_li_ok hf
  exact F.trans (hk2 y_15 s_14 hf)
theorem fr_X11_touches_J73  (rv : Int32) (σ1 : mm_M) (k2 : Int32 → mm_M → mm_R) (hk2 : ∀ (v1 : Int32) (σ : mm_M), k2 v1 σ = some (rv, σ1) → mm_fr (fw_X11_touches) σ σ1) : ∀ (v1 : Int32) (w1 : Int32) (σ : mm_M), fx_X11_touches_J73 k2 v1 w1 σ = some (rv, σ1) → mm_fr (fw_X11_touches) σ σ1 := by
  intro v1 w1 σ hf
  rw [fx_X11_touches_J73] at hf
  have F : mm_fr (fw_X11_touches) σ σ := mm_fr.rf
  exact F.trans (fr_X11_touches_J79 rv σ1 k2 hk2 v1 w1 (σ 10 31 0 (4 : Int32).toNatClampNeg) σ hf)
theorem fr_X11_touches_L2  (rv : Int32) (σ1 : mm_M)  : ∀ (fu : Nat) (v1 : Int32) (σ : mm_M), fx_X11_touches_L2  fu v1 σ = some (rv, σ1) → mm_fr (fw_X11_touches) σ σ1 := by
  intro fu
  induction fu with
  | zero =>
    intro v1 σ hf
    exact mm_no hf
  | succ fu ih =>
    intro v1 σ hf
    rw [fx_X11_touches_L2] at hf
    have F : mm_fr (fw_X11_touches) σ σ := mm_fr.rf
    by_cases c_1 : (σ 10 31 0 (0 : Int32).toNatClampNeg) ≤ v1
    · replace hf := mm_it c_1 hf
      exact mm_fr.ret hf F
    · replace hf := mm_if c_1 hf
      obtain ⟨r_2, s_2, e_2, hf⟩ := mm_bd_ok hf
      have F := F.trans (mm_fr.eq (fr_X11_isOut v1 σ r_2 s_2 e_2))
      by_cases c_3 : r_2 = (0 : Int32)
      · replace hf := mm_it c_3 hf
        obtain ⟨r_5, s_5, e_5, hf⟩ := mm_bd_ok hf
        have F := F.trans (mm_fr.eq (fr_X11_nextFlag v1 s_2 r_5 s_5 e_5))
        obtain ⟨r_6, s_6, e_6, hf⟩ := mm_bd_ok hf
        have F := F.trans (mm_fr.eq (fr_X11_of v1 (1 : Int32) s_5 r_6 s_6 e_6))
        by_cases c_7 : r_5 = r_6
        · replace hf := mm_it c_7 hf
          obtain ⟨r_9, s_9, e_9, hf⟩ := mm_bd_ok hf
          have F := F.trans ((fr_X11_more v1 (4 : Int32) s_6 r_9 s_9 e_9).mono (fun q t i h => (fun h => h) h))
          by_cases c_10 : (0 : Int32) ≤ (s_9 10 31 0 (4 : Int32).toNatClampNeg)
          · replace hf := mm_it c_10 hf
            exact F.trans (fr_X11_touches_J73 rv σ1 (fun z0 z => fx_X11_touches_L2 fu z0 z) ih v1 (4 : Int32) s_9 hf)
          · replace hf := mm_if c_10 hf
            obtain ⟨r_11, s_11, e_11, hf⟩ := mm_bd_ok hf
            have F := F.trans (mm_fr.eq (fr_X11_of v1 (4 : Int32) s_9 r_11 s_11 e_11))
            by_cases c_12 : r_11 = (s_11 10 31 0 (3 : Int32).toNatClampNeg)
            · replace hf := mm_it c_12 hf
              exact F.trans (fr_X11_touches_J79 rv σ1 (fun z0 z => fx_X11_touches_L2 fu z0 z) ih v1 (4 : Int32) v1 s_11 hf)
            · replace hf := mm_if c_12 hf
              exact F.trans (fr_X11_touches_J73 rv σ1 (fun z0 z => fx_X11_touches_L2 fu z0 z) ih v1 (4 : Int32) s_11 hf)
        · replace hf := mm_if c_7 hf
          obtain ⟨y_8, e_8, hf⟩ := mm_li_ok hf
          exact F.trans (ih y_8 s_6 hf)
      · replace hf := mm_if c_3 hf
        obtain ⟨y_4, e_4, hf⟩ := mm_li_ok hf
        exact F.trans (ih y_4 s_2 hf)
theorem fr_X11_touches  (σ : mm_M) (rv : Int32) (σ1 : mm_M) (hf : fx_X11_touches  σ = some (rv, σ1)) : mm_fr (fw_X11_touches) σ σ1 := by
  rw [fx_X11_touches] at hf
  have F : mm_fr (fw_X11_touches) σ σ := mm_fr.rf
  exact F.trans (fr_X11_touches_L2 rv σ1 mm_FU (0 : Int32) σ hf)
def fw_X11_empties (x1 : Int32) (x2 : Int32) (q t i : Nat) : Prop := (q = 10 ∧ t = 31)
theorem fr_X11_empties_J20 (x1 : Int32) (x2 : Int32) (rv : Int32) (σ1 : mm_M) (k2 : Int32 → mm_M → mm_R) (hk2 : ∀ (v3 : Int32) (σ : mm_M), k2 v3 σ = some (rv, σ1) → mm_fr (fw_X11_empties x1 x2) σ σ1) : ∀ (v3 : Int32) (σ : mm_M), fx_X11_empties_J20 x1 x2 k2 v3 σ = some (rv, σ1) → mm_fr (fw_X11_empties x1 x2) σ σ1 := by
  intro v3 σ hf
  rw [fx_X11_empties_J20] at hf
  have F : mm_fr (fw_X11_empties x1 x2) σ σ := mm_fr.rf
  obtain ⟨r_6, s_6, e_6, hf⟩ := mm_bd_ok hf
  have F := F.trans ((fr_X11_lays x1 ((7 : Int32) + ((2 : Int32) * v3)) (0 : Int32) σ r_6 s_6 e_6).mono (fun q t i h => (fun h => h) h))
  obtain ⟨r_7, s_7, e_7, hf⟩ := mm_bd_ok hf
  have F := F.trans ((fr_X11_lays x1 (((7 : Int32) + ((2 : Int32) * v3)) + (1 : Int32)) (0 : Int32) s_6 r_7 s_7 e_7).mono (fun q t i h => (fun h => h) h))
  obtain ⟨y_8, e_8, hf⟩ := mm_li_ok hf
  exact F.trans (hk2 y_8 s_7 hf)
theorem fr_X11_empties_L2 (x1 : Int32) (x2 : Int32) (rv : Int32) (σ1 : mm_M)  : ∀ (fu : Nat) (v3 : Int32) (σ : mm_M), fx_X11_empties_L2 x1 x2 fu v3 σ = some (rv, σ1) → mm_fr (fw_X11_empties x1 x2) σ σ1 := by
  intro fu
  induction fu with
  | zero =>
    intro v3 σ hf
    exact mm_no hf
  | succ fu ih =>
    intro v3 σ hf
    rw [fx_X11_empties_L2] at hf
    have F : mm_fr (fw_X11_empties x1 x2) σ σ := mm_fr.rf
    by_cases c_1 : (5 : Int32) ≤ v3
    · replace hf := mm_it c_1 hf
      exact mm_fr.ret hf F
    · replace hf := mm_if c_1 hf
      by_cases c_2 : x2 = (0 : Int32)
      · replace hf := mm_it c_2 hf
        obtain ⟨r_3, s_3, e_3, hf⟩ := mm_bd_ok hf
        have F := F.trans (mm_fr.eq (fr_X11_isLocked x1 v3 σ r_3 s_3 e_3))
        by_cases c_4 : r_3 = (0 : Int32)
        · replace hf := mm_it c_4 hf
          exact F.trans (fr_X11_empties_J20 x1 x2 rv σ1 (fun z0 z => fx_X11_empties_L2 x1 x2 fu z0 z) ih v3 s_3 hf)
        · replace hf := mm_if c_4 hf
          obtain ⟨y_5, e_5, hf⟩ := mm_li_ok hf
          exact F.trans (ih y_5 s_3 hf)
      · replace hf := mm_if c_2 hf
        exact F.trans (fr_X11_empties_J20 x1 x2 rv σ1 (fun z0 z => fx_X11_empties_L2 x1 x2 fu z0 z) ih v3 σ hf)
theorem fr_X11_empties (x1 : Int32) (x2 : Int32) (σ : mm_M) (rv : Int32) (σ1 : mm_M) (hf : fx_X11_empties x1 x2 σ = some (rv, σ1)) : mm_fr (fw_X11_empties x1 x2) σ σ1 := by
  rw [fx_X11_empties] at hf
  have F : mm_fr (fw_X11_empties x1 x2) σ σ := mm_fr.rf
  exact F.trans (fr_X11_empties_L2 x1 x2 rv σ1 mm_FU (0 : Int32) σ hf)
def fw_X11_comesBack (x1 : Int32) (q t i : Nat) : Prop := (q = 10 ∧ t = 31)
theorem fr_X11_comesBack_J51 (x1 : Int32) (rv : Int32) (σ1 : mm_M)  : ∀ (w1 : Int32) (w2 : Int32) (w3 : Int32) (σ : mm_M), fx_X11_comesBack_J51 x1 w1 w2 w3 σ = some (rv, σ1) → mm_fr (fw_X11_comesBack x1) σ σ1 := by
  intro w1 w2 w3 σ hf
  rw [fx_X11_comesBack_J51] at hf
  have F : mm_fr (fw_X11_comesBack x1) σ σ := mm_fr.rf
  obtain ⟨r_9, s_9, e_9, hf⟩ := mm_bd_ok hf
  have F := F.trans ((fr_X11_lays w1 w2 w3 σ r_9 s_9 e_9).mono (fun q t i h => (fun h => h) h))
  obtain ⟨r_10, s_10, e_10, hf⟩ := mm_bd_ok hf
  have F := F.trans ((fr_X11_lays x1 (2 : Int32) (0 : Int32) s_9 r_10 s_10 e_10).mono (fun q t i h => (fun h => h) h))
  obtain ⟨r_11, s_11, e_11, hf⟩ := mm_bd_ok hf
  have F := F.trans ((fr_X11_lays x1 (3 : Int32) (2 : Int32) s_10 r_11 s_11 e_11).mono (fun q t i h => (fun h => h) h))
  obtain ⟨r_12, s_12, e_12, hf⟩ := mm_bd_ok hf
  have F := F.trans ((fr_X11_empties x1 (1 : Int32) s_11 r_12 s_12 e_12).mono (fun q t i h => (fun h => h) h))
  exact mm_fr.ret hf F
theorem fr_X11_comesBack_J37 (x1 : Int32) (rv : Int32) (σ1 : mm_M)  : ∀ (v2 : Int32) (σ : mm_M), fx_X11_comesBack_J37 x1 v2 σ = some (rv, σ1) → mm_fr (fw_X11_comesBack x1) σ σ1 := by
  intro v2 σ hf
  rw [fx_X11_comesBack_J37] at hf
  have F : mm_fr (fw_X11_comesBack x1) σ σ := mm_fr.rf
  by_cases c_4 : v2 = (64 : Int32)
  · replace hf := mm_it c_4 hf
    exact F.trans (fr_X11_comesBack_J51 x1 rv σ1 x1 (1 : Int32) (-1 : Int32) σ hf)
  · replace hf := mm_if c_4 hf
    exact F.trans (fr_X11_comesBack_J51 x1 rv σ1 x1 (1 : Int32) v2 σ hf)
theorem fr_X11_comesBack_L17 (x1 : Int32) (rv : Int32) (σ1 : mm_M)  : ∀ (fu : Nat) (v2 : Int32) (σ : mm_M), fx_X11_comesBack_L17 x1 fu v2 σ = some (rv, σ1) → mm_fr (fw_X11_comesBack x1) σ σ1 := by
  intro fu
  induction fu with
  | zero =>
    intro v2 σ hf
    exact mm_no hf
  | succ fu ih =>
    intro v2 σ hf
    rw [fx_X11_comesBack_L17] at hf
    have F : mm_fr (fw_X11_comesBack x1) σ σ := mm_fr.rf
    by_cases c_5 : (64 : Int32) ≤ v2
    · replace hf := mm_it c_5 hf
      exact F.trans (fr_X11_comesBack_J37 x1 rv σ1 v2 σ hf)
    · replace hf := mm_if c_5 hf
      obtain ⟨r_6, s_6, e_6, hf⟩ := mm_bd_ok hf
      have F := F.trans (mm_fr.eq (fr_X11_isGood v2 σ r_6 s_6 e_6))
      by_cases c_7 : r_6 = (0 : Int32)
      · replace hf := mm_it c_7 hf
        obtain ⟨y_8, e_8, hf⟩ := mm_li_ok hf
        exact F.trans (ih y_8 s_6 hf)
      · replace hf := mm_if c_7 hf
        exact F.trans (fr_X11_comesBack_J37 x1 rv σ1 v2 s_6 hf)
theorem fr_X11_comesBack (x1 : Int32) (σ : mm_M) (rv : Int32) (σ1 : mm_M) (hf : fx_X11_comesBack x1 σ = some (rv, σ1)) : mm_fr (fw_X11_comesBack x1) σ σ1 := by
  rw [fx_X11_comesBack] at hf
  have F : mm_fr (fw_X11_comesBack x1) σ σ := mm_fr.rf
  obtain ⟨r_1, s_1, e_1, hf⟩ := mm_bd_ok hf
  have F := F.trans (mm_fr.eq (fr_X11_of x1 (0 : Int32) σ r_1 s_1 e_1))
  obtain ⟨r_2, s_2, e_2, hf⟩ := mm_bd_ok hf
  have F := F.trans (mm_fr.eq (fr_X11_isGood r_1 s_1 r_2 s_2 e_2))
  by_cases c_3 : r_2 = (0 : Int32)
  · replace hf := mm_it c_3 hf
    exact F.trans (fr_X11_comesBack_L17 x1 rv σ1 mm_FU (0 : Int32) s_2 hf)
  · replace hf := mm_if c_3 hf
    exact F.trans (fr_X11_comesBack_J37 x1 rv σ1 r_1 s_2 hf)
def fw_X11_ends  (q t i : Nat) : Prop := (q = 10 ∧ t = 31)
theorem fr_X11_ends_J72  (rv : Int32) (σ1 : mm_M) (k2 : Int32 → mm_M → mm_R) (hk2 : ∀ (v1 : Int32) (σ : mm_M), k2 v1 σ = some (rv, σ1) → mm_fr (fw_X11_ends) σ σ1) : ∀ (v1 : Int32) (w1 : Int32) (w2 : Int32) (w3 : Int32) (w4 : Int32) (σ : mm_M), fx_X11_ends_J72 k2 v1 w1 w2 w3 w4 σ = some (rv, σ1) → mm_fr (fw_X11_ends) σ σ1 := by
  intro v1 w1 w2 w3 w4 σ hf
  rw [fx_X11_ends_J72] at hf
  have F : mm_fr (fw_X11_ends) σ σ := mm_fr.rf
  obtain ⟨r_19, s_19, e_19, hf⟩ := mm_bd_ok hf
  have F := F.trans ((fr_X11_lays w1 w2 (w3 - w4) σ r_19 s_19 e_19).mono (fun q t i h => (fun h => h) h))
  obtain ⟨r_20, s_20, e_20, hf⟩ := mm_bd_ok hf
  have F := F.trans ((fr_X11_empties v1 (0 : Int32) s_19 r_20 s_20 e_20).mono (fun q t i h => (fun h => h) h))
  obtain ⟨y_21, e_21, hf⟩ := mm_li_ok hf
  exact F.trans (hk2 y_21 s_20 hf)
theorem fr_X11_ends_J53  (rv : Int32) (σ1 : mm_M) (k2 : Int32 → mm_M → mm_R) (hk2 : ∀ (v1 : Int32) (σ : mm_M), k2 v1 σ = some (rv, σ1) → mm_fr (fw_X11_ends) σ σ1) : ∀ (v1 : Int32) (w0 : Int32) (σ : mm_M), fx_X11_ends_J53 k2 v1 w0 σ = some (rv, σ1) → mm_fr (fw_X11_ends) σ σ1 := by
  intro v1 w0 σ hf
  rw [fx_X11_ends_J53] at hf
  have F : mm_fr (fw_X11_ends) σ σ := mm_fr.rf
  obtain ⟨r_17, s_17, e_17, hf⟩ := mm_bd_ok hf
  have F := F.trans (mm_fr.eq (fr_X11_of v1 (3 : Int32) σ r_17 s_17 e_17))
  by_cases c_18 : w0 = (0 : Int32)
  · replace hf := mm_it c_18 hf
    exact F.trans (fr_X11_ends_J72 rv σ1 k2 hk2 v1 v1 (3 : Int32) r_17 (0 : Int32) s_17 hf)
  · replace hf := mm_if c_18 hf
    exact F.trans (fr_X11_ends_J72 rv σ1 k2 hk2 v1 v1 (3 : Int32) r_17 (1 : Int32) s_17 hf)
theorem fr_X11_ends_J52  (rv : Int32) (σ1 : mm_M) (k2 : Int32 → mm_M → mm_R) (hk2 : ∀ (v1 : Int32) (σ : mm_M), k2 v1 σ = some (rv, σ1) → mm_fr (fw_X11_ends) σ σ1) : ∀ (v1 : Int32) (σ : mm_M), fx_X11_ends_J52 k2 v1 σ = some (rv, σ1) → mm_fr (fw_X11_ends) σ σ1 := by
  intro v1 σ hf
  rw [fx_X11_ends_J52] at hf
  have F : mm_fr (fw_X11_ends) σ σ := mm_fr.rf
  exact F.trans (fr_X11_ends_J53 rv σ1 k2 hk2 v1 (0 : Int32) σ hf)
theorem fr_X11_ends_L90  (rv : Int32) (σ1 : mm_M)  : ∀ (fu : Nat) (v1 : Int32) (σ : mm_M), fx_X11_ends_L90  fu v1 σ = some (rv, σ1) → mm_fr (fw_X11_ends) σ σ1 := by
  intro fu
  induction fu with
  | zero =>
    intro v1 σ hf
    exact mm_no hf
  | succ fu ih =>
    intro v1 σ hf
    rw [fx_X11_ends_L90] at hf
    have F : mm_fr (fw_X11_ends) σ σ := mm_fr.rf
    by_cases c_9 : (σ 10 31 0 (0 : Int32).toNatClampNeg) ≤ v1
    · replace hf := mm_it c_9 hf
      obtain ⟨s_10, e_10, hf⟩ := mm_lt_ok hf
      have F := F.trans (mm_fr.a e_10 (fun _ => ⟨rfl, rfl⟩))
      obtain ⟨s_11, e_11, hf⟩ := mm_lt_ok hf
      have F := F.trans (mm_fr.a e_11 (fun _ => ⟨rfl, rfl⟩))
      exact mm_fr.ret hf F
    · replace hf := mm_if c_9 hf
      obtain ⟨r_12, s_12, e_12, hf⟩ := mm_bd_ok hf
      have F := F.trans (mm_fr.eq (fr_X11_isOut v1 σ r_12 s_12 e_12))
      by_cases c_13 : r_12 = (0 : Int32)
      · replace hf := mm_it c_13 hf
        obtain ⟨y_14, e_14, hf⟩ := mm_li_ok hf
        exact F.trans (ih y_14 s_12 hf)
      · replace hf := mm_if c_13 hf
        obtain ⟨r_15, s_15, e_15, hf⟩ := mm_bd_ok hf
        have F := F.trans ((fr_X11_comesBack v1 s_12 r_15 s_15 e_15).mono (fun q t i h => (fun h => h) h))
        obtain ⟨y_16, e_16, hf⟩ := mm_li_ok hf
        exact F.trans (ih y_16 s_15 hf)
theorem fr_X11_ends_L2  (rv : Int32) (σ1 : mm_M)  : ∀ (fu : Nat) (v1 : Int32) (σ : mm_M), fx_X11_ends_L2  fu v1 σ = some (rv, σ1) → mm_fr (fw_X11_ends) σ σ1 := by
  intro fu
  induction fu with
  | zero =>
    intro v1 σ hf
    exact mm_no hf
  | succ fu ih =>
    intro v1 σ hf
    rw [fx_X11_ends_L2] at hf
    have F : mm_fr (fw_X11_ends) σ σ := mm_fr.rf
    by_cases c_1 : (σ 10 31 0 (0 : Int32).toNatClampNeg) ≤ v1
    · replace hf := mm_it c_1 hf
      exact F.trans (fr_X11_ends_L90 rv σ1 mm_FU (0 : Int32) σ hf)
    · replace hf := mm_if c_1 hf
      obtain ⟨r_2, s_2, e_2, hf⟩ := mm_bd_ok hf
      have F := F.trans (mm_fr.eq (fr_X11_isOut v1 σ r_2 s_2 e_2))
      by_cases c_3 : r_2 = (0 : Int32)
      · replace hf := mm_it c_3 hf
        obtain ⟨r_4, s_4, e_4, hf⟩ := mm_bd_ok hf
        have F := F.trans (mm_fr.eq (fr_X11_of v1 (1 : Int32) s_2 r_4 s_4 e_4))
        obtain ⟨h_5, hf⟩ := mm_gd_ok hf
        by_cases c_6 : (s_4 10 31 0 ((11 : Int32) + r_4).toNatClampNeg) = (8 : Int32)
        · replace hf := mm_it c_6 hf
          obtain ⟨r_7, s_7, e_7, hf⟩ := mm_bd_ok hf
          have F := F.trans (mm_fr.eq (fr_X11_of v1 (3 : Int32) s_4 r_7 s_7 e_7))
          by_cases c_8 : r_7 ≤ (0 : Int32)
          · replace hf := mm_it c_8 hf
            exact F.trans (fr_X11_ends_J52 rv σ1 (fun z0 z => fx_X11_ends_L2 fu z0 z) ih v1 s_7 hf)
          · replace hf := mm_if c_8 hf
            exact F.trans (fr_X11_ends_J53 rv σ1 (fun z0 z => fx_X11_ends_L2 fu z0 z) ih v1 (1 : Int32) s_7 hf)
        · replace hf := mm_if c_6 hf
          exact F.trans (fr_X11_ends_J52 rv σ1 (fun z0 z => fx_X11_ends_L2 fu z0 z) ih v1 s_4 hf)
      · replace hf := mm_if c_3 hf
        exact F.trans (fr_X11_ends_J52 rv σ1 (fun z0 z => fx_X11_ends_L2 fu z0 z) ih v1 s_2 hf)
theorem fr_X11_ends  (σ : mm_M) (rv : Int32) (σ1 : mm_M) (hf : fx_X11_ends  σ = some (rv, σ1)) : mm_fr (fw_X11_ends) σ σ1 := by
  rw [fx_X11_ends] at hf
  have F : mm_fr (fw_X11_ends) σ σ := mm_fr.rf
  exact F.trans (fr_X11_ends_L2 rv σ1 mm_FU (0 : Int32) σ hf)
