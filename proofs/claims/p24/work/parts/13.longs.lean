/-! functions that answer a long -/
abbrev mm_RL : Type := Option (Int64 × mm_M)
def mm_gdL (c : Prop) [Decidable c] (k : mm_RL) : mm_RL := if c then k else none
theorem mm_gdL_ok {c : Prop} [Decidable c] {k : mm_RL} {y : Int64 × mm_M} (h : mm_gdL c k = some y) : c ∧ k = some y := by
  unfold mm_gdL at h
  split at h
  · exact ⟨by assumption, h⟩
  · cases h
def mm_bdL (x : mm_R) (k : Int32 → mm_M → mm_RL) : mm_RL := match x with
  | some q => k q.1 q.2
  | none => none
theorem mm_bdL_ok {x : mm_R} {k : Int32 → mm_M → mm_RL} {y : Int64 × mm_M} (h : mm_bdL x k = some y) : ∃ (r : Int32) (s : mm_M), x = some (r, s) ∧ k r s = some y := by
  cases x with
  | none => cases h
  | some q => exact ⟨q.1, q.2, rfl, h⟩
def mm_bdJ (x : mm_RL) (k : Int64 → mm_M → mm_R) : mm_R := match x with
  | some q => k q.1 q.2
  | none => none
theorem mm_bdJ_ok {x : mm_RL} {k : Int64 → mm_M → mm_R} {y : Int32 × mm_M} (h : mm_bdJ x k = some y) : ∃ (r : Int64) (s : mm_M), x = some (r, s) ∧ k r s = some y := by
  cases x with
  | none => cases h
  | some q => exact ⟨q.1, q.2, rfl, h⟩
def mm_ltL (v : mm_M) (k : mm_M → mm_RL) : mm_RL := k v
theorem mm_ltL_ok {v : mm_M} {k : mm_M → mm_RL} {y : Int64 × mm_M} (h : mm_ltL v k = some y) : ∃ s : mm_M, s = v ∧ k s = some y := ⟨v, rfl, h⟩
def mm_liL (v : Int32) (k : Int32 → mm_RL) : mm_RL := k v
theorem mm_liL_ok {v : Int32} {k : Int32 → mm_RL} {y : Int64 × mm_M} (h : mm_liL v k = some y) : ∃ s : Int32, s = v ∧ k s = some y := ⟨v, rfl, h⟩
theorem mm_itL {c : Prop} [Decidable c] {a b : mm_RL} {y : Int64 × mm_M} (hc : c) (h : (if c then a else b) = some y) : a = some y := by rw [if_pos hc] at h; exact h
theorem mm_ifL {c : Prop} [Decidable c] {a b : mm_RL} {y : Int64 × mm_M} (hc : ¬ c) (h : (if c then a else b) = some y) : b = some y := by rw [if_neg hc] at h; exact h
theorem mm_retL {a c : Int64} {b d : mm_M} (h : some (a, b) = some (c, d)) : c = a ∧ d = b := by cases h; exact ⟨rfl, rfl⟩
theorem mm_noL {P : Prop} {y : Int64 × mm_M} (h : (none : mm_RL) = some y) : P := by cases h
theorem mm_lret {p : Program} {l : Launch} {e : Env} {R : Room} {s : State} {m : MethodId} {args : Array Value} {below : List Frame} {meth : Method} {c : Code} {H : Heap} {locs : List Loc} {cc : ByteArray} {nL : Nat} {own : String} {D : va_G} {ad : mm_A} {cA : Nat → ClassId} {σ : mm_M} {pc : Nat} {ls : Array Slot} {v : Int64} (X : mm_X p s m args meth c cc nL (some .long) own D ad cA) (hP : va_P D vwCl (mm_wd ad cA σ) H) (hS : va_S (mm_AS ad) s.heap H locs) (hdg : decode cc pc = .ok (.lreturn, 1)) : W p l e R s m args below meth c H locs 0 0 (MQ below (mm_Q D ad cA (some (.long v)) σ) args s 0 0 (mm_AS ad)) (F0 m pc ls [.long v]) :=
  W.lret X.1 X.2.1 X.2.2.2.1 (fun t ht _ => ⟨⟨rfl, by rw [ht]; exact hP⟩, hS.F ht⟩) hS.2.2 hdg X.2.2.2.2.1
