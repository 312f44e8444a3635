/-! the machine of the system: a fixed set of cells; a memory says what they hold -/
abbrev mm_M : Type := Nat → Nat → Nat → Nat → Int32
abbrev mm_A : Type := Nat → Nat → Nat → Nat
abbrev mm_R : Type := Option (Int32 × mm_M)
def mm_w (σ : mm_M) (r t n : Nat) (g : Nat → Int32) : mm_M := fun r1 t1 n1 => if r1 = r ∧ t1 = t ∧ n1 = n then g else σ r1 t1 n1
def mm_u (σ : mm_M) (r t n i : Nat) (v : Int32) : mm_M := mm_w σ r t n (upd (σ r t n) i v)
def mm_ix (i : Int32) (n : Nat) : Bool := decide (¬ i < 0) && decide (i.toNatClampNeg < n)
theorem mm_ix_in {i : Int32} {n : Nat} (h : mm_ix i n = true) : vp_in i n := by
  simp only [mm_ix, Bool.and_eq_true, decide_eq_true_eq] at h
  exact fun q => q.elim h.1 (fun z => Nat.not_le.mpr h.2 z)
theorem mm_ix_lt {i : Int32} {n : Nat} (h : mm_ix i n = true) : i.toNatClampNeg < n := by
  simp only [mm_ix, Bool.and_eq_true, decide_eq_true_eq] at h
  exact h.2
def mm_gd (c : Prop) [Decidable c] (k : mm_R) : mm_R := if c then k else none
theorem mm_gd_ok {c : Prop} [Decidable c] {k : mm_R} {y : Int32 × mm_M} (h : mm_gd c k = some y) : c ∧ k = some y := by
  unfold mm_gd at h
  split at h
  · exact ⟨by assumption, h⟩
  · cases h
def mm_bd (x : mm_R) (k : Int32 → mm_M → mm_R) : mm_R := match x with
  | some q => k q.1 q.2
  | none => none
theorem mm_bd_ok {x : mm_R} {k : Int32 → mm_M → mm_R} {y : Int32 × mm_M} (h : mm_bd x k = some y) : ∃ (r : Int32) (s : mm_M), x = some (r, s) ∧ k r s = some y := by
  cases x with
  | none => cases h
  | some q => exact ⟨q.1, q.2, rfl, h⟩
def mm_lt (v : mm_M) (k : mm_M → mm_R) : mm_R := k v
theorem mm_lt_ok {v : mm_M} {k : mm_M → mm_R} {y : Int32 × mm_M} (h : mm_lt v k = some y) : ∃ s : mm_M, s = v ∧ k s = some y := ⟨v, rfl, h⟩
def mm_li (v : Int32) (k : Int32 → mm_R) : mm_R := k v
theorem mm_li_ok {v : Int32} {k : Int32 → mm_R} {y : Int32 × mm_M} (h : mm_li v k = some y) : ∃ s : Int32, s = v ∧ k s = some y := ⟨v, rfl, h⟩
theorem mm_it {c : Prop} [Decidable c] {a b : mm_R} {y : Int32 × mm_M} (hc : c) (h : (if c then a else b) = some y) : a = some y := by rw [if_pos hc] at h; exact h
theorem mm_if {c : Prop} [Decidable c] {a b : mm_R} {y : Int32 × mm_M} (hc : ¬ c) (h : (if c then a else b) = some y) : b = some y := by rw [if_neg hc] at h; exact h
theorem mm_ret {a c : Int32} {b d : mm_M} (h : some (a, b) = some (c, d)) : c = a ∧ d = b := by cases h; exact ⟨rfl, rfl⟩
theorem mm_no {P : Prop} {y : Int32 × mm_M} (h : (none : mm_R) = some y) : P := by cases h
def mm_rem (x y : Int32) : Int32 := x - x / y * y
def mm_FU : Nat := 2000
def mm_keys : List (Nat × Nat × Nat) := [(0, 0, 0), (0, 1, 0), (0, 2, 0), (0, 3, 0), (0, 4, 0), (0, 5, 0), (0, 6, 0), (0, 7, 0), (0, 8, 0), (0, 6, 1), (0, 7, 1), (0, 8, 1), (0, 6, 2), (0, 7, 2), (0, 8, 2), (0, 6, 3), (0, 7, 3), (0, 8, 3), (1, 0, 0), (1, 1, 0), (1, 2, 0), (1, 3, 0), (1, 4, 0), (1, 5, 0), (1, 6, 0), (1, 7, 0), (1, 8, 0), (1, 6, 1), (1, 7, 1), (1, 8, 1), (1, 6, 2), (1, 7, 2), (1, 8, 2), (1, 6, 3), (1, 7, 3), (1, 8, 3), (2, 0, 0), (2, 1, 0), (2, 2, 0), (2, 3, 0), (2, 4, 0), (2, 5, 0), (2, 6, 0), (2, 7, 0), (2, 8, 0), (2, 6, 1), (2, 7, 1), (2, 8, 1), (2, 6, 2), (2, 7, 2), (2, 8, 2), (2, 6, 3), (2, 7, 3), (2, 8, 3), (3, 0, 0), (3, 1, 0), (3, 2, 0), (3, 3, 0), (3, 4, 0), (3, 5, 0), (3, 6, 0), (3, 7, 0), (3, 8, 0), (3, 6, 1), (3, 7, 1), (3, 8, 1), (3, 6, 2), (3, 7, 2), (3, 8, 2), (3, 6, 3), (3, 7, 3), (3, 8, 3), (4, 0, 0), (4, 1, 0), (4, 2, 0), (4, 3, 0), (4, 4, 0), (4, 5, 0), (4, 6, 0), (4, 7, 0), (4, 8, 0), (4, 6, 1), (4, 7, 1), (4, 8, 1), (4, 6, 2), (4, 7, 2), (4, 8, 2), (4, 6, 3), (4, 7, 3), (4, 8, 3), (5, 0, 0), (5, 1, 0), (5, 2, 0), (5, 3, 0), (5, 4, 0), (5, 5, 0), (5, 6, 0), (5, 7, 0), (5, 8, 0), (5, 6, 1), (5, 7, 1), (5, 8, 1), (5, 6, 2), (5, 7, 2), (5, 8, 2), (5, 6, 3), (5, 7, 3), (5, 8, 3), (6, 9, 0), (6, 10, 0), (6, 11, 0), (7, 12, 0), (7, 13, 0), (7, 14, 0), (7, 15, 0), (7, 16, 0), (7, 17, 0), (7, 18, 0), (7, 19, 0), (7, 20, 0), (7, 21, 0), (7, 22, 0), (8, 23, 0), (8, 24, 0), (8, 25, 0), (9, 26, 0)]
set_option maxRecDepth 100000 in
theorem mm_nd : mm_keys.Nodup := by decide +kernel
theorem mm_kr : ∀ r, r < 6 → ∀ t, t < 6 → mm_keys[18 * r + t]? = some (r, t, 0) := by decide +kernel
theorem mm_kc1 : ((List.range 6).all fun r => (List.range 4).all fun n => (List.range 3).all fun t => decide (mm_keys[18 * r + (6 + 3 * n + t)]? = some (r, 6 + t, n))) = true := by decide +kernel
theorem mm_kc (r : Nat) (hr : r < 6) (n : Nat) (hn : n < 4) (t : Nat) (ht : t < 3) : mm_keys[18 * r + (6 + 3 * n + t)]? = some (r, 6 + t, n) := by
  have h := List.all_eq_true.mp mm_kc1 r (List.mem_range.mpr hr)
  have h := List.all_eq_true.mp h n (List.mem_range.mpr hn)
  have h := List.all_eq_true.mp h t (List.mem_range.mpr ht)
  exact of_decide_eq_true h
def mm_ce (ad : mm_A) (cA : Nat → ClassId) (f : Nat → Int32) (r t n : Nat) : va_E := match t with
  | 0 => .inr (8, [.ref (ad r 1 0), .ref (ad r 5 0), .int (f 2), .int (f 3), .int (f 4), .int (f 5), .int (f 6), .int (f 7)])
  | 1 => .inr (1, [.ref (ad r 2 0), .ref (ad r 3 0), .ref (ad r 4 0), .int (f 3)])
  | 2 => .inl (cA 0, 64, .inl f)
  | 3 => .inl (cA 0, 64, .inl f)
  | 4 => .inl (cA 0, 4, .inl f)
  | 5 => .inl (cA 3, 4, .inr (.inr (.inr (.inr (fun j => some (ad r 6 j))))))
  | 6 => .inr (3, [.ref (ad r 7 n), .ref (ad r 8 n), .int (f 2), .int (f 3), .int (f 4), .int (f 5), .int (f 6), .int (f 7), .int (f 8)])
  | 7 => .inl (cA 0, 5, .inl f)
  | 8 => .inl (cA 0, 5, .inl f)
  | 9 => .inr (10, [.ref (ad 0 0 0), .ref (ad 1 0 0), .ref (ad 6 10 0), .ref (ad 7 12 0), .ref (ad 7 20 0), .ref (ad 8 23 0), .ref (ad 9 26 0)])
  | 10 => .inr (4, [.ref (ad 6 11 0), .int (f 1)])
  | 11 => .inl (cA 4, 4, .inr (.inr (.inr (.inr (fun j => some (ad (f j).toNatClampNeg 0 0))))))
  | 12 => .inr (7, [.ref (ad 7 13 0), .ref (ad 7 16 0)])
  | 13 => .inr (2, [.ref (ad 7 14 0), .ref (ad 7 15 0)])
  | 14 => .inl (cA 0, 4, .inl f)
  | 15 => .inl (cA 0, 4, .inl f)
  | 16 => .inr (0, [.ref (ad 7 17 0), .ref (ad 7 18 0), .ref (ad 7 19 0)])
  | 17 => .inl (cA 1, 4, .inl f)
  | 18 => .inl (cA 0, 4, .inl f)
  | 19 => .inl (cA 1, 4, .inl f)
  | 20 => .inr (9, [.ref (ad 7 21 0), .ref (ad 7 22 0), .int (f 2)])
  | 21 => .inl (cA 0, 64, .inl f)
  | 22 => .inl (cA 0, 64, .inl f)
  | 23 => .inr (6, [.ref (ad 8 24 0), .int (f 1), .int (f 2), .ref (ad 8 25 0), .int (f 4)])
  | 24 => .inl (cA 2, 60, .inl f)
  | 25 => .inl (cA 0, 4, .inl f)
  | _ => .inr (5, [.ref (ad 8 23 0), .ref (ad 7 12 0), .int (f 2), .int (f 3), .int (f 4), .int (f 5)])
def mm_wd (ad : mm_A) (cA : Nat → ClassId) (σ : mm_M) : va_W := mm_keys.map fun k => (ad k.1 k.2.1 k.2.2, mm_ce ad cA (σ k.1 k.2.1 k.2.2) k.1 k.2.1 k.2.2)
abbrev mm_tys (cA : Nat → ClassId) : List (ClassId × FieldType) := [(cA 0, .int), (cA 1, .boolean), (cA 2, .char), (cA 3, .object RX3), (cA 4, .object RX8)]
def mm_Inj (ad : mm_A) : Prop := ∀ (i j : Nat) (p q : Nat × Nat × Nat), mm_keys[i]? = some p → mm_keys[j]? = some q → ad p.1 p.2.1 p.2.2 = ad q.1 q.2.1 q.2.2 → i = j
def mm_AS (ad : mm_A) : Nat → Prop := fun q => ∃ (i : Nat) (k : Nat × Nat × Nat), mm_keys[i]? = some k ∧ q = ad k.1 k.2.1 k.2.2
def mm_nest : List (String × Nat × MethodName × String) := [(RX10, 9, yX8_init, "LockedCarts"), (RX8, 11, yX1_init, "LockedCarts"), (RX8, 20, yX3_init, "LockedCarts"), (RX10, 21, yX4_init, "LockedCarts"), (RX4, 11, yX8_init, "LockedCarts"), (RX10, 28, yX7_init, "LockedCarts"), (RX7, 11, yX2_init, "LockedCarts"), (RX7, 20, yX0_init, "LockedCarts"), (RX10, 35, yX9_init, "LockedCarts"), (RX10, 42, yX6_init, "LockedCarts"), (RX8, 75, yX10_isCell, "LockedCarts"), (RX8, 89, yX10_isDirection, "LockedCarts"), (RX8, 79, yX10_isWithin, "LockedCarts"), (RX1, 39, yX10_turned, "LockedCarts"), (RX8, 122, yX10_isRegister, "LockedCarts"), (RX2, 54, yX10_turned, "LockedCarts"), (RX8, 151, yX10_turned, "LockedCarts"), (RX5, 56, yX10_isError, "LockedCarts")]
def mm_N (U : State) : Prop := ∀ q ∈ mm_nest, va_Nw (.methodLinkNest q.1 q.2.1 q.2.2.1 q.2.2.2) U

theorem mm_N.warm {s U : State} (hW : s.WarmedH U.vm) (h : mm_N s) : mm_N U := fun q hq => va_Nw.warmM hW (h q hq)
theorem mm_N.same {s U : State} (hv : s.vm = U.vm) (h : mm_N s) : mm_N U := fun q hq => va_Nw.same rfl hv (h q hq)
theorem mm_at {ad : mm_A} {cA : Nat → ClassId} {σ : mm_M} {p r t n : Nat} (hk : mm_keys[p]? = some (r, t, n)) : (mm_wd ad cA σ)[p]? = some (ad r t n, mm_ce ad cA (σ r t n) r t n) := by
  unfold mm_wd
  rw [List.getElem?_map, hk]
  rfl
theorem mm_inj {i j : Nat} {k : Nat × Nat × Nat} (h : mm_keys[i]? = some k) (h2 : mm_keys[j]? = some k) : i = j := by
  obtain ⟨hi, e1⟩ := List.getElem?_eq_some_iff.mp h
  obtain ⟨hj, e2⟩ := List.getElem?_eq_some_iff.mp h2
  have hn := List.pairwise_iff_getElem.mp mm_nd
  rcases Nat.lt_trichotomy i j with q | q | q
  · exact absurd (e1.trans e2.symm) (hn i j hi hj q)
  · exact q
  · exact absurd (e2.trans e1.symm) (hn j i hj hi q)
theorem mm_set {ad : mm_A} {cA : Nat → ClassId} {σ : mm_M} {p r t n : Nat} {g : Nat → Int32} (hk : mm_keys[p]? = some (r, t, n)) : (mm_wd ad cA σ).set p (ad r t n, mm_ce ad cA g r t n) = mm_wd ad cA (mm_w σ r t n g) := by
  apply List.ext_getElem?
  intro k
  by_cases hkp : k = p
  · subst hkp
    have hl : k < (mm_wd ad cA σ).length := (List.getElem?_eq_some_iff.mp (mm_at (ad := ad) (cA := cA) (σ := σ) hk)).1
    rw [List.getElem?_set_self hl, mm_at hk]
    simp [mm_w]
  · rw [List.getElem?_set_ne (Ne.symm hkp)]
    unfold mm_wd
    rw [List.getElem?_map, List.getElem?_map]
    cases hq : mm_keys[k]? with
    | none => rfl
    | some q =>
      obtain ⟨a, b, c⟩ := q
      have hne : ¬ (a = r ∧ b = t ∧ c = n) := by
        rintro ⟨rfl, rfl, rfl⟩
        exact hkp (mm_inj hq hk)
      simp only [Option.map_some, mm_w, if_neg hne]
theorem mm_D {ad : mm_A} (hI : mm_Inj ad) (cA : Nat → ClassId) (σ : mm_M) : va_D (mm_AS ad) (mm_wd ad cA σ) := by
  have key : ∀ (k : Nat) (q : Nat × va_E), (mm_wd ad cA σ)[k]? = some q → ∃ z : Nat × Nat × Nat, mm_keys[k]? = some z ∧ q.1 = ad z.1 z.2.1 z.2.2 := by
    intro k q hk
    unfold mm_wd at hk
    rw [List.getElem?_map] at hk
    cases hz : mm_keys[k]? with
    | none => rw [hz] at hk; cases hk
    | some z => rw [hz] at hk; cases hk; exact ⟨z, rfl, rfl⟩
  refine ⟨fun i j p q hi hj hpq => ?_, fun k q hk => ?_⟩
  · obtain ⟨z1, a1, b1⟩ := key i p hi
    obtain ⟨z2, a2, b2⟩ := key j q hj
    exact hI i j z1 z2 a1 a2 (b1.symm.trans (hpq.trans b2))
  · obtain ⟨z1, a1, b1⟩ := key k q hk
    exact ⟨k, z1, a1, b1⟩
def mm_pre (D : va_G) (ad : mm_A) (cA : Nat → ClassId) (vs : List Value) (σ : mm_M) : Array Value → State → Prop := va_Pc vs (fun U => va_P D vwCl (mm_wd ad cA σ) U.heap ∧ va_K D vwCl (mm_tys cA) U ∧ mm_N U)
def mm_Q (D : va_G) (ad : mm_A) (cA : Nat → ClassId) (ov : Option Value) (σ : mm_M) : Array Value → State → Outcome → State → Prop := fun _ st oc t => (oc = .returned ov ∧ va_P D vwCl (mm_wd ad cA σ) t.heap) ∧ va_F (mm_AS ad) st t
theorem mm_blind {D : va_G} {ad : mm_A} {cA : Nat → ClassId} {vs : List Value} {σ : mm_M} : FrameBlind (mm_pre D ad cA vs σ) := fun a U g mk q => by
  obtain ⟨q0, qP, qK, qN⟩ := q
  exact ⟨q0, qP, va_K.moved (u := U) (U := U.calling g mk a) (Vm.Alike.refl U.vm) qK, qN.same rfl⟩
theorem tb_goodIn {y : MethodName} {b : ByteArray} {n : Nat} {r : Option FieldType} (h : Cond.code y b n r ∈ tb) : GoodIn tb (Cond.code y b n r :: tb) := fun w hw => by
  rcases List.mem_cons.mp hw with rfl | hw
  · exact ⟨h, tb_good _ h⟩
  · exact ⟨hw, tb_good _ hw⟩
def mm_X (p : Program) (s : State) (m : MethodId) (args : Array Value) (meth : Method) (c : Code) (cc : ByteArray) (nL : Nat) (ret : Option FieldType) (own : String) (D : va_G) (ad : mm_A) (cA : Nat → ClassId) : Prop :=
  p.tables.exec = Jvm.exec ∧ c.code = cc ∧ c.maxLocals = nL ∧ meth.sig.returnType = ret ∧ meth.locks = false ∧ s.vm.findClass own = some m.cls ∧ (∀ w ∈ tb, w.before args s = true) ∧ va_K D vwCl (mm_tys cA) s ∧ mm_N s ∧ mm_Inj ad
abbrev mm_rm (f n : Nat) : Room := { frames := f, cells := 0, slots := 0, locals := n }
theorem mm_start {l : Launch} {D : va_G} {ad : mm_A} {cA : Nat → ClassId} {y : MethodName} {cc : ByteArray} {maxL : Nat} {ret : Option FieldType} {rm : Room} {vs : List Value} {ov : Option Value} {σ σ1 : mm_M} (hy : plainName y.cls = true) (hI : mm_Inj ad) (hsz : (lg_sl vs).length ≤ maxL)
    (body : ∀ p e s m args below meth c, mm_X p s m args meth c cc maxL ret y.cls D ad cA → va_P D vwCl (mm_wd ad cA σ) s.heap → ∀ ls, lv_has ls maxL (lv_args 0 vs) → W p l e rm s m args below meth c s.heap [] 0 0 (MQ below (mm_Q D ad cA ov σ1) args s 0 0 (mm_AS ad)) (F0 m 0 ls [])) :
    Met l y (Cond.code y cc maxL ret :: tb) rm (mm_pre D ad cA vs σ) (mm_Q D ad cA ov σ1) 0 0 (mm_AS ad) := by
  refine Met.ofW (cc := cc) (maxL := maxL) (ret := ret) hy rfl ?_
  intro p e s m args below meth c s₁ B hml hv
  obtain ⟨rfl, hP, hK, hN⟩ := hv
  have hl := lv_entry vs (n := maxL) hsz
  rw [lg_entry_eq]
  generalize (lg_sl vs ++ List.replicate (maxL - (lg_sl vs).length) Slot.unset).toArray = ls at hl ⊢
  exact body p e s m _ below meth c ⟨B.exec, B.bytes, hml, B.returns, B.notSynchronized, findClass_of_methodNamed B.named, fun w hw => atoms_spec (ws := Cond.code y cc maxL ret :: tb) B.pre w (List.mem_cons_of_mem _ hw), hK, hN, hI⟩ hP ls hl
theorem mm_startF {l : Launch} {D : va_G} {ad : mm_A} {cA : Nat → ClassId} {y : MethodName} {cc : ByteArray} {maxL : Nat} {ret : Option FieldType} {rm : Room} {vs : List Value} {ov : Option Value} {σ σ1 : mm_M} (hy : plainFor y = true) (hI : mm_Inj ad) (hsz : (lg_sl vs).length ≤ maxL)
    (body : ∀ p e s m args below meth c, mm_X p s m args meth c cc maxL ret y.cls D ad cA → va_P D vwCl (mm_wd ad cA σ) s.heap → ∀ ls, lv_has ls maxL (lv_args 0 vs) → W p l e rm s m args below meth c s.heap [] 0 0 (MQ below (mm_Q D ad cA ov σ1) args s 0 0 (mm_AS ad)) (F0 m 0 ls [])) :
    Met l y (Cond.code y cc maxL ret :: tb) rm (mm_pre D ad cA vs σ) (mm_Q D ad cA ov σ1) 0 0 (mm_AS ad) := by
  refine va_MetF (cc := cc) (maxL := maxL) (ret := ret) hy rfl ?_
  intro p e s m args below meth c s₁ B hml hv
  obtain ⟨rfl, hP, hK, hN⟩ := hv
  have hl := lv_entry vs (n := maxL) hsz
  rw [lg_entry_eq]
  generalize (lg_sl vs ++ List.replicate (maxL - (lg_sl vs).length) Slot.unset).toArray = ls at hl ⊢
  exact body p e s m _ below meth c ⟨B.exec, B.bytes, hml, B.returns, B.notSynchronized, findClass_of_methodNamed B.named, fun w hw => atoms_spec (ws := Cond.code y cc maxL ret :: tb) B.pre w (List.mem_cons_of_mem _ hw), hK, hN, hI⟩ hP ls hl
section MM
variable {p : Program} {l : Launch} {e : Env} {R : Room} {s : State} {m : MethodId} {args : Array Value} {below : List Frame} {meth : Method} {c : Code} {H : Heap} {locs : List Loc} {Q : State → Prop} {cc : ByteArray} {nL : Nat} {ret : Option FieldType} {own : String} {D : va_G} {ad : mm_A} {cA : Nat → ClassId} {σ : mm_M} {pc : Nat} {ls : Array Slot} {rest : List Value}
theorem mm_get (X : mm_X p s m args meth c cc nL ret own D ad cA) (hP : va_P D vwCl (mm_wd ad cA σ) H) {C : String} {T : u_T} {N ci index q0 r t n : Nat} {ref : String} {fs : List Value} (hin : ∀ w ∈ u_ws C T N, w ∈ tb) (hk : mm_keys[q0]? = some (r, t, n)) (he : mm_ce ad cA (σ r t n) r t n = .inr (ci, fs)) (hc : vwCl[ci]? = some (C, T, N)) (k : Nat) (hkN : k < N) (href : (T k).1 = ref) (hl : Cond.fieldLink own index ref (T k).2.1 (T k).2.2.1 ∈ tb) {v : Value} (hv : fs[k]? = some v) (hdg : decode cc pc = .ok (.getfield index, 3))
    (kk : W p l e R s m args below meth c H locs 0 0 Q (F0 m (pc + 3) ls (v :: rest))) : W p l e R s m args below meth c H locs 0 0 Q (F0 m pc ls (.ref (ad r t n) :: rest)) :=
  va_get X.1 X.2.1 X.2.2.2.2.2.2.1 hin X.2.2.2.2.2.1 X.2.2.2.2.2.2.2.1 hP q0 (by rw [mm_at hk, he]) hc k hkN (X.2.2.2.2.2.2.1 _ hl) (fun x h => by rw [← href]; exact h) hv hdg kk
theorem mm_put (X : mm_X p s m args meth c cc nL ret own D ad cA) (hP : va_P D vwCl (mm_wd ad cA σ) H) (hS : va_S (mm_AS ad) s.heap H locs) {C : String} {T : u_T} {N ci index q0 r t n : Nat} {ref : String} {fs : List Value} (hin : ∀ w ∈ u_ws C T N, w ∈ tb) (ty0 : Nat → FieldType) (hty : ∀ k, k < N → parseFieldDescriptor (T k).2.2.1 = some (ty0 k)) (hnm : ∀ a, a < N → ∀ b, b < N → a ≠ b → (T a).2.1 ≠ (T b).2.1) (hk : mm_keys[q0]? = some (r, t, n)) (he : mm_ce ad cA (σ r t n) r t n = .inr (ci, fs)) (hc : vwCl[ci]? = some (C, T, N)) (k : Nat) (hkN : k < N) (href : (T k).1 = ref) (hl : Cond.fieldLink own index ref (T k).2.1 (T k).2.2.1 ∈ tb) (hfin : (T k).2.2.2 = false) {ty : FieldType} {v : Int32} (hd : parseFieldDescriptor (T k).2.2.1 = some ty) (hn : narrow ty (.int v) = .int v) (hfit : fits ty (.int v) = true) (hlen : k < fs.length) (hset : mm_ce ad cA (upd (σ r t n) k v) r t n = .inr (ci, fs.set k (.int v))) (hdg : decode cc pc = .ok (.putfield index, 3))
    (kk : ∀ (H1 : Heap) (locs1 : List Loc), va_P D vwCl (mm_wd ad cA (mm_u σ r t n k v)) H1 → va_S (mm_AS ad) s.heap H1 locs1 → W p l e R s m args below meth c H1 locs1 0 0 Q (F0 m (pc + 3) ls rest)) : W p l e R s m args below meth c H locs 0 0 Q (F0 m pc ls (.int v :: .ref (ad r t n) :: rest)) :=
  va_put X.1 X.2.1 X.2.2.2.2.2.2.1 hin ty0 hty hnm X.2.2.2.2.2.1 X.2.2.2.2.2.2.2.1 hP (mm_D X.2.2.2.2.2.2.2.2.2 cA σ) hS q0 (by rw [mm_at hk, he]) hc k hkN (X.2.2.2.2.2.2.1 _ hl) (fun x h => by rw [← href]; exact h) hfin hd hn hfit hlen hdg
    (fun H1 locs1 hP1 _ hS1 => kk H1 locs1 (by rw [← hset, mm_set hk] at hP1; exact hP1) hS1)
theorem mm_ald (X : mm_X p s m args meth c cc nL ret own D ad cA) (hP : va_P D vwCl (mm_wd ad cA σ) H) {q0 r t n N : Nat} (hk : mm_keys[q0]? = some (r, t, n)) (he : mm_ce ad cA (σ r t n) r t n = .inl (cA 0, N, .inl (σ r t n))) {i : Int32} (hin : mm_ix i N = true) (hdg : decode cc pc = .ok (.iaload, 1))
    (kk : W p l e R s m args below meth c H locs 0 0 Q (F0 m (pc + 1) ls (.int (σ r t n i.toNatClampNeg) :: rest))) : W p l e R s m args below meth c H locs 0 0 Q (F0 m pc ls (.int i :: .ref (ad r t n) :: rest)) :=
  va_iald X.1 X.2.1 X.2.2.2.2.2.2.2.1 hP q0 0 (by rw [mm_at hk, he]) rfl (mm_ix_in hin) hdg kk
theorem mm_zld (X : mm_X p s m args meth c cc nL ret own D ad cA) (hP : va_P D vwCl (mm_wd ad cA σ) H) {q0 r t n N : Nat} (hk : mm_keys[q0]? = some (r, t, n)) (he : mm_ce ad cA (σ r t n) r t n = .inl (cA 1, N, .inl (σ r t n))) {i : Int32} (hin : mm_ix i N = true) (hdg : decode cc pc = .ok (.baload, 1))
    (kk : W p l e R s m args below meth c H locs 0 0 Q (F0 m (pc + 1) ls (.int (σ r t n i.toNatClampNeg) :: rest))) : W p l e R s m args below meth c H locs 0 0 Q (F0 m pc ls (.int i :: .ref (ad r t n) :: rest)) :=
  va_zald X.1 X.2.1 X.2.2.2.2.2.2.2.1 hP q0 1 (by rw [mm_at hk, he]) rfl (mm_ix_in hin) hdg kk
theorem mm_cld (X : mm_X p s m args meth c cc nL ret own D ad cA) (hP : va_P D vwCl (mm_wd ad cA σ) H) {q0 r t n N : Nat} (hk : mm_keys[q0]? = some (r, t, n)) (he : mm_ce ad cA (σ r t n) r t n = .inl (cA 2, N, .inl (σ r t n))) {i : Int32} (hin : mm_ix i N = true) (hdg : decode cc pc = .ok (.caload, 1))
    (kk : W p l e R s m args below meth c H locs 0 0 Q (F0 m (pc + 1) ls (.int (σ r t n i.toNatClampNeg) :: rest))) : W p l e R s m args below meth c H locs 0 0 Q (F0 m pc ls (.int i :: .ref (ad r t n) :: rest)) :=
  va_cald X.1 X.2.1 X.2.2.2.2.2.2.2.1 hP q0 2 (by rw [mm_at hk, he]) rfl (mm_ix_in hin) hdg kk
theorem mm_ast (X : mm_X p s m args meth c cc nL ret own D ad cA) (hP : va_P D vwCl (mm_wd ad cA σ) H) (hS : va_S (mm_AS ad) s.heap H locs) {q0 r t n N : Nat} (hk : mm_keys[q0]? = some (r, t, n)) (he : ∀ f : Nat → Int32, mm_ce ad cA f r t n = .inl (cA 0, N, .inl f)) {i x : Int32} (hin : mm_ix i N = true) (hdg : decode cc pc = .ok (.iastore, 1))
    (kk : ∀ (H1 : Heap) (locs1 : List Loc), va_P D vwCl (mm_wd ad cA (mm_u σ r t n i.toNatClampNeg x)) H1 → va_S (mm_AS ad) s.heap H1 locs1 → W p l e R s m args below meth c H1 locs1 0 0 Q (F0 m (pc + 1) ls rest)) : W p l e R s m args below meth c H locs 0 0 Q (F0 m pc ls (.int x :: .int i :: .ref (ad r t n) :: rest)) :=
  va_iast X.1 X.2.1 X.2.2.2.2.2.2.2.1 hP (mm_D X.2.2.2.2.2.2.2.2.2 cA σ) hS q0 0 (by rw [mm_at hk, he]) rfl (mm_ix_in hin) hdg
    (fun H1 locs1 hP1 _ hS1 => kk H1 locs1 (by rw [← he, mm_set hk] at hP1; exact hP1) hS1)
theorem mm_bool {x : Int32} (h : x = 0 ∨ x = 1) : narrow .boolean (.int x) = .int x ∧ fits .boolean (.int x) = true ∧ vp_nar .boolean x = x := by
  rcases h with rfl | rfl
  · exact ⟨by decide +kernel, by decide +kernel, by decide +kernel⟩
  · exact ⟨by decide +kernel, by decide +kernel, by decide +kernel⟩
theorem mm_zst (X : mm_X p s m args meth c cc nL ret own D ad cA) (hP : va_P D vwCl (mm_wd ad cA σ) H) (hS : va_S (mm_AS ad) s.heap H locs) {q0 r t n N : Nat} (hk : mm_keys[q0]? = some (r, t, n)) (he : ∀ f : Nat → Int32, mm_ce ad cA f r t n = .inl (cA 1, N, .inl f)) {i x : Int32} (hin : mm_ix i N = true) (hx : x = 0 ∨ x = 1) (hdg : decode cc pc = .ok (.bastore, 1))
    (kk : ∀ (H1 : Heap) (locs1 : List Loc), va_P D vwCl (mm_wd ad cA (mm_u σ r t n i.toNatClampNeg x)) H1 → va_S (mm_AS ad) s.heap H1 locs1 → W p l e R s m args below meth c H1 locs1 0 0 Q (F0 m (pc + 1) ls rest)) : W p l e R s m args below meth c H locs 0 0 Q (F0 m pc ls (.int x :: .int i :: .ref (ad r t n) :: rest)) :=
  va_zast X.1 X.2.1 X.2.2.2.2.2.2.2.1 hP (mm_D X.2.2.2.2.2.2.2.2.2 cA σ) hS q0 1 (by rw [mm_at hk, he]) rfl (mm_ix_in hin) hdg
    (fun H1 locs1 hP1 _ hS1 => kk H1 locs1 (by rw [(mm_bool hx).2.2, ← he, mm_set hk] at hP1; exact hP1) hS1)
theorem mm_char {x : Int32} (h : 0 ≤ x ∧ x < 65536) : narrow .char (.int x) = .int x ∧ fits .char (.int x) = true ∧ vp_nar .char x = x := by
  have h5 : x ≤ 65535 := by
    have q := h.2
    rw [Int32.lt_iff_toInt_lt] at q
    rw [Int32.le_iff_toInt_le]
    have e1 : (65536 : Int32).toInt = 65536 := by decide
    have e2 : (65535 : Int32).toInt = 65535 := by decide
    omega
  obtain ⟨j, h1, h2⟩ := nI_of2 (x := x) (M := 65535) (n := 65535) (by decide) (Int32.not_lt.mpr h.1) h5
  subst h2
  have h3 := pk_charN (q := j) (by omega)
  refine ⟨h3.1, h3.2, ?_⟩
  unfold vp_nar
  rw [h3.1]
theorem mm_cst (X : mm_X p s m args meth c cc nL ret own D ad cA) (hP : va_P D vwCl (mm_wd ad cA σ) H) (hS : va_S (mm_AS ad) s.heap H locs) {q0 r t n N : Nat} (hk : mm_keys[q0]? = some (r, t, n)) (he : ∀ f : Nat → Int32, mm_ce ad cA f r t n = .inl (cA 2, N, .inl f)) {i x : Int32} (hin : mm_ix i N = true) (hx : 0 ≤ x ∧ x < 65536) (hdg : decode cc pc = .ok (.castore, 1))
    (kk : ∀ (H1 : Heap) (locs1 : List Loc), va_P D vwCl (mm_wd ad cA (mm_u σ r t n i.toNatClampNeg x)) H1 → va_S (mm_AS ad) s.heap H1 locs1 → W p l e R s m args below meth c H1 locs1 0 0 Q (F0 m (pc + 1) ls rest)) : W p l e R s m args below meth c H locs 0 0 Q (F0 m pc ls (.int x :: .int i :: .ref (ad r t n) :: rest)) :=
  va_cast X.1 X.2.1 X.2.2.2.2.2.2.2.1 hP (mm_D X.2.2.2.2.2.2.2.2.2 cA σ) hS q0 2 (by rw [mm_at hk, he]) rfl (mm_ix_in hin) hdg
    (fun H1 locs1 hP1 _ hS1 => kk H1 locs1 (by rw [(mm_char hx).2.2, ← he, mm_set hk] at hP1; exact hP1) hS1)
/-- carts[i] -/
theorem mm_cart (X : mm_X p s m args meth c cc nL ret own D ad cA) (hP : va_P D vwCl (mm_wd ad cA σ) H) {r : Nat} (hr : r < 6) {i : Int32} (hin : mm_ix i 4 = true) (hdg : decode cc pc = .ok (.aaload, 1))
    (kk : W p l e R s m args below meth c H locs 0 0 Q (F0 m (pc + 1) ls (.ref (ad r 6 i.toNatClampNeg) :: rest))) : W p l e R s m args below meth c H locs 0 0 Q (F0 m pc ls (.int i :: .ref (ad r 5 0) :: rest)) :=
  va_aldq (f := fun j => some (ad r 6 j)) X.1 X.2.1 X.2.2.2.2.2.2.2.1 hP (18 * r + 5) 3 (mm_at (mm_kr r hr 5 (by decide))) rfl (mm_ix_in hin) hdg kk
/-- states[i] -/
theorem mm_state (X : mm_X p s m args meth c cc nL ret own D ad cA) (hP : va_P D vwCl (mm_wd ad cA σ) H) {i : Int32} (hin : mm_ix i 4 = true) (hdg : decode cc pc = .ok (.aaload, 1))
    (kk : W p l e R s m args below meth c H locs 0 0 Q (F0 m (pc + 1) ls (.ref (ad (σ 6 11 0 i.toNatClampNeg).toNatClampNeg 0 0) :: rest))) : W p l e R s m args below meth c H locs 0 0 Q (F0 m pc ls (.int i :: .ref (ad 6 11 0) :: rest)) :=
  va_aldq (f := fun j => some (ad (σ 6 11 0 j).toNatClampNeg 0 0)) X.1 X.2.1 X.2.2.2.2.2.2.2.1 hP 110 4 (mm_at (by decide +kernel)) rfl (mm_ix_in hin) hdg kk
theorem mm_stateS (X : mm_X p s m args meth c cc nL ret own D ad cA) (hP : va_P D vwCl (mm_wd ad cA σ) H) (hS : va_S (mm_AS ad) s.heap H locs) {r : Nat} (hr : r < 6) {i : Int32} (hin : mm_ix i 4 = true) (hdg : decode cc pc = .ok (.aastore, 1))
    (kk : ∀ (H1 : Heap) (locs1 : List Loc), va_P D vwCl (mm_wd ad cA (mm_u σ 6 11 0 i.toNatClampNeg (nI r))) H1 → va_S (mm_AS ad) s.heap H1 locs1 → W p l e R s m args below meth c H1 locs1 0 0 Q (F0 m (pc + 1) ls rest)) : W p l e R s m args below meth c H locs 0 0 Q (F0 m pc ls (.ref (ad r 0 0) :: .int i :: .ref (ad 6 11 0) :: rest)) := by
  refine va_astq (f := fun j => some (ad (σ 6 11 0 j).toNatClampNeg 0 0)) (r := (RX8, TX8, 8)) X.1 X.2.1 X.2.2.2.2.2.2.2.1 hP (mm_D X.2.2.2.2.2.2.2.2.2 cA σ) hS 110 4 (18 * r + 0) 8 (mm_at (by decide +kernel)) rfl (mm_at (mm_kr r hr 0 (by decide))) rfl (mm_ix_in hin) hdg (fun H1 locs1 hP1 _ hS1 => kk H1 locs1 ?_ hS1)
  have e : (va_up (fun j => some (ad (σ 6 11 0 j).toNatClampNeg 0 0)) i.toNatClampNeg (some (ad r 0 0)) : Nat → Option Nat) = fun j => some (ad ((upd (σ 6 11 0) i.toNatClampNeg (nI r)) j).toNatClampNeg 0 0) := by
    funext j
    by_cases hj : j = i.toNatClampNeg
    · subst hj
      simp [va_up, upd, nI_clamp (n := r) (by omega)]
    · simp [va_up, upd, hj]
  rw [e] at hP1
  have h2 := mm_set (ad := ad) (cA := cA) (σ := σ) (g := upd (σ 6 11 0) i.toNatClampNeg (nI r)) (p := 110) (r := 6) (t := 11) (n := 0) (by decide +kernel)
  exact h2 ▸ hP1
theorem mm_copy (X : mm_X p s m args meth c cc nL ret own D ad cA) (hP : va_P D vwCl (mm_wd ad cA σ) H) (hS : va_S (mm_AS ad) s.heap H locs) (hz : ls.size = nL) {q0 r0 t0 n0 N0 q1 r1 t1 n1 N1 index : Nat} (hk0 : mm_keys[q0]? = some (r0, t0, n0)) (he0 : mm_ce ad cA (σ r0 t0 n0) r0 t0 n0 = .inl (cA 0, N0, .inl (σ r0 t0 n0))) (hk1 : mm_keys[q1]? = some (r1, t1, n1)) (he1 : ∀ f : Nat → Int32, mm_ce ad cA f r1 t1 n1 = .inl (cA 0, N1, .inl f)) (hlk : Cond.methodLink own index arraycopyName ∈ tb) {sp dp k : Int32}
    (h1 : ¬ sp < 0) (h2 : ¬ dp < 0) (h3 : ¬ k < 0) (h4 : sp.toNatClampNeg + k.toNatClampNeg ≤ N0) (h5 : dp.toNatClampNeg + k.toNatClampNeg ≤ N1) (hfr : 1 ≤ R.frames) (hlo : (rest.map fun v => v.category).sum + (nativeFrameWords "java/lang/System" "arraycopy" 5 + 11) ≤ R.locals) (hdg : decode cc pc = .ok (.invokestatic index, 3))
    (kk : ∀ (H1 : Heap) (locs1 : List Loc), va_P D vwCl (mm_wd ad cA (mm_w σ r1 t1 n1 (va_cpy (σ r0 t0 n0) (σ r1 t1 n1) sp.toNatClampNeg dp.toNatClampNeg k.toNatClampNeg))) H1 → va_S (mm_AS ad) s.heap H1 locs1 → W p l e R s m args below meth c H1 locs1 0 0 Q (F0 m (pc + 3) ls rest)) : W p l e R s m args below meth c H locs 0 0 Q (F0 m pc ls (.int k :: .int dp :: .ref (ad r1 t1 n1) :: .int sp :: .ref (ad r0 t0 n0) :: rest)) :=
  va_copyi X.1 X.2.1 (X.2.2.1.trans hz.symm) X.2.2.2.2.2.1 (X.2.2.2.2.2.2.1 _ hlk) (X.2.2.2.2.2.2.1 _ wd_338) (X.2.2.2.2.2.2.1 _ wd_337) (X.2.2.2.2.2.2.1 _ wd_13) X.2.2.2.2.2.2.2.1 hP (mm_D X.2.2.2.2.2.2.2.2.2 cA σ) hS q0 q1 0 0 (by rw [mm_at hk0, he0]) (by rw [mm_at hk1, he1]) rfl rfl rfl h1 h2 h3 h4 h5 (fun _ _ => rfl) hfr hlo hdg
    (fun H1 locs1 hP1 _ hS1 => kk H1 locs1 (by rw [← he1, mm_set hk1] at hP1; exact hP1) hS1)
theorem mm_after {pc : Nat} {st0 : List Value} {a : Array Value} {ov : Option Value} {σ1 : mm_M} (hr : va_Run p l e R s m args below meth c H locs 0 0 0 0 (F0 m pc ls st0) rest (mm_Q D ad cA ov σ1 a) (mm_AS ad)) (hS : va_S (mm_AS ad) s.heap H locs)
    (kk : ∀ (H1 : Heap) (locs1 : List Loc), va_P D vwCl (mm_wd ad cA σ1) H1 → va_S (mm_AS ad) s.heap H1 locs1 → W p l e R s m args below meth c H1 locs1 0 0 Q (F0 m (pc + 3) ls (ov.toList ++ rest))) : W p l e R s m args below meth c H locs 0 0 Q (F0 m pc ls st0) := by
  intro T hT X
  obtain ⟨v, st₀, t, T', L, h0, X', hL, e1, e2, ⟨⟨hv, hp⟩, hz, hk⟩, st⟩ := hr T hT X
  cases hv
  rw [h0] at hz hk
  obtain ⟨t2, a1, b1⟩ := kk T'.heap (locs ++ L) (by rw [e1]; exact hp) ⟨Nat.le_trans hS.1 (by rw [e1]; exact hz), fun q h1 h2 => by rw [e1, hk q (Nat.lt_of_lt_of_le h1 hS.1) h2]; exact hS.2.1 q h1 h2, fun q hq => by
      rcases List.mem_append.mp hq with h | h
      · exact hS.2.2 q h
      · exact hL q h⟩ T' rfl X'
  exact ⟨t2, st t2 a1, b1⟩
theorem mm_prePay {vs : List Value} (X : mm_X p s m args meth c cc nL ret own D ad cA) (hP : va_P D vwCl (mm_wd ad cA σ) H) : ∀ U : State, U.heap = H → s.WarmedH U.vm → mm_pre D ad cA vs σ vs.toArray U := fun U hU hW => ⟨rfl, by rw [hU]; exact hP, va_K.moved hW.alike X.2.2.2.2.2.2.2.1, X.2.2.2.2.2.2.2.2.1.warm hW⟩
theorem mm_callV (X : mm_X p s m args meth c cc nL ret own D ad cA) (hP : va_P D vwCl (mm_wd ad cA σ) H) (hS : va_S (mm_AS ad) s.heap H locs) (hz : ls.size = nL) {y : MethodName} {bytes : ByteArray} {maxL index fr lo : Nat} {ret1 : Option FieldType} {q0 r t n ci : Nat} {q : vw_C} {fs : List Value} (As : List Value) (rest : List Value) {ov : Option Value} {σ1 : mm_M}
    (hM : Met l y (Cond.code y bytes maxL ret1 :: tb) (mm_rm fr lo) (mm_pre D ad cA (.ref (ad r t n) :: As) σ) (mm_Q D ad cA ov σ1) 0 0 (mm_AS ad)) (hk : mm_keys[q0]? = some (r, t, n)) (he : mm_ce ad cA (σ r t n) r t n = .inr (ci, fs)) (hc : vwCl[ci]? = some q)
    (w1 : Cond.methodLink own index y ∈ tb) (w2 : Cond.instanceMethod y ∈ tb) (w3 : Cond.selects q.1 y y ∈ tb) (w4 : Cond.initialized q.1 ∈ tb) (w5 : Cond.code y bytes maxL ret1 ∈ tb)
    (hd : y.cls = q.1 ∧ y.cls ≠ "java/lang/invoke/MethodHandle" ∧ y.cls ≠ "java/lang/invoke/VarHandle" ∧ (parseMethodDescriptor y.desc).map (fun d => d.parameters.length) = some As.length) (hR : fr + 1 ≤ R.frames ∧ 8 + (maxL + 11) + lo ≤ R.locals) {st0 : List Value} (hst : st0 = As.reverse ++ .ref (ad r t n) :: rest) (hW : (rest.map fun v => v.category).sum ≤ 8) (hdg : decode cc pc = .ok (.invokevirtual index, 3))
    (kk : ∀ (H1 : Heap) (locs1 : List Loc), va_P D vwCl (mm_wd ad cA σ1) H1 → va_S (mm_AS ad) s.heap H1 locs1 → W p l e R s m args below meth c H1 locs1 0 0 Q (F0 m (pc + 3) ls (ov.toList ++ rest))) : W p l e R s m args below meth c H locs 0 0 Q (F0 m pc ls st0) := by
  have hts := X.2.2.2.2.2.2.1
  refine mm_after (va_runV (As := As) (rest := rest) ⟨X.1, X.2.1, X.2.2.1, X.2.2.2.2.2.1, hts⟩ hM (cwV As.length hts (C := q.1) (fun w hw => ?_) rfl rfl rfl hd ⟨hR.1, hR.2⟩) ⟨mm_blind, va_recv X.2.2.2.2.2.2.2.1 hP hc (by rw [mm_at hk, he]), mm_prePay X hP⟩ rfl rfl hz hst (lv_room hW) hdg ⟨Nat.zero_le _, Nat.zero_le _⟩) hS kk
  simp only [wsV, List.cons_append, List.nil_append, List.mem_cons] at hw
  rcases hw with rfl | rfl | rfl | rfl | rfl | hw
  · exact ⟨w1, tb_good _ w1⟩
  · exact ⟨w2, tb_good _ w2⟩
  · exact ⟨w3, tb_good _ w3⟩
  · exact ⟨w4, tb_good _ w4⟩
  · exact ⟨w5, tb_good _ w5⟩
  · exact ⟨hw, tb_good _ hw⟩
theorem mm_callS (X : mm_X p s m args meth c cc nL ret own D ad cA) (hP : va_P D vwCl (mm_wd ad cA σ) H) (hS : va_S (mm_AS ad) s.heap H locs) (hz : ls.size = nL) {y : MethodName} {bytes : ByteArray} {maxL index fr lo : Nat} {ret1 : Option FieldType} (As : List Value) (rest : List Value) {ov : Option Value} {σ1 : mm_M}
    (hM : Met l y (Cond.code y bytes maxL ret1 :: tb) (mm_rm fr lo) (mm_pre D ad cA As σ) (mm_Q D ad cA ov σ1) 0 0 (mm_AS ad))
    (w1 : Cond.methodLink own index y ∈ tb) (w2 : Cond.static y ∈ tb) (w4 : Cond.initialized y.cls ∈ tb) (w5 : Cond.code y bytes maxL ret1 ∈ tb)
    (hd : y.cls ≠ "java/lang/invoke/MethodHandle" ∧ y.cls ≠ "java/lang/invoke/VarHandle" ∧ (parseMethodDescriptor y.desc).map (fun d => d.parameters.length) = some As.length) (hR : fr + 1 ≤ R.frames ∧ 8 + (maxL + 11) + lo ≤ R.locals) {st0 : List Value} (hst : st0 = As.reverse ++ rest) (hW : (rest.map fun v => v.category).sum ≤ 8) (hdg : decode cc pc = .ok (.invokestatic index, 3))
    (kk : ∀ (H1 : Heap) (locs1 : List Loc), va_P D vwCl (mm_wd ad cA σ1) H1 → va_S (mm_AS ad) s.heap H1 locs1 → W p l e R s m args below meth c H1 locs1 0 0 Q (F0 m (pc + 3) ls (ov.toList ++ rest))) : W p l e R s m args below meth c H locs 0 0 Q (F0 m pc ls st0) := by
  have hts := X.2.2.2.2.2.2.1
  exact mm_after (va_runS (As := As) (rest := rest) ⟨X.1, X.2.1, X.2.2.1, X.2.2.2.2.2.1, hts⟩ hM ⟨callB_of As.length hts (tb_goodIn w5) rfl rfl rfl (hts _ w4) (hts _ w1) hd ⟨hR.1, hR.2⟩, hts _ w2⟩ ⟨mm_blind, mm_prePay X hP⟩ rfl rfl hz hst (lv_room hW) hdg ⟨Nat.zero_le _, Nat.zero_le _⟩) hS kk
theorem mm_callN (X : mm_X p s m args meth c cc nL ret own D ad cA) (hP : va_P D vwCl (mm_wd ad cA σ) H) (hS : va_S (mm_AS ad) s.heap H locs) (hz : ls.size = nL) {y : MethodName} {bytes : ByteArray} {maxL index fr lo : Nat} {ret1 : Option FieldType} {host : String} (As : List Value) (rest : List Value) {ov : Option Value} {σ1 : mm_M}
    (hM : Met l y (Cond.code y bytes maxL ret1 :: tb) (mm_rm fr lo) (mm_pre D ad cA As σ) (mm_Q D ad cA ov σ1) 0 0 (mm_AS ad))
    (w1 : (own, index, y, host) ∈ mm_nest) (w2 : Cond.static y ∈ tb) (w4 : Cond.initialized y.cls ∈ tb) (w5 : Cond.code y bytes maxL ret1 ∈ tb)
    (hd : y.cls ≠ "java/lang/invoke/MethodHandle" ∧ y.cls ≠ "java/lang/invoke/VarHandle" ∧ (parseMethodDescriptor y.desc).map (fun d => d.parameters.length) = some As.length) (hR : fr + 1 ≤ R.frames ∧ 8 + (maxL + 11) + lo ≤ R.locals) {st0 : List Value} (hst : st0 = As.reverse ++ rest) (hW : (rest.map fun v => v.category).sum ≤ 8) (hdg : decode cc pc = .ok (.invokestatic index, 3))
    (kk : ∀ (H1 : Heap) (locs1 : List Loc), va_P D vwCl (mm_wd ad cA σ1) H1 → va_S (mm_AS ad) s.heap H1 locs1 → W p l e R s m args below meth c H1 locs1 0 0 Q (F0 m (pc + 3) ls (ov.toList ++ rest))) : W p l e R s m args below meth c H locs 0 0 Q (F0 m pc ls st0) := by
  have hts := X.2.2.2.2.2.2.1
  exact mm_after (va_runSN (As := As) (rest := rest) ⟨X.1, X.2.1, X.2.2.1, X.2.2.2.2.2.1, hts⟩ hM ⟨va_cnB As.length hts (tb_goodIn w5) rfl rfl rfl (X.2.2.2.2.2.2.2.2.1 _ w1) (hts _ w4) hd ⟨hR.1, hR.2⟩, hts _ w2, trivial⟩ ⟨mm_blind, mm_prePay X hP⟩ rfl rfl hz hst (lv_room hW) hdg ⟨Nat.zero_le _, Nat.zero_le _⟩) hS kk
theorem mm_iret {v : Int32} (X : mm_X p s m args meth c cc nL (some .int) own D ad cA) (hP : va_P D vwCl (mm_wd ad cA σ) H) (hS : va_S (mm_AS ad) s.heap H locs) (hdg : decode cc pc = .ok (.ireturn, 1)) : W p l e R s m args below meth c H locs 0 0 (MQ below (mm_Q D ad cA (some (.int v)) σ) args s 0 0 (mm_AS ad)) (F0 m pc ls [.int v]) :=
  W.iret X.1 X.2.1 X.2.2.2.1 (fun t ht _ => ⟨⟨rfl, by rw [ht]; exact hP⟩, hS.F ht⟩) hS.2.2 hdg X.2.2.2.2.1
theorem mm_zret {v : Int32} (hv : v = 0 ∨ v = 1) (X : mm_X p s m args meth c cc nL (some .boolean) own D ad cA) (hP : va_P D vwCl (mm_wd ad cA σ) H) (hS : va_S (mm_AS ad) s.heap H locs) (hdg : decode cc pc = .ok (.ireturn, 1)) : W p l e R s m args below meth c H locs 0 0 (MQ below (mm_Q D ad cA (some (.int v)) σ) args s 0 0 (mm_AS ad)) (F0 m pc ls [.int v]) :=
  W.zret X.1 X.2.1 X.2.2.2.1 (mm_bool hv).1 (fun t ht _ => ⟨⟨rfl, by rw [ht]; exact hP⟩, hS.F ht⟩) hS.2.2 hdg X.2.2.2.2.1
theorem mm_vret (X : mm_X p s m args meth c cc nL none own D ad cA) (hP : va_P D vwCl (mm_wd ad cA σ) H) (hS : va_S (mm_AS ad) s.heap H locs) (hdg : decode cc pc = .ok (.return_, 1)) : W p l e R s m args below meth c H locs 0 0 (MQ below (mm_Q D ad cA none σ) args s 0 0 (mm_AS ad)) (F0 m pc ls []) :=
  W.vret X.1 X.2.1 X.2.2.2.1 (fun t ht _ => ⟨⟨rfl, by rw [ht]; exact hP⟩, hS.F ht⟩) hS.2.2 hdg X.2.2.2.2.1
theorem mm_aret {a : Nat} {rt : String} (X : mm_X p s m args meth c cc nL (some (.object rt)) own D ad cA) (hP : va_P D vwCl (mm_wd ad cA σ) H) (hS : va_S (mm_AS ad) s.heap H locs) (hdg : decode cc pc = .ok (.areturn, 1)) : W p l e R s m args below meth c H locs 0 0 (MQ below (mm_Q D ad cA (some (.ref a)) σ) args s 0 0 (mm_AS ad)) (F0 m pc ls [.ref a]) :=
  W.aret X.1 X.2.1 X.2.2.2.1 (Or.inl ⟨_, rfl⟩) (Or.inr ⟨_, rfl⟩) (fun t ht _ => ⟨⟨rfl, by rw [ht]; exact hP⟩, hS.F ht⟩) hS.2.2 hdg X.2.2.2.2.1
theorem mm_tabIn {dflt lo hi : Int} {offs : Array Int} {len : Nat} {x : Int32} {off : Int} {tgt : Nat} (X : mm_X p s m args meth c cc nL ret own D ad cA) (k : Int32) (hx : x = k) (hdg : decode cc pc = .ok (.tableswitch dflt lo hi offs, len)) (h : (decide (lo ≤ k.toInt) && decide (k.toInt ≤ hi)) = true) (ho : offs[(k.toInt - lo).toNat]? = some off) (ht : (pc : Int) + off = (tgt : Int))
    (kk : W p l e R s m args below meth c H locs 0 0 Q (F0 m tgt ls rest)) : W p l e R s m args below meth c H locs 0 0 Q (F0 m pc ls (.int x :: rest)) := by
  subst hx
  simp only [Bool.and_eq_true, decide_eq_true_eq] at h
  exact lv_tableIn X.1 X.2.1 hdg (Int.not_lt.mpr h.1) (Int.not_lt.mpr h.2) ho ht kk
end MM

