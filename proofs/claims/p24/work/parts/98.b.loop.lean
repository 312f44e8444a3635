theorem hd_L_acts : yL_acts.cls ≠ "java/lang/invoke/MethodHandle" ∧ yL_acts.cls ≠ "java/lang/invoke/VarHandle" ∧ (parseMethodDescriptor yL_acts.desc).map (fun d => d.parameters.length) = some 3 := by decide +kernel
theorem hd_L_digest : yL_digest.cls ≠ "java/lang/invoke/MethodHandle" ∧ yL_digest.cls ≠ "java/lang/invoke/VarHandle" ∧ (parseMethodDescriptor yL_digest.desc).map (fun d => d.parameters.length) = some 1 := by decide +kernel
theorem hd_L_holds : yL_holds.cls ≠ "java/lang/invoke/MethodHandle" ∧ yL_holds.cls ≠ "java/lang/invoke/VarHandle" ∧ (parseMethodDescriptor yL_holds.desc).map (fun d => d.parameters.length) = some 1 := by decide +kernel
theorem hd_X10_undo : yX10_undo.cls = RX10 ∧ yX10_undo.cls ≠ "java/lang/invoke/MethodHandle" ∧ yX10_undo.cls ≠ "java/lang/invoke/VarHandle" ∧ (parseMethodDescriptor yX10_undo.desc).map (fun d => d.parameters.length) = some 0 := by decide +kernel
theorem ml_inL {k : Int32} {L : Nat} (h0 : ¬ k < 0) (h : k < Int32.ofNat L) (hL : L ≤ 260) : vp_in k L := by
  obtain ⟨j, hj, rfl⟩ := nI_of h0
  have h1 : nI j < nI L := h
  exact vp_in_nI ((nI_ltI hj (by omega)).mp h1) (by omega)
theorem hd_L_lot : yL_lot.cls ≠ "java/lang/invoke/MethodHandle" ∧ yL_lot.cls ≠ "java/lang/invoke/VarHandle" ∧ (parseMethodDescriptor yL_lot.desc).map (fun d => d.parameters.length) = some 2 := by decide +kernel
/-! lot: a number of the script, or one made of its place -/
def ml_lo (xs : Nat → Int32) (L : Nat) (k : Int32) : Int32 := if k < Int32.ofNat L then xs k.toNatClampNeg else (-488643221 : Int32) * (k + 3187) + 2927
def ml_lpre (b L : Nat) (xs : Nat → Int32) (k : Int32) : Array Value → State → Prop := va_Pc [.ref b, .int k] (fun U => va_X b L xs U U.heap ∧ b < U.heap.size)
def ml_lQ (v : Int32) : Array Value → State → Outcome → State → Prop := fun _ st oc t => oc = .returned (some (.int v)) ∧ va_F (fun _ => False) st t
theorem ml_lblind {b L : Nat} {xs : Nat → Int32} {k : Int32} : FrameBlind (ml_lpre b L xs k) := fun a U g mk q => by
  obtain ⟨q0, qX, qb⟩ := q
  exact ⟨q0, va_X.moved (u := U) (U := U.calling g mk a) (Vm.Alike.refl U.vm) qX, qb⟩
set_option maxHeartbeats 4000000 in
theorem cx_lot (l : Launch) {b L : Nat} (xs : Nat → Int32) {k : Int32} (hk : ¬ k < 0) (hL : L ≤ 260) : Met l yL_lot (Cond.code yL_lot cL_lot 2 (some .int) :: tb) (mm_rm 0 0) (ml_lpre b L xs k) (ml_lQ (ml_lo xs L k)) 0 0 (fun _ => False) := by
  refine Met.ofW (cc := cL_lot) (maxL := 2) (ret := some .int) (by decide +kernel) rfl ?_
  intro p e s m args below meth c s₁ B hml hv
  obtain ⟨rfl, hX, hbl⟩ := hv
  have hl := lv_entry [.ref b, .int k] (n := 2) (Nat.le_of_ble_eq_true rfl)
  rw [lg_entry_eq]
  generalize (lg_sl [.ref b, .int k] ++ List.replicate (2 - (lg_sl [.ref b, .int k]).length) Slot.unset).toArray = ls at hl ⊢
  have hl : lv_has ls 2 [(0, .ref b), (1, .int k)] := hl
  have hx := B.exec
  have hb : c.code = cL_lot := B.bytes
  have hown : s.vm.findClass RL = some m.cls := findClass_of_methodNamed B.named
  have hts : ∀ w ∈ tb, w.before _ s = true := fun w hw => atoms_spec (ws := Cond.code yL_lot cL_lot 2 (some .int) :: tb) B.pre w (List.mem_cons_of_mem _ hw)
  have hS : va_S (fun _ => False) s.heap s.heap [] := va_S.rf
  have hend : ∀ (v : Int32) (hv : v = ml_lo xs L k), W p l e (mm_rm 0 0) s m #[Value.ref b, Value.int k] below meth c s.heap [] 0 0 (MQ below (ml_lQ (ml_lo xs L k)) #[Value.ref b, Value.int k] s 0 0 (fun _ => False)) (F0 m 24 ls [.int v]) := fun v hv => by
    subst hv
    exact W.iret hx hb B.returns (fun t ht _ => ⟨rfl, hS.F ht⟩) hS.2.2 dL_lot_24 B.notSynchronized
  refine lv_iload_n hx hb dL_lot_0 rfl (lv_at hl 1 rfl) ?_
  refine lv_aload_n hx hb dL_lot_1 rfl (lv_at hl 0 rfl) ?_
  refine va_slen hx hb hX hbl (fun z => z) hS dL_lot_2 ?_
  refine lv_icmp_ge (tgt := 12) hx hb dL_lot_3 (by decide) (fun c_1 => ?_) (fun c_1 => ?_)
  · refine lv_ldc (v := (-488643221 : Int32)) hx hb hown (hts _ wd_347) dL_lot_12 ?_
    refine lv_iload_n hx hb dL_lot_14 rfl (lv_at hl 1 rfl) ?_
    refine lv_sipush (v := (3187 : Int32)) hx hb dL_lot_15 (by decide) ?_
    refine lv_iadd hx hb dL_lot_18 ?_
    refine lv_imul hx hb dL_lot_19 ?_
    refine lv_sipush (v := (2927 : Int32)) hx hb dL_lot_20 (by decide) ?_
    refine lv_iadd hx hb dL_lot_23 ?_
    exact hend _ (by unfold ml_lo; rw [if_neg (Int32.not_lt.mpr c_1)])
  · have c2 : k < Int32.ofNat L := Int32.not_le.mp c_1
    refine lv_aload_n hx hb dL_lot_6 rfl (lv_at hl 0 rfl) ?_
    refine lv_iload_n hx hb dL_lot_7 rfl (lv_at hl 1 rfl) ?_
    refine va_sld hx hb hX hbl (fun z => z) hS (ml_inL hk c2 hL) dL_lot_8 ?_
    refine lv_goto (tgt := 24) hx hb dL_lot_9 (by decide) ?_
    exact hend _ (by unfold ml_lo; rw [if_pos c2])
theorem ml_lot {p : Program} {l : Launch} {e : Env} {s : State} {m : MethodId} {below : List Frame} {meth : Method} {c : Code} {b L : Nat} {xs : Nat → Int32} {D : va_G} {ad : mm_A} {cA : Nat → ClassId} {σ : mm_M} {H : Heap} {locs : List Loc} {cells slots pc : Nat} {Q : State → Prop} {ls : Array Slot} {lo : Int32 → Int32} {k : Int32} (C0 : lw_At p s m meth c b L xs) (hL : L ≤ 260) (X : mm_X p s m #[Value.ref b] meth c cL_law 11 ret RL D ad cA) (hP : va_P D vwCl (mm_wd ad cA σ) H) (hS : va_S (fun q : Nat => s.heap.size ≤ q) s.heap H locs) (hz : ls.size = 11) (rest : List Value) (hk : ¬ k < 0) (hlo : lo = ml_lo xs L) (hdg : decode cL_law pc = .ok (.invokestatic 104, 3)) (hW : (rest.map fun v => v.category).sum ≤ 8) (hf : cells ≤ room_1.cells ∧ slots ≤ room_1.slots)
    (kk : ∀ (H1 : Heap) (locs1 : List Loc), va_P D vwCl (mm_wd ad cA σ) H1 → va_S (fun q : Nat => s.heap.size ≤ q) s.heap H1 locs1 → W p l e room_1 s m #[Value.ref b] below meth c H1 locs1 cells slots Q (F0 m (pc + 3) ls (.int (lo k) :: rest))) : W p l e room_1 s m #[Value.ref b] below meth c H locs cells slots Q (F0 m pc ls (.int k :: .ref b :: rest)) := by
  subst hlo
  obtain ⟨hx, hb, hr, hml, hown, htsl, hX, hbl, hlocks, hgv⟩ := C0
  have hts := X.2.2.2.2.2.2.1
  have hr2 := va_runS (meth := meth) (g := F0 m pc ls (.int k :: .ref b :: rest)) (As := [.ref b, .int k]) (rest := rest) (locs := locs) (cells := cells) (slots := slots) (below := below) (e := e) (R := room_1) (H := H) ⟨X.1, X.2.1, X.2.2.1, X.2.2.2.2.2.1, hts⟩ (cx_lot l xs (b := b) hk hL) ⟨callB_of 2 hts (tb_goodIn wd_346) rfl rfl rfl (hts _ wd_0) (hts _ wd_344) hd_L_lot ⟨Nat.le_of_ble_eq_true rfl, Nat.le_of_ble_eq_true rfl⟩, hts _ wd_345⟩ ⟨ml_lblind, fun U hU hWm => ⟨rfl, by rw [hU]; exact (hX.moved hWm.alike).kept (hS.2.1 b hbl (Nat.not_le.mpr hbl)), by rw [hU]; exact Nat.lt_of_lt_of_le hbl hS.1⟩⟩ rfl rfl hz rfl (lv_room hW) hdg hf
  intro T hT X2
  obtain ⟨v, st₀, t, T', Lc, h0, X', hLc, e1, e2, ⟨hv, hz2, hk2⟩, st⟩ := hr2 T hT X2
  cases hv
  rw [h0] at hz2 hk2
  have hkeep : ∀ q, q < H.size → T'.heap[q]? = H[q]? := fun q hq => by rw [e1]; exact hk2 q hq (fun z => z)
  obtain ⟨t2, a1, b1⟩ := kk T'.heap (locs ++ Lc) (hP.kept (fun k x hx => hkeep x.1 ((hP k x hx).lt))) ⟨Nat.le_trans hS.1 (by rw [e1]; exact hz2), fun q h1 h2 => (hkeep q (Nat.lt_of_lt_of_le h1 hS.1)).trans (hS.2.1 q h1 h2), fun q hq => by
      rcases List.mem_append.mp hq with h | h
      · exact hS.2.2 q h
      · exact absurd (hLc q h) (fun z => z)⟩ T' rfl X'
  exact ⟨t2, st t2 a1, b1⟩
def fx_L_law_J255 (lo : Int32 → Int32) (k32 : Int32 → Int32 → mm_M → mm_R) (v3 : Int32) (w0 : Int32) (σ : mm_M) : mm_R := mm_li (v3 + (1 : Int32)) fun y_43 => (k32 w0 y_43 σ)
set_option maxHeartbeats 4000000 in
set_option maxRecDepth 100000 in
theorem cx_L_law_J255 {p : Program} {l : Launch} {e : Env} {s : State} {m : MethodId} {below : List Frame} {meth : Method} {c : Code} {b L : Nat} {xs : Nat → Int32} {D : va_G} {ad : mm_A} {cA : Nat → ClassId} (lo : Int32 → Int32) (hlo : lo = ml_lo xs L) (rv : Int32) (σ1 : mm_M) (k32 : Int32 → Int32 → mm_M → mm_R) (hk32 : ∀ (v2 : Int32) (v3 : Int32) (σ : mm_M) (H : Heap) (locs : List Loc) (ls : Array Slot), k32 v2 v3 σ = some (rv, σ1) → va_P D vwCl (mm_wd ad cA σ) H → va_S (fun q : Nat => s.heap.size ≤ q) s.heap H locs → lv_has ls 11 [(0, .ref b), (1, .ref (ad 6 9 0)), (2, .int v2), (3, .int v3)] → W p l e room_1 s m #[Value.ref b] below meth c H locs 126 1590 (lw_Z below #[Value.ref b] s) (F0 m 32 ls [])) (hL : L ≤ 260) (C0 : lw_At p s m meth c b L xs) (hsub : ∀ q, mm_AS ad q → s.heap.size ≤ q) (X : mm_X p s m #[Value.ref b] meth c cL_law 11 ret RL D ad cA) : ∀ (v3 : Int32) (w0 : Int32) (σ : mm_M) (H : Heap) (locs : List Loc) (ls : Array Slot), fx_L_law_J255 lo k32 v3 w0 σ = some (rv, σ1) → va_P D vwCl (mm_wd ad cA σ) H → va_S (fun q : Nat => s.heap.size ≤ q) s.heap H locs → lv_has ls 11 [(0, .ref b), (1, .ref (ad 6 9 0)), (3, .int v3)] → W p l e room_1 s m #[Value.ref b] below meth c H locs 126 1590 (lw_Z below #[Value.ref b] s) (F0 m 255 ls [.int w0]) := by
  have hx := X.1
  have hb := X.2.1
  have hI := X.2.2.2.2.2.2.2.2.2
  intro v3 w0 σ H locs ls hf hP hS hl
  rw [fx_L_law_J255] at hf
  refine lv_istore_n (lv' := [(2, .int w0), (0, .ref b), (1, .ref (ad 6 9 0)), (3, .int v3)]) hx hb dL_law_255 rfl hl (by decide) rfl (fun ls hl => ?_)
  obtain ⟨y_43, e_43, hf⟩ := mm_li_ok hf
  refine lv_iinc (v := y_43) (lv' := [(3, .int y_43), (2, .int w0), (0, .ref b), (1, .ref (ad 6 9 0))]) hx hb dL_law_256 hl (k := 3) rfl (by rw [e_43]; rfl) (by decide) rfl (fun ls hl => ?_)
  refine lv_goto (tgt := 32) hx hb dL_law_259 (by decide) ?_
  exact hk32 w0 y_43 σ H locs ls  hf hP hS (lv_sub hl [2, 3, 1, 0] rfl)
def fx_L_law_J247 (lo : Int32 → Int32) (k32 : Int32 → Int32 → mm_M → mm_R) (v3 : Int32) (w0 : Int32) (w1 : Int32) (σ : mm_M) : mm_R := if w0 = w1 then fx_L_law_J255 lo k32 v3 (1 : Int32) σ else fx_L_law_J255 lo k32 v3 (0 : Int32) σ
set_option maxHeartbeats 4000000 in
set_option maxRecDepth 100000 in
theorem cx_L_law_J247 {p : Program} {l : Launch} {e : Env} {s : State} {m : MethodId} {below : List Frame} {meth : Method} {c : Code} {b L : Nat} {xs : Nat → Int32} {D : va_G} {ad : mm_A} {cA : Nat → ClassId} (lo : Int32 → Int32) (hlo : lo = ml_lo xs L) (rv : Int32) (σ1 : mm_M) (k32 : Int32 → Int32 → mm_M → mm_R) (hk32 : ∀ (v2 : Int32) (v3 : Int32) (σ : mm_M) (H : Heap) (locs : List Loc) (ls : Array Slot), k32 v2 v3 σ = some (rv, σ1) → va_P D vwCl (mm_wd ad cA σ) H → va_S (fun q : Nat => s.heap.size ≤ q) s.heap H locs → lv_has ls 11 [(0, .ref b), (1, .ref (ad 6 9 0)), (2, .int v2), (3, .int v3)] → W p l e room_1 s m #[Value.ref b] below meth c H locs 126 1590 (lw_Z below #[Value.ref b] s) (F0 m 32 ls [])) (hL : L ≤ 260) (C0 : lw_At p s m meth c b L xs) (hsub : ∀ q, mm_AS ad q → s.heap.size ≤ q) (X : mm_X p s m #[Value.ref b] meth c cL_law 11 ret RL D ad cA) : ∀ (v3 : Int32) (w0 : Int32) (w1 : Int32) (σ : mm_M) (H : Heap) (locs : List Loc) (ls : Array Slot), fx_L_law_J247 lo k32 v3 w0 w1 σ = some (rv, σ1) → va_P D vwCl (mm_wd ad cA σ) H → va_S (fun q : Nat => s.heap.size ≤ q) s.heap H locs → lv_has ls 11 [(0, .ref b), (1, .ref (ad 6 9 0)), (3, .int v3)] → W p l e room_1 s m #[Value.ref b] below meth c H locs 126 1590 (lw_Z below #[Value.ref b] s) (F0 m 247 ls [.int w1, .int w0]) := by
  have hx := X.1
  have hb := X.2.1
  have hI := X.2.2.2.2.2.2.2.2.2
  intro v3 w0 w1 σ H locs ls hf hP hS hl
  rw [fx_L_law_J247] at hf
  refine lv_icmp_ne (tgt := 254) hx hb dL_law_247 (by decide) (fun c_42 => ?_) (fun c_42 => ?_)
  · replace hf := mm_if c_42 hf
    refine lv_iconst (v := (0 : Int32)) hx hb dL_law_254 (by decide) ?_
    exact cx_L_law_J255 lo hlo rv σ1 k32 hk32 hL C0 hsub X v3 (0 : Int32) σ H locs ls hf hP hS (lv_sub hl [0, 1, 2] rfl)
  · replace hf := mm_it c_42 hf
    refine lv_iconst (v := (1 : Int32)) hx hb dL_law_250 (by decide) ?_
    refine lv_goto (tgt := 255) hx hb dL_law_251 (by decide) ?_
    exact cx_L_law_J255 lo hlo rv σ1 k32 hk32 hL C0 hsub X v3 (1 : Int32) σ H locs ls hf hP hS (lv_sub hl [0, 1, 2] rfl)
def fx_L_law_J209 (lo : Int32 → Int32) (k32 : Int32 → Int32 → mm_M → mm_R) (v2 : Int32) (v3 : Int32) (σ : mm_M) : mm_R := if v2 = (0 : Int32) then mm_li (v3 + (1 : Int32)) fun y_36 => (k32 v2 y_36 σ) else if (v3 - v3 / (6 : Int32) * (6 : Int32)) = (5 : Int32) then mm_bd (fx_X10_count (7 : Int32) σ) fun r_39 s_39 => (mm_bd (fx_X10_undo  s_39) fun r_40 s_40 => (if r_39 = (0 : Int32) then fx_L_law_J247 lo k32 v3 r_40 (-1000002 : Int32) s_40 else fx_L_law_J247 lo k32 v3 r_40 (r_39 - (1 : Int32)) s_40)) else mm_li (v3 + (1 : Int32)) fun y_38 => (k32 v2 y_38 σ)
set_option maxHeartbeats 4000000 in
set_option maxRecDepth 100000 in
theorem cx_L_law_J209 {p : Program} {l : Launch} {e : Env} {s : State} {m : MethodId} {below : List Frame} {meth : Method} {c : Code} {b L : Nat} {xs : Nat → Int32} {D : va_G} {ad : mm_A} {cA : Nat → ClassId} (lo : Int32 → Int32) (hlo : lo = ml_lo xs L) (rv : Int32) (σ1 : mm_M) (k32 : Int32 → Int32 → mm_M → mm_R) (hk32 : ∀ (v2 : Int32) (v3 : Int32) (σ : mm_M) (H : Heap) (locs : List Loc) (ls : Array Slot), k32 v2 v3 σ = some (rv, σ1) → va_P D vwCl (mm_wd ad cA σ) H → va_S (fun q : Nat => s.heap.size ≤ q) s.heap H locs → lv_has ls 11 [(0, .ref b), (1, .ref (ad 6 9 0)), (2, .int v2), (3, .int v3)] → W p l e room_1 s m #[Value.ref b] below meth c H locs 126 1590 (lw_Z below #[Value.ref b] s) (F0 m 32 ls [])) (hL : L ≤ 260) (C0 : lw_At p s m meth c b L xs) (hsub : ∀ q, mm_AS ad q → s.heap.size ≤ q) (X : mm_X p s m #[Value.ref b] meth c cL_law 11 ret RL D ad cA) : ∀ (v2 : Int32) (v3 : Int32) (σ : mm_M) (H : Heap) (locs : List Loc) (ls : Array Slot), fx_L_law_J209 lo k32 v2 v3 σ = some (rv, σ1) → va_P D vwCl (mm_wd ad cA σ) H → va_S (fun q : Nat => s.heap.size ≤ q) s.heap H locs → lv_has ls 11 [(0, .ref b), (1, .ref (ad 6 9 0)), (2, .int v2), (3, .int v3)] → W p l e room_1 s m #[Value.ref b] below meth c H locs 126 1590 (lw_Z below #[Value.ref b] s) (F0 m 209 ls []) := by
  have hx := X.1
  have hb := X.2.1
  have hI := X.2.2.2.2.2.2.2.2.2
  intro v2 v3 σ H locs ls hf hP hS hl
  rw [fx_L_law_J209] at hf
  refine lv_iload_n hx hb dL_law_209 rfl (lv_at hl 2 rfl) ?_
  refine lv_if_eq (tgt := 256) hx hb dL_law_210 (by decide) (fun c_35 => ?_) (fun c_35 => ?_)
  · replace hf := mm_it c_35 hf
    obtain ⟨y_36, e_36, hf⟩ := mm_li_ok hf
    refine lv_iinc (v := y_36) (lv' := [(3, .int y_36), (0, .ref b), (1, .ref (ad 6 9 0)), (2, .int v2)]) hx hb dL_law_256 hl (k := 3) rfl (by rw [e_36]; rfl) (by decide) rfl (fun ls hl => ?_)
    refine lv_goto (tgt := 32) hx hb dL_law_259 (by decide) ?_
    exact hk32 v2 y_36 σ H locs ls  hf hP hS (lv_sub hl [1, 2, 3, 0] rfl)
  · replace hf := mm_if c_35 hf
    refine lv_iload_n hx hb dL_law_213 rfl (lv_at hl 3 rfl) ?_
    refine lv_bipush (v := (6 : Int32)) hx hb dL_law_214 (by decide) ?_
    refine lv_irem hx hb dL_law_216 (by decide) ?_
    refine lv_iconst (v := (5 : Int32)) hx hb dL_law_217 (by decide) ?_
    refine lv_icmp_ne (tgt := 256) hx hb dL_law_218 (by decide) (fun c_37 => ?_) (fun c_37 => ?_)
    · replace hf := mm_if c_37 hf
      obtain ⟨y_38, e_38, hf⟩ := mm_li_ok hf
      refine lv_iinc (v := y_38) (lv' := [(3, .int y_38), (0, .ref b), (1, .ref (ad 6 9 0)), (2, .int v2)]) hx hb dL_law_256 hl (k := 3) rfl (by rw [e_38]; rfl) (by decide) rfl (fun ls hl => ?_)
      refine lv_goto (tgt := 32) hx hb dL_law_259 (by decide) ?_
      exact hk32 v2 y_38 σ H locs ls  hf hP hS (lv_sub hl [1, 2, 3, 0] rfl)
    · replace hf := mm_it c_37 hf
      refine lv_aload_n hx hb dL_law_221 rfl (lv_at hl 1 rfl) ?_
      refine lv_bipush (v := (7 : Int32)) hx hb dL_law_222 (by decide) ?_
      obtain ⟨r_39, s_39, e_39, hf⟩ := mm_bd_ok hf
      refine ml_callV X hP hS hsub hl.1 [.int (7 : Int32)] [] (cx_X10_count l D ad cA hI (7 : Int32) σ r_39 s_39 e_39) kp_9 rfl rfl wd_305 wd_306 wd_307 wd_1 wd_308 hd_X10_count ⟨Nat.le_of_ble_eq_true rfl, Nat.le_of_ble_eq_true rfl⟩ rfl (Nat.le_of_ble_eq_true rfl) dL_law_224 ⟨Nat.le_refl _, Nat.le_refl _⟩ (fun H locs hP hS => ?_)
      refine lv_istore (lv' := [(10, .int r_39), (0, .ref b), (1, .ref (ad 6 9 0)), (2, .int v2), (3, .int v3)]) hx hb dL_law_227 hl (by decide) rfl (fun ls hl => ?_)
      refine lv_aload_n hx hb dL_law_229 rfl (lv_at hl 2 rfl) ?_
      obtain ⟨r_40, s_40, e_40, hf⟩ := mm_bd_ok hf
      refine ml_callV X hP hS hsub hl.1 [] [] (cx_X10_undo l D ad cA hI  s_39 r_40 s_40 e_40) kp_9 rfl rfl wd_319 wd_320 wd_321 wd_1 wd_322 hd_X10_undo ⟨Nat.le_of_ble_eq_true rfl, Nat.le_of_ble_eq_true rfl⟩ rfl (Nat.le_of_ble_eq_true rfl) dL_law_230 ⟨Nat.le_refl _, Nat.le_refl _⟩ (fun H locs hP hS => ?_)
      refine lv_iload hx hb dL_law_233 (lv_at hl 0 rfl) ?_
      refine lv_if_ne (tgt := 243) hx hb dL_law_235 (by decide) (fun c_41 => ?_) (fun c_41 => ?_)
      · replace hf := mm_if c_41 hf
        refine lv_iload hx hb dL_law_243 (lv_at hl 0 rfl) ?_
        refine lv_iconst (v := (1 : Int32)) hx hb dL_law_245 (by decide) ?_
        refine lv_isub hx hb dL_law_246 ?_
        exact cx_L_law_J247 lo hlo rv σ1 k32 hk32 hL C0 hsub X v3 r_40 (r_39 - (1 : Int32)) s_40 H locs ls hf hP hS (lv_sub hl [1, 2, 4] rfl)
      · replace hf := mm_it c_41 hf
        refine lv_ldc (v := (-1000002 : Int32)) hx hb X.2.2.2.2.2.1 (X.2.2.2.2.2.2.1 _ wd_481) dL_law_238 ?_
        refine lv_goto (tgt := 247) hx hb dL_law_240 (by decide) ?_
        exact cx_L_law_J247 lo hlo rv σ1 k32 hk32 hL C0 hsub X v3 r_40 (-1000002 : Int32) s_40 H locs ls hf hP hS (lv_sub hl [1, 2, 4] rfl)
def fx_L_law_J208 (lo : Int32 → Int32) (k32 : Int32 → Int32 → mm_M → mm_R) (v3 : Int32) (w0 : Int32) (σ : mm_M) : mm_R := fx_L_law_J209 lo k32 w0 v3 σ
set_option maxHeartbeats 4000000 in
set_option maxRecDepth 100000 in
theorem cx_L_law_J208 {p : Program} {l : Launch} {e : Env} {s : State} {m : MethodId} {below : List Frame} {meth : Method} {c : Code} {b L : Nat} {xs : Nat → Int32} {D : va_G} {ad : mm_A} {cA : Nat → ClassId} (lo : Int32 → Int32) (hlo : lo = ml_lo xs L) (rv : Int32) (σ1 : mm_M) (k32 : Int32 → Int32 → mm_M → mm_R) (hk32 : ∀ (v2 : Int32) (v3 : Int32) (σ : mm_M) (H : Heap) (locs : List Loc) (ls : Array Slot), k32 v2 v3 σ = some (rv, σ1) → va_P D vwCl (mm_wd ad cA σ) H → va_S (fun q : Nat => s.heap.size ≤ q) s.heap H locs → lv_has ls 11 [(0, .ref b), (1, .ref (ad 6 9 0)), (2, .int v2), (3, .int v3)] → W p l e room_1 s m #[Value.ref b] below meth c H locs 126 1590 (lw_Z below #[Value.ref b] s) (F0 m 32 ls [])) (hL : L ≤ 260) (C0 : lw_At p s m meth c b L xs) (hsub : ∀ q, mm_AS ad q → s.heap.size ≤ q) (X : mm_X p s m #[Value.ref b] meth c cL_law 11 ret RL D ad cA) : ∀ (v3 : Int32) (w0 : Int32) (σ : mm_M) (H : Heap) (locs : List Loc) (ls : Array Slot), fx_L_law_J208 lo k32 v3 w0 σ = some (rv, σ1) → va_P D vwCl (mm_wd ad cA σ) H → va_S (fun q : Nat => s.heap.size ≤ q) s.heap H locs → lv_has ls 11 [(0, .ref b), (1, .ref (ad 6 9 0)), (3, .int v3)] → W p l e room_1 s m #[Value.ref b] below meth c H locs 126 1590 (lw_Z below #[Value.ref b] s) (F0 m 208 ls [.int w0]) := by
  have hx := X.1
  have hb := X.2.1
  have hI := X.2.2.2.2.2.2.2.2.2
  intro v3 w0 σ H locs ls hf hP hS hl
  rw [fx_L_law_J208] at hf
  refine lv_istore_n (lv' := [(2, .int w0), (0, .ref b), (1, .ref (ad 6 9 0)), (3, .int v3)]) hx hb dL_law_208 rfl hl (by decide) rfl (fun ls hl => ?_)
  exact cx_L_law_J209 lo hlo rv σ1 k32 hk32 hL C0 hsub X w0 v3 σ H locs ls hf hP hS (lv_sub hl [1, 2, 0, 3] rfl)
def fx_L_law_J207 (lo : Int32 → Int32) (k32 : Int32 → Int32 → mm_M → mm_R) (v3 : Int32) (σ : mm_M) : mm_R := fx_L_law_J208 lo k32 v3 (0 : Int32) σ
set_option maxHeartbeats 4000000 in
set_option maxRecDepth 100000 in
theorem cx_L_law_J207 {p : Program} {l : Launch} {e : Env} {s : State} {m : MethodId} {below : List Frame} {meth : Method} {c : Code} {b L : Nat} {xs : Nat → Int32} {D : va_G} {ad : mm_A} {cA : Nat → ClassId} (lo : Int32 → Int32) (hlo : lo = ml_lo xs L) (rv : Int32) (σ1 : mm_M) (k32 : Int32 → Int32 → mm_M → mm_R) (hk32 : ∀ (v2 : Int32) (v3 : Int32) (σ : mm_M) (H : Heap) (locs : List Loc) (ls : Array Slot), k32 v2 v3 σ = some (rv, σ1) → va_P D vwCl (mm_wd ad cA σ) H → va_S (fun q : Nat => s.heap.size ≤ q) s.heap H locs → lv_has ls 11 [(0, .ref b), (1, .ref (ad 6 9 0)), (2, .int v2), (3, .int v3)] → W p l e room_1 s m #[Value.ref b] below meth c H locs 126 1590 (lw_Z below #[Value.ref b] s) (F0 m 32 ls [])) (hL : L ≤ 260) (C0 : lw_At p s m meth c b L xs) (hsub : ∀ q, mm_AS ad q → s.heap.size ≤ q) (X : mm_X p s m #[Value.ref b] meth c cL_law 11 ret RL D ad cA) : ∀ (v3 : Int32) (σ : mm_M) (H : Heap) (locs : List Loc) (ls : Array Slot), fx_L_law_J207 lo k32 v3 σ = some (rv, σ1) → va_P D vwCl (mm_wd ad cA σ) H → va_S (fun q : Nat => s.heap.size ≤ q) s.heap H locs → lv_has ls 11 [(0, .ref b), (1, .ref (ad 6 9 0)), (3, .int v3)] → W p l e room_1 s m #[Value.ref b] below meth c H locs 126 1590 (lw_Z below #[Value.ref b] s) (F0 m 207 ls []) := by
  have hx := X.1
  have hb := X.2.1
  have hI := X.2.2.2.2.2.2.2.2.2
  intro v3 σ H locs ls hf hP hS hl
  rw [fx_L_law_J207] at hf
  refine lv_iconst (v := (0 : Int32)) hx hb dL_law_207 (by decide) ?_
  exact cx_L_law_J208 lo hlo rv σ1 k32 hk32 hL C0 hsub X v3 (0 : Int32) σ H locs ls hf hP hS (lv_sub hl [0, 1, 2] rfl)
def fx_L_law_J158 (lo : Int32 → Int32) (k32 : Int32 → Int32 → mm_M → mm_R) (v3 : Int32) (v5 : Int32) (v6 : Int64) (v8 : Int32) (v9 : Int32) (w0 : Int32) (σ : mm_M) : mm_R := if w0 = (0 : Int32) then fx_L_law_J209 lo k32 w0 v3 σ else if v9 = (v8 + (1 : Int32)) then mm_bd (fx_L_low (v5 >>> ((8 : Int32) &&& 31)) (3 : Int32) σ) fun r_29 s_29 => (if r_29 = (0 : Int32) then mm_bd (fx_X10_undo  s_29) fun r_31 s_31 => (if r_31 = v8 then mm_bdJ (fx_L_digest  s_31) fun r_33 s_33 => (if (lg_cmp r_33 v6) = (0 : Int32) then fx_L_law_J208 lo k32 v3 (1 : Int32) s_33 else fx_L_law_J207 lo k32 v3 s_33) else fx_L_law_J207 lo k32 v3 s_31) else fx_L_law_J209 lo k32 w0 v3 s_29) else fx_L_law_J209 lo k32 w0 v3 σ
set_option maxHeartbeats 4000000 in
set_option maxRecDepth 100000 in
theorem cx_L_law_J158 {p : Program} {l : Launch} {e : Env} {s : State} {m : MethodId} {below : List Frame} {meth : Method} {c : Code} {b L : Nat} {xs : Nat → Int32} {D : va_G} {ad : mm_A} {cA : Nat → ClassId} (lo : Int32 → Int32) (hlo : lo = ml_lo xs L) (rv : Int32) (σ1 : mm_M) (k32 : Int32 → Int32 → mm_M → mm_R) (hk32 : ∀ (v2 : Int32) (v3 : Int32) (σ : mm_M) (H : Heap) (locs : List Loc) (ls : Array Slot), k32 v2 v3 σ = some (rv, σ1) → va_P D vwCl (mm_wd ad cA σ) H → va_S (fun q : Nat => s.heap.size ≤ q) s.heap H locs → lv_has ls 11 [(0, .ref b), (1, .ref (ad 6 9 0)), (2, .int v2), (3, .int v3)] → W p l e room_1 s m #[Value.ref b] below meth c H locs 126 1590 (lw_Z below #[Value.ref b] s) (F0 m 32 ls [])) (hL : L ≤ 260) (C0 : lw_At p s m meth c b L xs) (hsub : ∀ q, mm_AS ad q → s.heap.size ≤ q) (X : mm_X p s m #[Value.ref b] meth c cL_law 11 ret RL D ad cA) : ∀ (v3 : Int32) (v5 : Int32) (v6 : Int64) (v8 : Int32) (v9 : Int32) (w0 : Int32) (σ : mm_M) (H : Heap) (locs : List Loc) (ls : Array Slot), fx_L_law_J158 lo k32 v3 v5 v6 v8 v9 w0 σ = some (rv, σ1) → va_P D vwCl (mm_wd ad cA σ) H → va_S (fun q : Nat => s.heap.size ≤ q) s.heap H locs → lv_has ls 11 [(0, .ref b), (1, .ref (ad 6 9 0)), (3, .int v3), (5, .int v5), (6, .long v6), (8, .int v8), (9, .int v9)] → W p l e room_1 s m #[Value.ref b] below meth c H locs 126 1590 (lw_Z below #[Value.ref b] s) (F0 m 158 ls [.int w0]) := by
  have hx := X.1
  have hb := X.2.1
  have hI := X.2.2.2.2.2.2.2.2.2
  intro v3 v5 v6 v8 v9 w0 σ H locs ls hf hP hS hl
  rw [fx_L_law_J158] at hf
  refine lv_istore_n (lv' := [(2, .int w0), (0, .ref b), (1, .ref (ad 6 9 0)), (3, .int v3), (5, .int v5), (6, .long v6), (8, .int v8), (9, .int v9)]) hx hb dL_law_158 rfl hl (by decide) rfl (fun ls hl => ?_)
  refine lv_iload_n hx hb dL_law_159 rfl (lv_at hl 0 rfl) ?_
  refine lv_if_eq (tgt := 209) hx hb dL_law_160 (by decide) (fun c_27 => ?_) (fun c_27 => ?_)
  · replace hf := mm_it c_27 hf
    exact cx_L_law_J209 lo hlo rv σ1 k32 hk32 hL C0 hsub X w0 v3 σ H locs ls hf hP hS (lv_sub hl [1, 2, 0, 3] rfl)
  · replace hf := mm_if c_27 hf
    refine lv_iload hx hb dL_law_163 (lv_at hl 7 rfl) ?_
    refine lv_iload hx hb dL_law_165 (lv_at hl 6 rfl) ?_
    refine lv_iconst (v := (1 : Int32)) hx hb dL_law_167 (by decide) ?_
    refine lv_iadd hx hb dL_law_168 ?_
    refine lv_icmp_ne (tgt := 209) hx hb dL_law_169 (by decide) (fun c_28 => ?_) (fun c_28 => ?_)
    · replace hf := mm_if c_28 hf
      exact cx_L_law_J209 lo hlo rv σ1 k32 hk32 hL C0 hsub X w0 v3 σ H locs ls hf hP hS (lv_sub hl [1, 2, 0, 3] rfl)
    · replace hf := mm_it c_28 hf
      refine lv_iload hx hb dL_law_172 (lv_at hl 4 rfl) ?_
      refine lv_bipush (v := (8 : Int32)) hx hb dL_law_174 (by decide) ?_
      refine lv_ishr hx hb dL_law_176 ?_
      refine lv_iconst (v := (3 : Int32)) hx hb dL_law_177 (by decide) ?_
      obtain ⟨r_29, s_29, e_29, hf⟩ := mm_bd_ok hf
      refine ml_callS X hP hS hsub hl.1 [.int (v5 >>> ((8 : Int32) &&& 31)), .int (3 : Int32)] [] (cx_L_low l D ad cA hI (v5 >>> ((8 : Int32) &&& 31)) (3 : Int32) σ r_29 s_29 e_29) wd_348 wd_349 wd_0 wd_350 hd_L_low ⟨Nat.le_of_ble_eq_true rfl, Nat.le_of_ble_eq_true rfl⟩ rfl (Nat.le_of_ble_eq_true rfl) dL_law_178 ⟨Nat.le_refl _, Nat.le_refl _⟩ (fun H locs hP hS => ?_)
      refine lv_if_ne (tgt := 209) hx hb dL_law_181 (by decide) (fun c_30 => ?_) (fun c_30 => ?_)
      · replace hf := mm_if c_30 hf
        exact cx_L_law_J209 lo hlo rv σ1 k32 hk32 hL C0 hsub X w0 v3 s_29 H locs ls hf hP hS (lv_sub hl [1, 2, 0, 3] rfl)
      · replace hf := mm_it c_30 hf
        refine lv_aload_n hx hb dL_law_184 rfl (lv_at hl 2 rfl) ?_
        obtain ⟨r_31, s_31, e_31, hf⟩ := mm_bd_ok hf
        refine ml_callV X hP hS hsub hl.1 [] [] (cx_X10_undo l D ad cA hI  s_29 r_31 s_31 e_31) kp_9 rfl rfl wd_319 wd_320 wd_321 wd_1 wd_322 hd_X10_undo ⟨Nat.le_of_ble_eq_true rfl, Nat.le_of_ble_eq_true rfl⟩ rfl (Nat.le_of_ble_eq_true rfl) dL_law_185 ⟨Nat.le_refl _, Nat.le_refl _⟩ (fun H locs hP hS => ?_)
        refine lv_iload hx hb dL_law_188 (lv_at hl 6 rfl) ?_
        refine lv_icmp_ne (tgt := 207) hx hb dL_law_190 (by decide) (fun c_32 => ?_) (fun c_32 => ?_)
        · replace hf := mm_if c_32 hf
          exact cx_L_law_J207 lo hlo rv σ1 k32 hk32 hL C0 hsub X v3 s_31 H locs ls hf hP hS (lv_sub hl [1, 2, 3] rfl)
        · replace hf := mm_it c_32 hf
          refine lv_aload_n hx hb dL_law_193 rfl (lv_at hl 2 rfl) ?_
          obtain ⟨r_33, s_33, e_33, hf⟩ := mm_bdJ_ok hf
          refine ml_callS X hP hS hsub hl.1 [.ref (ad 6 9 0)] [] (cx_L_digest l D ad cA hI  s_31 r_33 s_33 e_33) wd_352 wd_353 wd_0 wd_354 hd_L_digest ⟨Nat.le_of_ble_eq_true rfl, Nat.le_of_ble_eq_true rfl⟩ rfl (Nat.le_of_ble_eq_true rfl) dL_law_194 ⟨Nat.le_refl _, Nat.le_refl _⟩ (fun H locs hP hS => ?_)
          refine lv_lload hx hb dL_law_197 (lv_at hl 5 rfl) ?_
          refine W.lcmp hx hb dL_law_199 ?_
          refine lv_if_ne (tgt := 207) hx hb dL_law_200 (by decide) (fun c_34 => ?_) (fun c_34 => ?_)
          · replace hf := mm_if c_34 hf
            exact cx_L_law_J207 lo hlo rv σ1 k32 hk32 hL C0 hsub X v3 s_33 H locs ls hf hP hS (lv_sub hl [1, 2, 3] rfl)
          · replace hf := mm_it c_34 hf
            refine lv_iconst (v := (1 : Int32)) hx hb dL_law_203 (by decide) ?_
            refine lv_goto (tgt := 208) hx hb dL_law_204 (by decide) ?_
            exact cx_L_law_J208 lo hlo rv σ1 k32 hk32 hL C0 hsub X v3 (1 : Int32) s_33 H locs ls hf hP hS (lv_sub hl [1, 2, 3] rfl)
def fx_L_law_J157 (lo : Int32 → Int32) (k32 : Int32 → Int32 → mm_M → mm_R) (v3 : Int32) (v5 : Int32) (v6 : Int64) (v8 : Int32) (v9 : Int32) (σ : mm_M) : mm_R := fx_L_law_J158 lo k32 v3 v5 v6 v8 v9 (0 : Int32) σ
set_option maxHeartbeats 4000000 in
set_option maxRecDepth 100000 in
theorem cx_L_law_J157 {p : Program} {l : Launch} {e : Env} {s : State} {m : MethodId} {below : List Frame} {meth : Method} {c : Code} {b L : Nat} {xs : Nat → Int32} {D : va_G} {ad : mm_A} {cA : Nat → ClassId} (lo : Int32 → Int32) (hlo : lo = ml_lo xs L) (rv : Int32) (σ1 : mm_M) (k32 : Int32 → Int32 → mm_M → mm_R) (hk32 : ∀ (v2 : Int32) (v3 : Int32) (σ : mm_M) (H : Heap) (locs : List Loc) (ls : Array Slot), k32 v2 v3 σ = some (rv, σ1) → va_P D vwCl (mm_wd ad cA σ) H → va_S (fun q : Nat => s.heap.size ≤ q) s.heap H locs → lv_has ls 11 [(0, .ref b), (1, .ref (ad 6 9 0)), (2, .int v2), (3, .int v3)] → W p l e room_1 s m #[Value.ref b] below meth c H locs 126 1590 (lw_Z below #[Value.ref b] s) (F0 m 32 ls [])) (hL : L ≤ 260) (C0 : lw_At p s m meth c b L xs) (hsub : ∀ q, mm_AS ad q → s.heap.size ≤ q) (X : mm_X p s m #[Value.ref b] meth c cL_law 11 ret RL D ad cA) : ∀ (v3 : Int32) (v5 : Int32) (v6 : Int64) (v8 : Int32) (v9 : Int32) (σ : mm_M) (H : Heap) (locs : List Loc) (ls : Array Slot), fx_L_law_J157 lo k32 v3 v5 v6 v8 v9 σ = some (rv, σ1) → va_P D vwCl (mm_wd ad cA σ) H → va_S (fun q : Nat => s.heap.size ≤ q) s.heap H locs → lv_has ls 11 [(0, .ref b), (1, .ref (ad 6 9 0)), (3, .int v3), (5, .int v5), (6, .long v6), (8, .int v8), (9, .int v9)] → W p l e room_1 s m #[Value.ref b] below meth c H locs 126 1590 (lw_Z below #[Value.ref b] s) (F0 m 157 ls []) := by
  have hx := X.1
  have hb := X.2.1
  have hI := X.2.2.2.2.2.2.2.2.2
  intro v3 v5 v6 v8 v9 σ H locs ls hf hP hS hl
  rw [fx_L_law_J157] at hf
  refine lv_iconst (v := (0 : Int32)) hx hb dL_law_157 (by decide) ?_
  exact cx_L_law_J158 lo hlo rv σ1 k32 hk32 hL C0 hsub X v3 v5 v6 v8 v9 (0 : Int32) σ H locs ls hf hP hS (lv_sub hl [0, 1, 2, 3, 4, 5, 6] rfl)
def fx_L_law_J144 (lo : Int32 → Int32) (k32 : Int32 → Int32 → mm_M → mm_R) (v3 : Int32) (v5 : Int32) (v6 : Int64) (v8 : Int32) (v9 : Int32) (σ : mm_M) : mm_R := if v9 = (v8 + (1 : Int32)) then fx_L_law_J158 lo k32 v3 v5 v6 v8 v9 (1 : Int32) σ else fx_L_law_J157 lo k32 v3 v5 v6 v8 v9 σ
set_option maxHeartbeats 4000000 in
set_option maxRecDepth 100000 in
theorem cx_L_law_J144 {p : Program} {l : Launch} {e : Env} {s : State} {m : MethodId} {below : List Frame} {meth : Method} {c : Code} {b L : Nat} {xs : Nat → Int32} {D : va_G} {ad : mm_A} {cA : Nat → ClassId} (lo : Int32 → Int32) (hlo : lo = ml_lo xs L) (rv : Int32) (σ1 : mm_M) (k32 : Int32 → Int32 → mm_M → mm_R) (hk32 : ∀ (v2 : Int32) (v3 : Int32) (σ : mm_M) (H : Heap) (locs : List Loc) (ls : Array Slot), k32 v2 v3 σ = some (rv, σ1) → va_P D vwCl (mm_wd ad cA σ) H → va_S (fun q : Nat => s.heap.size ≤ q) s.heap H locs → lv_has ls 11 [(0, .ref b), (1, .ref (ad 6 9 0)), (2, .int v2), (3, .int v3)] → W p l e room_1 s m #[Value.ref b] below meth c H locs 126 1590 (lw_Z below #[Value.ref b] s) (F0 m 32 ls [])) (hL : L ≤ 260) (C0 : lw_At p s m meth c b L xs) (hsub : ∀ q, mm_AS ad q → s.heap.size ≤ q) (X : mm_X p s m #[Value.ref b] meth c cL_law 11 ret RL D ad cA) : ∀ (v3 : Int32) (v5 : Int32) (v6 : Int64) (v8 : Int32) (v9 : Int32) (σ : mm_M) (H : Heap) (locs : List Loc) (ls : Array Slot), fx_L_law_J144 lo k32 v3 v5 v6 v8 v9 σ = some (rv, σ1) → va_P D vwCl (mm_wd ad cA σ) H → va_S (fun q : Nat => s.heap.size ≤ q) s.heap H locs → lv_has ls 11 [(0, .ref b), (1, .ref (ad 6 9 0)), (3, .int v3), (5, .int v5), (6, .long v6), (8, .int v8), (9, .int v9)] → W p l e room_1 s m #[Value.ref b] below meth c H locs 126 1590 (lw_Z below #[Value.ref b] s) (F0 m 144 ls []) := by
  have hx := X.1
  have hb := X.2.1
  have hI := X.2.2.2.2.2.2.2.2.2
  intro v3 v5 v6 v8 v9 σ H locs ls hf hP hS hl
  rw [fx_L_law_J144] at hf
  refine lv_iload hx hb dL_law_144 (lv_at hl 6 rfl) ?_
  refine lv_iload hx hb dL_law_146 (lv_at hl 5 rfl) ?_
  refine lv_iconst (v := (1 : Int32)) hx hb dL_law_148 (by decide) ?_
  refine lv_iadd hx hb dL_law_149 ?_
  refine lv_icmp_ne (tgt := 157) hx hb dL_law_150 (by decide) (fun c_26 => ?_) (fun c_26 => ?_)
  · replace hf := mm_if c_26 hf
    exact cx_L_law_J157 lo hlo rv σ1 k32 hk32 hL C0 hsub X v3 v5 v6 v8 v9 σ H locs ls hf hP hS (lv_sub hl [0, 1, 2, 3, 4, 5, 6] rfl)
  · replace hf := mm_it c_26 hf
    refine lv_iconst (v := (1 : Int32)) hx hb dL_law_153 (by decide) ?_
    refine lv_goto (tgt := 158) hx hb dL_law_154 (by decide) ?_
    exact cx_L_law_J158 lo hlo rv σ1 k32 hk32 hL C0 hsub X v3 v5 v6 v8 v9 (1 : Int32) σ H locs ls hf hP hS (lv_sub hl [0, 1, 2, 3, 4, 5, 6] rfl)
def fx_L_law_J108 (lo : Int32 → Int32) (k32 : Int32 → Int32 → mm_M → mm_R) (v3 : Int32) (v5 : Int32) (v6 : Int64) (v8 : Int32) (w0 : Int32) (σ : mm_M) : mm_R := mm_bd (fx_X10_count (7 : Int32) σ) fun r_20 s_20 => (if w0 = (0 : Int32) then fx_L_law_J157 lo k32 v3 v5 v6 v8 r_20 s_20 else if r_20 = v8 then if v8 = (4 : Int32) then fx_L_law_J158 lo k32 v3 v5 v6 v8 r_20 (1 : Int32) s_20 else mm_bdJ (fx_L_digest  s_20) fun r_24 s_24 => (if (lg_cmp r_24 v6) = (0 : Int32) then fx_L_law_J158 lo k32 v3 v5 v6 v8 r_20 (1 : Int32) s_24 else fx_L_law_J144 lo k32 v3 v5 v6 v8 r_20 s_24) else fx_L_law_J144 lo k32 v3 v5 v6 v8 r_20 s_20)
set_option maxHeartbeats 4000000 in
set_option maxRecDepth 100000 in
theorem cx_L_law_J108 {p : Program} {l : Launch} {e : Env} {s : State} {m : MethodId} {below : List Frame} {meth : Method} {c : Code} {b L : Nat} {xs : Nat → Int32} {D : va_G} {ad : mm_A} {cA : Nat → ClassId} (lo : Int32 → Int32) (hlo : lo = ml_lo xs L) (rv : Int32) (σ1 : mm_M) (k32 : Int32 → Int32 → mm_M → mm_R) (hk32 : ∀ (v2 : Int32) (v3 : Int32) (σ : mm_M) (H : Heap) (locs : List Loc) (ls : Array Slot), k32 v2 v3 σ = some (rv, σ1) → va_P D vwCl (mm_wd ad cA σ) H → va_S (fun q : Nat => s.heap.size ≤ q) s.heap H locs → lv_has ls 11 [(0, .ref b), (1, .ref (ad 6 9 0)), (2, .int v2), (3, .int v3)] → W p l e room_1 s m #[Value.ref b] below meth c H locs 126 1590 (lw_Z below #[Value.ref b] s) (F0 m 32 ls [])) (hL : L ≤ 260) (C0 : lw_At p s m meth c b L xs) (hsub : ∀ q, mm_AS ad q → s.heap.size ≤ q) (X : mm_X p s m #[Value.ref b] meth c cL_law 11 ret RL D ad cA) : ∀ (v3 : Int32) (v5 : Int32) (v6 : Int64) (v8 : Int32) (w0 : Int32) (σ : mm_M) (H : Heap) (locs : List Loc) (ls : Array Slot), fx_L_law_J108 lo k32 v3 v5 v6 v8 w0 σ = some (rv, σ1) → va_P D vwCl (mm_wd ad cA σ) H → va_S (fun q : Nat => s.heap.size ≤ q) s.heap H locs → lv_has ls 11 [(0, .ref b), (1, .ref (ad 6 9 0)), (3, .int v3), (5, .int v5), (6, .long v6), (8, .int v8)] → W p l e room_1 s m #[Value.ref b] below meth c H locs 126 1590 (lw_Z below #[Value.ref b] s) (F0 m 108 ls [.int w0]) := by
  have hx := X.1
  have hb := X.2.1
  have hI := X.2.2.2.2.2.2.2.2.2
  intro v3 v5 v6 v8 w0 σ H locs ls hf hP hS hl
  rw [fx_L_law_J108] at hf
  refine lv_istore_n (lv' := [(2, .int w0), (0, .ref b), (1, .ref (ad 6 9 0)), (3, .int v3), (5, .int v5), (6, .long v6), (8, .int v8)]) hx hb dL_law_108 rfl hl (by decide) rfl (fun ls hl => ?_)
  refine lv_aload_n hx hb dL_law_109 rfl (lv_at hl 2 rfl) ?_
  refine lv_bipush (v := (7 : Int32)) hx hb dL_law_110 (by decide) ?_
  obtain ⟨r_20, s_20, e_20, hf⟩ := mm_bd_ok hf
  refine ml_callV X hP hS hsub hl.1 [.int (7 : Int32)] [] (cx_X10_count l D ad cA hI (7 : Int32) σ r_20 s_20 e_20) kp_9 rfl rfl wd_305 wd_306 wd_307 wd_1 wd_308 hd_X10_count ⟨Nat.le_of_ble_eq_true rfl, Nat.le_of_ble_eq_true rfl⟩ rfl (Nat.le_of_ble_eq_true rfl) dL_law_112 ⟨Nat.le_refl _, Nat.le_refl _⟩ (fun H locs hP hS => ?_)
  refine lv_istore (lv' := [(9, .int r_20), (2, .int w0), (0, .ref b), (1, .ref (ad 6 9 0)), (3, .int v3), (5, .int v5), (6, .long v6), (8, .int v8)]) hx hb dL_law_115 hl (by decide) rfl (fun ls hl => ?_)
  refine lv_iload_n hx hb dL_law_117 rfl (lv_at hl 1 rfl) ?_
  refine lv_if_eq (tgt := 157) hx hb dL_law_118 (by decide) (fun c_21 => ?_) (fun c_21 => ?_)
  · replace hf := mm_it c_21 hf
    exact cx_L_law_J157 lo hlo rv σ1 k32 hk32 hL C0 hsub X v3 v5 v6 v8 r_20 s_20 H locs ls hf hP hS (lv_sub hl [2, 3, 4, 5, 6, 7, 0] rfl)
  · replace hf := mm_if c_21 hf
    refine lv_iload hx hb dL_law_121 (lv_at hl 0 rfl) ?_
    refine lv_iload hx hb dL_law_123 (lv_at hl 7 rfl) ?_
    refine lv_icmp_ne (tgt := 144) hx hb dL_law_125 (by decide) (fun c_22 => ?_) (fun c_22 => ?_)
    · replace hf := mm_if c_22 hf
      exact cx_L_law_J144 lo hlo rv σ1 k32 hk32 hL C0 hsub X v3 v5 v6 v8 r_20 s_20 H locs ls hf hP hS (lv_sub hl [2, 3, 4, 5, 6, 7, 0] rfl)
    · replace hf := mm_it c_22 hf
      refine lv_iload hx hb dL_law_128 (lv_at hl 7 rfl) ?_
      refine lv_iconst (v := (4 : Int32)) hx hb dL_law_130 (by decide) ?_
      refine lv_icmp_eq (tgt := 153) hx hb dL_law_131 (by decide) (fun c_23 => ?_) (fun c_23 => ?_)
      · replace hf := mm_it c_23 hf
        refine lv_iconst (v := (1 : Int32)) hx hb dL_law_153 (by decide) ?_
        refine lv_goto (tgt := 158) hx hb dL_law_154 (by decide) ?_
        exact cx_L_law_J158 lo hlo rv σ1 k32 hk32 hL C0 hsub X v3 v5 v6 v8 r_20 (1 : Int32) s_20 H locs ls hf hP hS (lv_sub hl [2, 3, 4, 5, 6, 7, 0] rfl)
      · replace hf := mm_if c_23 hf
        refine lv_aload_n hx hb dL_law_134 rfl (lv_at hl 3 rfl) ?_
        obtain ⟨r_24, s_24, e_24, hf⟩ := mm_bdJ_ok hf
        refine ml_callS X hP hS hsub hl.1 [.ref (ad 6 9 0)] [] (cx_L_digest l D ad cA hI  s_20 r_24 s_24 e_24) wd_352 wd_353 wd_0 wd_354 hd_L_digest ⟨Nat.le_of_ble_eq_true rfl, Nat.le_of_ble_eq_true rfl⟩ rfl (Nat.le_of_ble_eq_true rfl) dL_law_135 ⟨Nat.le_refl _, Nat.le_refl _⟩ (fun H locs hP hS => ?_)
        refine lv_lload hx hb dL_law_138 (lv_at hl 6 rfl) ?_
        refine W.lcmp hx hb dL_law_140 ?_
        refine lv_if_eq (tgt := 153) hx hb dL_law_141 (by decide) (fun c_25 => ?_) (fun c_25 => ?_)
        · replace hf := mm_it c_25 hf
          refine lv_iconst (v := (1 : Int32)) hx hb dL_law_153 (by decide) ?_
          refine lv_goto (tgt := 158) hx hb dL_law_154 (by decide) ?_
          exact cx_L_law_J158 lo hlo rv σ1 k32 hk32 hL C0 hsub X v3 v5 v6 v8 r_20 (1 : Int32) s_24 H locs ls hf hP hS (lv_sub hl [2, 3, 4, 5, 6, 7, 0] rfl)
        · replace hf := mm_if c_25 hf
          exact cx_L_law_J144 lo hlo rv σ1 k32 hk32 hL C0 hsub X v3 v5 v6 v8 r_20 s_24 H locs ls hf hP hS (lv_sub hl [2, 3, 4, 5, 6, 7, 0] rfl)
def fx_L_law_J107 (lo : Int32 → Int32) (k32 : Int32 → Int32 → mm_M → mm_R) (v3 : Int32) (v5 : Int32) (v6 : Int64) (v8 : Int32) (σ : mm_M) : mm_R := fx_L_law_J108 lo k32 v3 v5 v6 v8 (0 : Int32) σ
set_option maxHeartbeats 4000000 in
set_option maxRecDepth 100000 in
theorem cx_L_law_J107 {p : Program} {l : Launch} {e : Env} {s : State} {m : MethodId} {below : List Frame} {meth : Method} {c : Code} {b L : Nat} {xs : Nat → Int32} {D : va_G} {ad : mm_A} {cA : Nat → ClassId} (lo : Int32 → Int32) (hlo : lo = ml_lo xs L) (rv : Int32) (σ1 : mm_M) (k32 : Int32 → Int32 → mm_M → mm_R) (hk32 : ∀ (v2 : Int32) (v3 : Int32) (σ : mm_M) (H : Heap) (locs : List Loc) (ls : Array Slot), k32 v2 v3 σ = some (rv, σ1) → va_P D vwCl (mm_wd ad cA σ) H → va_S (fun q : Nat => s.heap.size ≤ q) s.heap H locs → lv_has ls 11 [(0, .ref b), (1, .ref (ad 6 9 0)), (2, .int v2), (3, .int v3)] → W p l e room_1 s m #[Value.ref b] below meth c H locs 126 1590 (lw_Z below #[Value.ref b] s) (F0 m 32 ls [])) (hL : L ≤ 260) (C0 : lw_At p s m meth c b L xs) (hsub : ∀ q, mm_AS ad q → s.heap.size ≤ q) (X : mm_X p s m #[Value.ref b] meth c cL_law 11 ret RL D ad cA) : ∀ (v3 : Int32) (v5 : Int32) (v6 : Int64) (v8 : Int32) (σ : mm_M) (H : Heap) (locs : List Loc) (ls : Array Slot), fx_L_law_J107 lo k32 v3 v5 v6 v8 σ = some (rv, σ1) → va_P D vwCl (mm_wd ad cA σ) H → va_S (fun q : Nat => s.heap.size ≤ q) s.heap H locs → lv_has ls 11 [(0, .ref b), (1, .ref (ad 6 9 0)), (3, .int v3), (5, .int v5), (6, .long v6), (8, .int v8)] → W p l e room_1 s m #[Value.ref b] below meth c H locs 126 1590 (lw_Z below #[Value.ref b] s) (F0 m 107 ls []) := by
  have hx := X.1
  have hb := X.2.1
  have hI := X.2.2.2.2.2.2.2.2.2
  intro v3 v5 v6 v8 σ H locs ls hf hP hS hl
  rw [fx_L_law_J107] at hf
  refine lv_iconst (v := (0 : Int32)) hx hb dL_law_107 (by decide) ?_
  exact cx_L_law_J108 lo hlo rv σ1 k32 hk32 hL C0 hsub X v3 v5 v6 v8 (0 : Int32) σ H locs ls hf hP hS (lv_sub hl [0, 1, 2, 3, 4, 5] rfl)
def fx_L_law_J88 (lo : Int32 → Int32) (k32 : Int32 → Int32 → mm_M → mm_R) (v3 : Int32) (v5 : Int32) (v6 : Int64) (v8 : Int32) (w1 : Int32) (σ : mm_M) : mm_R := mm_bd (fx_L_acts w1 v5 σ) fun r_16 s_16 => (if r_16 = (0 : Int32) then fx_L_law_J107 lo k32 v3 v5 v6 v8 s_16 else mm_bd (fx_L_holds  s_16) fun r_18 s_18 => (if r_18 = (0 : Int32) then fx_L_law_J107 lo k32 v3 v5 v6 v8 s_18 else fx_L_law_J108 lo k32 v3 v5 v6 v8 (1 : Int32) s_18))
set_option maxHeartbeats 4000000 in
set_option maxRecDepth 100000 in
theorem cx_L_law_J88 {p : Program} {l : Launch} {e : Env} {s : State} {m : MethodId} {below : List Frame} {meth : Method} {c : Code} {b L : Nat} {xs : Nat → Int32} {D : va_G} {ad : mm_A} {cA : Nat → ClassId} (lo : Int32 → Int32) (hlo : lo = ml_lo xs L) (rv : Int32) (σ1 : mm_M) (k32 : Int32 → Int32 → mm_M → mm_R) (hk32 : ∀ (v2 : Int32) (v3 : Int32) (σ : mm_M) (H : Heap) (locs : List Loc) (ls : Array Slot), k32 v2 v3 σ = some (rv, σ1) → va_P D vwCl (mm_wd ad cA σ) H → va_S (fun q : Nat => s.heap.size ≤ q) s.heap H locs → lv_has ls 11 [(0, .ref b), (1, .ref (ad 6 9 0)), (2, .int v2), (3, .int v3)] → W p l e room_1 s m #[Value.ref b] below meth c H locs 126 1590 (lw_Z below #[Value.ref b] s) (F0 m 32 ls [])) (hL : L ≤ 260) (C0 : lw_At p s m meth c b L xs) (hsub : ∀ q, mm_AS ad q → s.heap.size ≤ q) (X : mm_X p s m #[Value.ref b] meth c cL_law 11 ret RL D ad cA) : ∀ (v3 : Int32) (v5 : Int32) (v6 : Int64) (v8 : Int32) (w1 : Int32) (σ : mm_M) (H : Heap) (locs : List Loc) (ls : Array Slot), fx_L_law_J88 lo k32 v3 v5 v6 v8 w1 σ = some (rv, σ1) → va_P D vwCl (mm_wd ad cA σ) H → va_S (fun q : Nat => s.heap.size ≤ q) s.heap H locs → lv_has ls 11 [(0, .ref b), (1, .ref (ad 6 9 0)), (3, .int v3), (5, .int v5), (6, .long v6), (8, .int v8)] → W p l e room_1 s m #[Value.ref b] below meth c H locs 126 1590 (lw_Z below #[Value.ref b] s) (F0 m 88 ls [.int w1, .ref (ad 6 9 0)]) := by
  have hx := X.1
  have hb := X.2.1
  have hI := X.2.2.2.2.2.2.2.2.2
  intro v3 v5 v6 v8 w1 σ H locs ls hf hP hS hl
  rw [fx_L_law_J88] at hf
  refine lv_iload hx hb dL_law_88 (lv_at hl 3 rfl) ?_
  obtain ⟨r_16, s_16, e_16, hf⟩ := mm_bd_ok hf
  refine ml_callS X hP hS hsub hl.1 [.ref (ad 6 9 0), .int w1, .int v5] [] (cx_L_acts l D ad cA hI w1 v5 σ r_16 s_16 e_16) wd_434 wd_435 wd_0 wd_436 hd_L_acts ⟨Nat.le_of_ble_eq_true rfl, Nat.le_of_ble_eq_true rfl⟩ rfl (Nat.le_of_ble_eq_true rfl) dL_law_90 ⟨Nat.le_refl _, Nat.le_refl _⟩ (fun H locs hP hS => ?_)
  refine lv_if_eq (tgt := 107) hx hb dL_law_93 (by decide) (fun c_17 => ?_) (fun c_17 => ?_)
  · replace hf := mm_it c_17 hf
    exact cx_L_law_J107 lo hlo rv σ1 k32 hk32 hL C0 hsub X v3 v5 v6 v8 s_16 H locs ls hf hP hS (lv_sub hl [0, 1, 2, 3, 4, 5] rfl)
  · replace hf := mm_if c_17 hf
    refine lv_aload_n hx hb dL_law_96 rfl (lv_at hl 1 rfl) ?_
    obtain ⟨r_18, s_18, e_18, hf⟩ := mm_bd_ok hf
    refine ml_callS X hP hS hsub hl.1 [.ref (ad 6 9 0)] [] (cx_L_holds l D ad cA hI  s_16 r_18 s_18 e_18) wd_430 wd_431 wd_0 wd_432 hd_L_holds ⟨Nat.le_of_ble_eq_true rfl, Nat.le_of_ble_eq_true rfl⟩ rfl (Nat.le_of_ble_eq_true rfl) dL_law_97 ⟨Nat.le_refl _, Nat.le_refl _⟩ (fun H locs hP hS => ?_)
    refine lv_if_eq (tgt := 107) hx hb dL_law_100 (by decide) (fun c_19 => ?_) (fun c_19 => ?_)
    · replace hf := mm_it c_19 hf
      exact cx_L_law_J107 lo hlo rv σ1 k32 hk32 hL C0 hsub X v3 v5 v6 v8 s_18 H locs ls hf hP hS (lv_sub hl [0, 1, 2, 3, 4, 5] rfl)
    · replace hf := mm_if c_19 hf
      refine lv_iconst (v := (1 : Int32)) hx hb dL_law_103 (by decide) ?_
      refine lv_goto (tgt := 108) hx hb dL_law_104 (by decide) ?_
      exact cx_L_law_J108 lo hlo rv σ1 k32 hk32 hL C0 hsub X v3 v5 v6 v8 (1 : Int32) s_18 H locs ls hf hP hS (lv_sub hl [0, 1, 2, 3, 4, 5] rfl)
def fx_L_law_L32 (lo : Int32 → Int32)  : Nat → Int32 → Int32 → mm_M → mm_R
  | 0, _, _, _ => none
  | fu + 1, v2, v3, σ => if (36 : Int32) ≤ v3 then mm_gd (v2 = 1) (some (1, σ)) else if v2 = (0 : Int32) then mm_gd (v2 = 1) (some (1, σ)) else mm_gd (¬ ((2 : Int32) * v3) < 0) (mm_li (lo ((2 : Int32) * v3)) fun y_10 => (mm_gd (¬ (((2 : Int32) * v3) + (1 : Int32)) < 0) (mm_li (lo (((2 : Int32) * v3) + (1 : Int32))) fun y_12 => (mm_bdJ (fx_L_digest  σ) fun r_13 s_13 => (mm_bd (fx_X10_count (7 : Int32) s_13) fun r_14 s_14 => (if (3 : Int32) ≤ v3 then fx_L_law_J88 lo (fun z0 z1 z => fx_L_law_L32 lo fu z0 z1 z) v3 y_12 r_13 r_14 y_10 s_14 else fx_L_law_J88 lo (fun z0 z1 z => fx_L_law_L32 lo fu z0 z1 z) v3 y_12 r_13 r_14 (0 : Int32) s_14))))))
set_option maxHeartbeats 4000000 in
set_option maxRecDepth 100000 in
theorem cx_L_law_L32 {p : Program} {l : Launch} {e : Env} {s : State} {m : MethodId} {below : List Frame} {meth : Method} {c : Code} {b L : Nat} {xs : Nat → Int32} {D : va_G} {ad : mm_A} {cA : Nat → ClassId} (lo : Int32 → Int32) (hlo : lo = ml_lo xs L) (rv : Int32) (σ1 : mm_M)  (hL : L ≤ 260) (C0 : lw_At p s m meth c b L xs) (hsub : ∀ q, mm_AS ad q → s.heap.size ≤ q) (X : mm_X p s m #[Value.ref b] meth c cL_law 11 ret RL D ad cA) : ∀ (fu : Nat), ∀ (v2 : Int32) (v3 : Int32) (σ : mm_M) (H : Heap) (locs : List Loc) (ls : Array Slot), fx_L_law_L32 lo fu v2 v3 σ = some (rv, σ1) → va_P D vwCl (mm_wd ad cA σ) H → va_S (fun q : Nat => s.heap.size ≤ q) s.heap H locs → lv_has ls 11 [(0, .ref b), (1, .ref (ad 6 9 0)), (2, .int v2), (3, .int v3)] → W p l e room_1 s m #[Value.ref b] below meth c H locs 126 1590 (lw_Z below #[Value.ref b] s) (F0 m 32 ls []) := by
  have hx := X.1
  have hb := X.2.1
  have hI := X.2.2.2.2.2.2.2.2.2
  intro fu
  induction fu with
  | zero =>
    intro v2 v3 σ H locs ls hf
    exact mm_no hf
  | succ fu ih =>
    intro v2 v3 σ H locs ls hf hP hS hl
    rw [fx_L_law_L32] at hf
    refine lv_iload_n hx hb dL_law_32 rfl (lv_at hl 3 rfl) ?_
    refine lv_bipush (v := (36 : Int32)) hx hb dL_law_33 (by decide) ?_
    refine lv_icmp_ge (tgt := 262) hx hb dL_law_35 (by decide) (fun c_5 => ?_) (fun c_5 => ?_)
    · replace hf := mm_it c_5 hf
      refine lv_iload_n hx hb dL_law_262 rfl (lv_at hl 2 rfl) ?_
      obtain ⟨h_6, hf⟩ := mm_gd_ok hf
      rw [h_6]
      refine va_forget (fun q hq => hS.2.2 q hq) ?_
      exact lw_ret X.1 X.2.1 X.2.2.2.1 X.2.2.2.2.1 dL_law_263
    · replace hf := mm_if c_5 hf
      refine lv_iload_n hx hb dL_law_38 rfl (lv_at hl 2 rfl) ?_
      refine lv_if_eq (tgt := 262) hx hb dL_law_39 (by decide) (fun c_7 => ?_) (fun c_7 => ?_)
      · replace hf := mm_it c_7 hf
        refine lv_iload_n hx hb dL_law_262 rfl (lv_at hl 2 rfl) ?_
        obtain ⟨h_8, hf⟩ := mm_gd_ok hf
        rw [h_8]
        refine va_forget (fun q hq => hS.2.2 q hq) ?_
        exact lw_ret X.1 X.2.1 X.2.2.2.1 X.2.2.2.2.1 dL_law_263
      · replace hf := mm_if c_7 hf
        refine lv_aload_n hx hb dL_law_42 rfl (lv_at hl 0 rfl) ?_
        refine lv_iconst (v := (2 : Int32)) hx hb dL_law_43 (by decide) ?_
        refine lv_iload_n hx hb dL_law_44 rfl (lv_at hl 3 rfl) ?_
        refine lv_imul hx hb dL_law_45 ?_
        obtain ⟨h_9, hf⟩ := mm_gd_ok hf
        refine ml_lot C0 hL X hP hS hl.1 [] h_9 hlo dL_law_46 (Nat.le_of_ble_eq_true rfl) ⟨Nat.le_refl _, Nat.le_refl _⟩ (fun H locs hP hS => ?_)
        obtain ⟨y_10, e_10, hf⟩ := mm_li_ok hf
        rw [← e_10]
        refine lv_istore (lv' := [(4, .int y_10), (0, .ref b), (1, .ref (ad 6 9 0)), (2, .int v2), (3, .int v3)]) hx hb dL_law_49 hl (by decide) rfl (fun ls hl => ?_)
        refine lv_aload_n hx hb dL_law_51 rfl (lv_at hl 1 rfl) ?_
        refine lv_iconst (v := (2 : Int32)) hx hb dL_law_52 (by decide) ?_
        refine lv_iload_n hx hb dL_law_53 rfl (lv_at hl 4 rfl) ?_
        refine lv_imul hx hb dL_law_54 ?_
        refine lv_iconst (v := (1 : Int32)) hx hb dL_law_55 (by decide) ?_
        refine lv_iadd hx hb dL_law_56 ?_
        obtain ⟨h_11, hf⟩ := mm_gd_ok hf
        refine ml_lot C0 hL X hP hS hl.1 [] h_11 hlo dL_law_57 (Nat.le_of_ble_eq_true rfl) ⟨Nat.le_refl _, Nat.le_refl _⟩ (fun H locs hP hS => ?_)
        obtain ⟨y_12, e_12, hf⟩ := mm_li_ok hf
        rw [← e_12]
        refine lv_istore (lv' := [(5, .int y_12), (4, .int y_10), (0, .ref b), (1, .ref (ad 6 9 0)), (2, .int v2), (3, .int v3)]) hx hb dL_law_60 hl (by decide) rfl (fun ls hl => ?_)
        refine lv_aload_n hx hb dL_law_62 rfl (lv_at hl 3 rfl) ?_
        obtain ⟨r_13, s_13, e_13, hf⟩ := mm_bdJ_ok hf
        refine ml_callS X hP hS hsub hl.1 [.ref (ad 6 9 0)] [] (cx_L_digest l D ad cA hI  σ r_13 s_13 e_13) wd_352 wd_353 wd_0 wd_354 hd_L_digest ⟨Nat.le_of_ble_eq_true rfl, Nat.le_of_ble_eq_true rfl⟩ rfl (Nat.le_of_ble_eq_true rfl) dL_law_63 ⟨Nat.le_refl _, Nat.le_refl _⟩ (fun H locs hP hS => ?_)
        refine lv_lstore (lv' := [(6, .long r_13), (5, .int y_12), (4, .int y_10), (0, .ref b), (1, .ref (ad 6 9 0)), (2, .int v2), (3, .int v3)]) hx hb dL_law_66 hl (by decide) rfl (fun ls hl => ?_)
        refine lv_aload_n hx hb dL_law_68 rfl (lv_at hl 4 rfl) ?_
        refine lv_bipush (v := (7 : Int32)) hx hb dL_law_69 (by decide) ?_
        obtain ⟨r_14, s_14, e_14, hf⟩ := mm_bd_ok hf
        refine ml_callV X hP hS hsub hl.1 [.int (7 : Int32)] [] (cx_X10_count l D ad cA hI (7 : Int32) s_13 r_14 s_14 e_14) kp_9 rfl rfl wd_305 wd_306 wd_307 wd_1 wd_308 hd_X10_count ⟨Nat.le_of_ble_eq_true rfl, Nat.le_of_ble_eq_true rfl⟩ rfl (Nat.le_of_ble_eq_true rfl) dL_law_71 ⟨Nat.le_refl _, Nat.le_refl _⟩ (fun H locs hP hS => ?_)
        refine lv_istore (lv' := [(8, .int r_14), (6, .long r_13), (5, .int y_12), (4, .int y_10), (0, .ref b), (1, .ref (ad 6 9 0)), (2, .int v2), (3, .int v3)]) hx hb dL_law_74 hl (by decide) rfl (fun ls hl => ?_)
        refine lv_aload_n hx hb dL_law_76 rfl (lv_at hl 5 rfl) ?_
        refine lv_iload_n hx hb dL_law_77 rfl (lv_at hl 7 rfl) ?_
        refine lv_iconst (v := (3 : Int32)) hx hb dL_law_78 (by decide) ?_
        refine lv_icmp_ge (tgt := 86) hx hb dL_law_79 (by decide) (fun c_15 => ?_) (fun c_15 => ?_)
        · replace hf := mm_it c_15 hf
          refine lv_iload hx hb dL_law_86 (lv_at hl 3 rfl) ?_
          exact cx_L_law_J88 lo hlo rv σ1 (fun z0 z1 z => fx_L_law_L32 lo fu z0 z1 z) ih hL C0 hsub X v3 y_12 r_13 r_14 y_10 s_14 H locs ls hf hP hS (lv_sub hl [4, 5, 7, 2, 1, 0] rfl)
        · replace hf := mm_if c_15 hf
          refine lv_iconst (v := (0 : Int32)) hx hb dL_law_82 (by decide) ?_
          refine lv_goto (tgt := 88) hx hb dL_law_83 (by decide) ?_
          exact cx_L_law_J88 lo hlo rv σ1 (fun z0 z1 z => fx_L_law_L32 lo fu z0 z1 z) ih hL C0 hsub X v3 y_12 r_13 r_14 (0 : Int32) s_14 H locs ls hf hP hS (lv_sub hl [4, 5, 7, 2, 1, 0] rfl)
def fx_L_law_J29 (lo : Int32 → Int32)  (w0 : Int32) (σ : mm_M) : mm_R := fx_L_law_L32 lo mm_FU w0 (0 : Int32) σ
set_option maxHeartbeats 4000000 in
set_option maxRecDepth 100000 in
theorem cx_L_law_J29 {p : Program} {l : Launch} {e : Env} {s : State} {m : MethodId} {below : List Frame} {meth : Method} {c : Code} {b L : Nat} {xs : Nat → Int32} {D : va_G} {ad : mm_A} {cA : Nat → ClassId} (lo : Int32 → Int32) (hlo : lo = ml_lo xs L) (rv : Int32) (σ1 : mm_M)  (hL : L ≤ 260) (C0 : lw_At p s m meth c b L xs) (hsub : ∀ q, mm_AS ad q → s.heap.size ≤ q) (X : mm_X p s m #[Value.ref b] meth c cL_law 11 ret RL D ad cA) : ∀ (w0 : Int32) (σ : mm_M) (H : Heap) (locs : List Loc) (ls : Array Slot), fx_L_law_J29 lo w0 σ = some (rv, σ1) → va_P D vwCl (mm_wd ad cA σ) H → va_S (fun q : Nat => s.heap.size ≤ q) s.heap H locs → lv_has ls 11 [(0, .ref b), (1, .ref (ad 6 9 0))] → W p l e room_1 s m #[Value.ref b] below meth c H locs 126 1590 (lw_Z below #[Value.ref b] s) (F0 m 29 ls [.int w0]) := by
  have hx := X.1
  have hb := X.2.1
  have hI := X.2.2.2.2.2.2.2.2.2
  intro w0 σ H locs ls hf hP hS hl
  rw [fx_L_law_J29] at hf
  refine lv_istore_n (lv' := [(2, .int w0), (0, .ref b), (1, .ref (ad 6 9 0))]) hx hb dL_law_29 rfl hl (by decide) rfl (fun ls hl => ?_)
  refine lv_iconst (v := (0 : Int32)) hx hb dL_law_30 (by decide) ?_
  refine lv_istore_n (lv' := [(3, .int (0 : Int32)), (2, .int w0), (0, .ref b), (1, .ref (ad 6 9 0))]) hx hb dL_law_31 rfl hl (by decide) rfl (fun ls hl => ?_)
  exact cx_L_law_L32 lo hlo rv σ1 hL C0 hsub X mm_FU w0 (0 : Int32) σ H locs ls hf hP hS (lv_sub hl [2, 3, 1, 0] rfl)
def fx_L_law_J28 (lo : Int32 → Int32)   (σ : mm_M) : mm_R := fx_L_law_J29 lo (0 : Int32) σ
set_option maxHeartbeats 4000000 in
set_option maxRecDepth 100000 in
theorem cx_L_law_J28 {p : Program} {l : Launch} {e : Env} {s : State} {m : MethodId} {below : List Frame} {meth : Method} {c : Code} {b L : Nat} {xs : Nat → Int32} {D : va_G} {ad : mm_A} {cA : Nat → ClassId} (lo : Int32 → Int32) (hlo : lo = ml_lo xs L) (rv : Int32) (σ1 : mm_M)  (hL : L ≤ 260) (C0 : lw_At p s m meth c b L xs) (hsub : ∀ q, mm_AS ad q → s.heap.size ≤ q) (X : mm_X p s m #[Value.ref b] meth c cL_law 11 ret RL D ad cA) : ∀ (σ : mm_M) (H : Heap) (locs : List Loc) (ls : Array Slot), fx_L_law_J28 lo  σ = some (rv, σ1) → va_P D vwCl (mm_wd ad cA σ) H → va_S (fun q : Nat => s.heap.size ≤ q) s.heap H locs → lv_has ls 11 [(0, .ref b), (1, .ref (ad 6 9 0))] → W p l e room_1 s m #[Value.ref b] below meth c H locs 126 1590 (lw_Z below #[Value.ref b] s) (F0 m 28 ls []) := by
  have hx := X.1
  have hb := X.2.1
  have hI := X.2.2.2.2.2.2.2.2.2
  intro σ H locs ls hf hP hS hl
  rw [fx_L_law_J28] at hf
  refine lv_iconst (v := (0 : Int32)) hx hb dL_law_28 (by decide) ?_
  exact cx_L_law_J29 lo hlo rv σ1 hL C0 hsub X (0 : Int32) σ H locs ls hf hP hS (lv_sub hl [0, 1] rfl)
def fx_L_law (lo : Int32 → Int32) (σ : mm_M) : mm_R := mm_bd (fx_L_holds  σ) fun r_1 s_1 => (if r_1 = (0 : Int32) then fx_L_law_J28 lo s_1 else mm_bd (fx_X10_undo  s_1) fun r_3 s_3 => (if r_3 = (-1000002 : Int32) then fx_L_law_J29 lo (1 : Int32) s_3 else fx_L_law_J28 lo s_3))
set_option maxHeartbeats 4000000 in
set_option maxRecDepth 100000 in
theorem cx_L_law {p : Program} {l : Launch} {e : Env} {s : State} {m : MethodId} {below : List Frame} {meth : Method} {c : Code} {b L : Nat} {xs : Nat → Int32} {D : va_G} {ad : mm_A} {cA : Nat → ClassId} (lo : Int32 → Int32) (hlo : lo = ml_lo xs L) (rv : Int32) (σ1 : mm_M) (hL : L ≤ 260) (C0 : lw_At p s m meth c b L xs) (hsub : ∀ q, mm_AS ad q → s.heap.size ≤ q) (X : mm_X p s m #[Value.ref b] meth c cL_law 11 ret RL D ad cA) : ∀ (σ : mm_M) (H : Heap) (locs : List Loc) (ls : Array Slot), fx_L_law lo  σ = some (rv, σ1) → va_P D vwCl (mm_wd ad cA σ) H → va_S (fun q : Nat => s.heap.size ≤ q) s.heap H locs → lv_has ls 11 [(1, .ref (ad 6 9 0)), (0, .ref b)] → W p l e room_1 s m #[Value.ref b] below meth c H locs 126 1590 (lw_Z below #[Value.ref b] s) (F0 m 8 ls []) := by
  have hx := X.1
  have hb := X.2.1
  have hI := X.2.2.2.2.2.2.2.2.2
  intro σ H locs ls hf hP hS hl
  rw [fx_L_law] at hf
  refine lv_aload_n hx hb dL_law_8 rfl (lv_at hl 0 rfl) ?_
  obtain ⟨r_1, s_1, e_1, hf⟩ := mm_bd_ok hf
  refine ml_callS X hP hS hsub hl.1 [.ref (ad 6 9 0)] [] (cx_L_holds l D ad cA hI  σ r_1 s_1 e_1) wd_430 wd_431 wd_0 wd_432 hd_L_holds ⟨Nat.le_of_ble_eq_true rfl, Nat.le_of_ble_eq_true rfl⟩ rfl (Nat.le_of_ble_eq_true rfl) dL_law_9 ⟨Nat.le_refl _, Nat.le_refl _⟩ (fun H locs hP hS => ?_)
  refine lv_if_eq (tgt := 28) hx hb dL_law_12 (by decide) (fun c_2 => ?_) (fun c_2 => ?_)
  · replace hf := mm_it c_2 hf
    exact cx_L_law_J28 lo hlo rv σ1 hL C0 hsub X s_1 H locs ls hf hP hS (lv_sub hl [1, 0] rfl)
  · replace hf := mm_if c_2 hf
    refine lv_aload_n hx hb dL_law_15 rfl (lv_at hl 0 rfl) ?_
    obtain ⟨r_3, s_3, e_3, hf⟩ := mm_bd_ok hf
    refine ml_callV X hP hS hsub hl.1 [] [] (cx_X10_undo l D ad cA hI  s_1 r_3 s_3 e_3) kp_9 rfl rfl wd_319 wd_320 wd_321 wd_1 wd_322 hd_X10_undo ⟨Nat.le_of_ble_eq_true rfl, Nat.le_of_ble_eq_true rfl⟩ rfl (Nat.le_of_ble_eq_true rfl) dL_law_16 ⟨Nat.le_refl _, Nat.le_refl _⟩ (fun H locs hP hS => ?_)
    refine lv_ldc (v := (-1000002 : Int32)) hx hb X.2.2.2.2.2.1 (X.2.2.2.2.2.2.1 _ wd_481) dL_law_19 ?_
    refine lv_icmp_ne (tgt := 28) hx hb dL_law_21 (by decide) (fun c_4 => ?_) (fun c_4 => ?_)
    · replace hf := mm_if c_4 hf
      exact cx_L_law_J28 lo hlo rv σ1 hL C0 hsub X s_3 H locs ls hf hP hS (lv_sub hl [1, 0] rfl)
    · replace hf := mm_it c_4 hf
      refine lv_iconst (v := (1 : Int32)) hx hb dL_law_24 (by decide) ?_
      refine lv_goto (tgt := 29) hx hb dL_law_25 (by decide) ?_
      exact cx_L_law_J29 lo hlo rv σ1 hL C0 hsub X (1 : Int32) s_3 H locs ls hf hP hS (lv_sub hl [1, 0] rfl)
