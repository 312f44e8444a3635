theorem hdl_X10_best : yX10_best.cls = RX10 ∧ yX10_best.cls ≠ "java/lang/invoke/MethodHandle" ∧ yX10_best.cls ≠ "java/lang/invoke/VarHandle" ∧ (parseMethodDescriptor yX10_best.desc).map (fun d => d.parameters.length) = some 3 := by decide +kernel
theorem hdl_X10_card : yX10_card.cls = RX10 ∧ yX10_card.cls ≠ "java/lang/invoke/MethodHandle" ∧ yX10_card.cls ≠ "java/lang/invoke/VarHandle" ∧ (parseMethodDescriptor yX10_card.desc).map (fun d => d.parameters.length) = some 4 := by decide +kernel
theorem hdl_X10_cardOf : yX10_cardOf.cls = RX10 ∧ yX10_cardOf.cls ≠ "java/lang/invoke/MethodHandle" ∧ yX10_cardOf.cls ≠ "java/lang/invoke/VarHandle" ∧ (parseMethodDescriptor yX10_cardOf.desc).map (fun d => d.parameters.length) = some 3 := by decide +kernel
theorem hdl_X10_cart : yX10_cart.cls = RX10 ∧ yX10_cart.cls ≠ "java/lang/invoke/MethodHandle" ∧ yX10_cart.cls ≠ "java/lang/invoke/VarHandle" ∧ (parseMethodDescriptor yX10_cart.desc).map (fun d => d.parameters.length) = some 2 := by decide +kernel
theorem hdl_X10_cartOf : yX10_cartOf.cls = RX10 ∧ yX10_cartOf.cls ≠ "java/lang/invoke/MethodHandle" ∧ yX10_cartOf.cls ≠ "java/lang/invoke/VarHandle" ∧ (parseMethodDescriptor yX10_cartOf.desc).map (fun d => d.parameters.length) = some 2 := by decide +kernel
theorem hdl_X10_cellOf : yX10_cellOf.cls = RX10 ∧ yX10_cellOf.cls ≠ "java/lang/invoke/MethodHandle" ∧ yX10_cellOf.cls ≠ "java/lang/invoke/VarHandle" ∧ (parseMethodDescriptor yX10_cellOf.desc).map (fun d => d.parameters.length) = some 2 := by decide +kernel
theorem hdl_X10_clearText : yX10_clearText.cls = RX10 ∧ yX10_clearText.cls ≠ "java/lang/invoke/MethodHandle" ∧ yX10_clearText.cls ≠ "java/lang/invoke/VarHandle" ∧ (parseMethodDescriptor yX10_clearText.desc).map (fun d => d.parameters.length) = some 0 := by decide +kernel
theorem hdl_X10_count : yX10_count.cls = RX10 ∧ yX10_count.cls ≠ "java/lang/invoke/MethodHandle" ∧ yX10_count.cls ≠ "java/lang/invoke/VarHandle" ∧ (parseMethodDescriptor yX10_count.desc).map (fun d => d.parameters.length) = some 1 := by decide +kernel
theorem hdl_X10_damage : yX10_damage.cls = RX10 ∧ yX10_damage.cls ≠ "java/lang/invoke/MethodHandle" ∧ yX10_damage.cls ≠ "java/lang/invoke/VarHandle" ∧ (parseMethodDescriptor yX10_damage.desc).map (fun d => d.parameters.length) = some 2 := by decide +kernel
theorem hdl_X10_fault : yX10_fault.cls = RX10 ∧ yX10_fault.cls ≠ "java/lang/invoke/MethodHandle" ∧ yX10_fault.cls ≠ "java/lang/invoke/VarHandle" ∧ (parseMethodDescriptor yX10_fault.desc).map (fun d => d.parameters.length) = some 1 := by decide +kernel
theorem hdl_X10_flag : yX10_flag.cls = RX10 ∧ yX10_flag.cls ≠ "java/lang/invoke/MethodHandle" ∧ yX10_flag.cls ≠ "java/lang/invoke/VarHandle" ∧ (parseMethodDescriptor yX10_flag.desc).map (fun d => d.parameters.length) = some 2 := by decide +kernel
theorem hdl_X10_kind : yX10_kind.cls = RX10 ∧ yX10_kind.cls ≠ "java/lang/invoke/MethodHandle" ∧ yX10_kind.cls ≠ "java/lang/invoke/VarHandle" ∧ (parseMethodDescriptor yX10_kind.desc).map (fun d => d.parameters.length) = some 2 := by decide +kernel
theorem hdl_X10_phase : yX10_phase.cls = RX10 ∧ yX10_phase.cls ≠ "java/lang/invoke/MethodHandle" ∧ yX10_phase.cls ≠ "java/lang/invoke/VarHandle" ∧ (parseMethodDescriptor yX10_phase.desc).map (fun d => d.parameters.length) = some 0 := by decide +kernel
theorem hdl_X10_play : yX10_play.cls = RX10 ∧ yX10_play.cls ≠ "java/lang/invoke/MethodHandle" ∧ yX10_play.cls ≠ "java/lang/invoke/VarHandle" ∧ (parseMethodDescriptor yX10_play.desc).map (fun d => d.parameters.length) = some 0 := by decide +kernel
theorem hdl_X10_round : yX10_round.cls = RX10 ∧ yX10_round.cls ≠ "java/lang/invoke/MethodHandle" ∧ yX10_round.cls ≠ "java/lang/invoke/VarHandle" ∧ (parseMethodDescriptor yX10_round.desc).map (fun d => d.parameters.length) = some 0 := by decide +kernel
theorem hdl_X10_steps : yX10_steps.cls = RX10 ∧ yX10_steps.cls ≠ "java/lang/invoke/MethodHandle" ∧ yX10_steps.cls ≠ "java/lang/invoke/VarHandle" ∧ (parseMethodDescriptor yX10_steps.desc).map (fun d => d.parameters.length) = some 2 := by decide +kernel
theorem hdl_X10_turn : yX10_turn.cls = RX10 ∧ yX10_turn.cls ≠ "java/lang/invoke/MethodHandle" ∧ yX10_turn.cls ≠ "java/lang/invoke/VarHandle" ∧ (parseMethodDescriptor yX10_turn.desc).map (fun d => d.parameters.length) = some 1 := by decide +kernel
theorem hdl_X10_type : yX10_type.cls = RX10 ∧ yX10_type.cls ≠ "java/lang/invoke/MethodHandle" ∧ yX10_type.cls ≠ "java/lang/invoke/VarHandle" ∧ (parseMethodDescriptor yX10_type.desc).map (fun d => d.parameters.length) = some 1 := by decide +kernel
theorem hdl_X10_undo : yX10_undo.cls = RX10 ∧ yX10_undo.cls ≠ "java/lang/invoke/MethodHandle" ∧ yX10_undo.cls ≠ "java/lang/invoke/VarHandle" ∧ (parseMethodDescriptor yX10_undo.desc).map (fun d => d.parameters.length) = some 0 := by decide +kernel
theorem hdl_X10_wall : yX10_wall.cls = RX10 ∧ yX10_wall.cls ≠ "java/lang/invoke/MethodHandle" ∧ yX10_wall.cls ≠ "java/lang/invoke/VarHandle" ∧ (parseMethodDescriptor yX10_wall.desc).map (fun d => d.parameters.length) = some 2 := by decide +kernel
theorem hdl_X10_would : yX10_would.cls = RX10 ∧ yX10_would.cls ≠ "java/lang/invoke/MethodHandle" ∧ yX10_would.cls ≠ "java/lang/invoke/VarHandle" ∧ (parseMethodDescriptor yX10_would.desc).map (fun d => d.parameters.length) = some 3 := by decide +kernel
theorem hdl_X11_best : yX11_best.cls = RX11 ∧ yX11_best.cls ≠ "java/lang/invoke/MethodHandle" ∧ yX11_best.cls ≠ "java/lang/invoke/VarHandle" ∧ (parseMethodDescriptor yX11_best.desc).map (fun d => d.parameters.length) = some 3 := by decide +kernel
theorem hdl_X11_card : yX11_card.cls = RX11 ∧ yX11_card.cls ≠ "java/lang/invoke/MethodHandle" ∧ yX11_card.cls ≠ "java/lang/invoke/VarHandle" ∧ (parseMethodDescriptor yX11_card.desc).map (fun d => d.parameters.length) = some 4 := by decide +kernel
theorem hdl_X11_cardOf : yX11_cardOf.cls = RX11 ∧ yX11_cardOf.cls ≠ "java/lang/invoke/MethodHandle" ∧ yX11_cardOf.cls ≠ "java/lang/invoke/VarHandle" ∧ (parseMethodDescriptor yX11_cardOf.desc).map (fun d => d.parameters.length) = some 3 := by decide +kernel
theorem hdl_X11_cart : yX11_cart.cls = RX11 ∧ yX11_cart.cls ≠ "java/lang/invoke/MethodHandle" ∧ yX11_cart.cls ≠ "java/lang/invoke/VarHandle" ∧ (parseMethodDescriptor yX11_cart.desc).map (fun d => d.parameters.length) = some 2 := by decide +kernel
theorem hdl_X11_cartOf : yX11_cartOf.cls = RX11 ∧ yX11_cartOf.cls ≠ "java/lang/invoke/MethodHandle" ∧ yX11_cartOf.cls ≠ "java/lang/invoke/VarHandle" ∧ (parseMethodDescriptor yX11_cartOf.desc).map (fun d => d.parameters.length) = some 2 := by decide +kernel
theorem hdl_X11_cellOf : yX11_cellOf.cls = RX11 ∧ yX11_cellOf.cls ≠ "java/lang/invoke/MethodHandle" ∧ yX11_cellOf.cls ≠ "java/lang/invoke/VarHandle" ∧ (parseMethodDescriptor yX11_cellOf.desc).map (fun d => d.parameters.length) = some 2 := by decide +kernel
theorem hdl_X11_clearText : yX11_clearText.cls = RX11 ∧ yX11_clearText.cls ≠ "java/lang/invoke/MethodHandle" ∧ yX11_clearText.cls ≠ "java/lang/invoke/VarHandle" ∧ (parseMethodDescriptor yX11_clearText.desc).map (fun d => d.parameters.length) = some 0 := by decide +kernel
theorem hdl_X11_count : yX11_count.cls = RX11 ∧ yX11_count.cls ≠ "java/lang/invoke/MethodHandle" ∧ yX11_count.cls ≠ "java/lang/invoke/VarHandle" ∧ (parseMethodDescriptor yX11_count.desc).map (fun d => d.parameters.length) = some 1 := by decide +kernel
theorem hdl_X11_damage : yX11_damage.cls = RX11 ∧ yX11_damage.cls ≠ "java/lang/invoke/MethodHandle" ∧ yX11_damage.cls ≠ "java/lang/invoke/VarHandle" ∧ (parseMethodDescriptor yX11_damage.desc).map (fun d => d.parameters.length) = some 2 := by decide +kernel
theorem hdl_X11_fault : yX11_fault.cls = RX11 ∧ yX11_fault.cls ≠ "java/lang/invoke/MethodHandle" ∧ yX11_fault.cls ≠ "java/lang/invoke/VarHandle" ∧ (parseMethodDescriptor yX11_fault.desc).map (fun d => d.parameters.length) = some 1 := by decide +kernel
theorem hdl_X11_flag : yX11_flag.cls = RX11 ∧ yX11_flag.cls ≠ "java/lang/invoke/MethodHandle" ∧ yX11_flag.cls ≠ "java/lang/invoke/VarHandle" ∧ (parseMethodDescriptor yX11_flag.desc).map (fun d => d.parameters.length) = some 2 := by decide +kernel
theorem hdl_X11_kind : yX11_kind.cls = RX11 ∧ yX11_kind.cls ≠ "java/lang/invoke/MethodHandle" ∧ yX11_kind.cls ≠ "java/lang/invoke/VarHandle" ∧ (parseMethodDescriptor yX11_kind.desc).map (fun d => d.parameters.length) = some 2 := by decide +kernel
theorem hdl_X11_phase : yX11_phase.cls = RX11 ∧ yX11_phase.cls ≠ "java/lang/invoke/MethodHandle" ∧ yX11_phase.cls ≠ "java/lang/invoke/VarHandle" ∧ (parseMethodDescriptor yX11_phase.desc).map (fun d => d.parameters.length) = some 0 := by decide +kernel
theorem hdl_X11_play : yX11_play.cls = RX11 ∧ yX11_play.cls ≠ "java/lang/invoke/MethodHandle" ∧ yX11_play.cls ≠ "java/lang/invoke/VarHandle" ∧ (parseMethodDescriptor yX11_play.desc).map (fun d => d.parameters.length) = some 0 := by decide +kernel
theorem hdl_X11_round : yX11_round.cls = RX11 ∧ yX11_round.cls ≠ "java/lang/invoke/MethodHandle" ∧ yX11_round.cls ≠ "java/lang/invoke/VarHandle" ∧ (parseMethodDescriptor yX11_round.desc).map (fun d => d.parameters.length) = some 0 := by decide +kernel
theorem hdl_X11_steps : yX11_steps.cls = RX11 ∧ yX11_steps.cls ≠ "java/lang/invoke/MethodHandle" ∧ yX11_steps.cls ≠ "java/lang/invoke/VarHandle" ∧ (parseMethodDescriptor yX11_steps.desc).map (fun d => d.parameters.length) = some 2 := by decide +kernel
theorem hdl_X11_turn : yX11_turn.cls = RX11 ∧ yX11_turn.cls ≠ "java/lang/invoke/MethodHandle" ∧ yX11_turn.cls ≠ "java/lang/invoke/VarHandle" ∧ (parseMethodDescriptor yX11_turn.desc).map (fun d => d.parameters.length) = some 1 := by decide +kernel
theorem hdl_X11_type : yX11_type.cls = RX11 ∧ yX11_type.cls ≠ "java/lang/invoke/MethodHandle" ∧ yX11_type.cls ≠ "java/lang/invoke/VarHandle" ∧ (parseMethodDescriptor yX11_type.desc).map (fun d => d.parameters.length) = some 1 := by decide +kernel
theorem hdl_X11_undo : yX11_undo.cls = RX11 ∧ yX11_undo.cls ≠ "java/lang/invoke/MethodHandle" ∧ yX11_undo.cls ≠ "java/lang/invoke/VarHandle" ∧ (parseMethodDescriptor yX11_undo.desc).map (fun d => d.parameters.length) = some 0 := by decide +kernel
theorem hdl_X11_wall : yX11_wall.cls = RX11 ∧ yX11_wall.cls ≠ "java/lang/invoke/MethodHandle" ∧ yX11_wall.cls ≠ "java/lang/invoke/VarHandle" ∧ (parseMethodDescriptor yX11_wall.desc).map (fun d => d.parameters.length) = some 2 := by decide +kernel
theorem hdl_X11_would : yX11_would.cls = RX11 ∧ yX11_would.cls ≠ "java/lang/invoke/MethodHandle" ∧ yX11_would.cls ≠ "java/lang/invoke/VarHandle" ∧ (parseMethodDescriptor yX11_would.desc).map (fun d => d.parameters.length) = some 3 := by decide +kernel
theorem ml_end {k L : Nat} (h : L + 1 ≤ 5 * k) (hL : L ≤ 2560) (h2 : 5 * k ≤ L + 5) : Int32.ofNat L - 5 < nI (5 * k) := by
  rw [Int32.lt_iff_toInt_lt]
  have e1 : (Int32.ofNat L - 5).toInt = (L : Int) - 5 := by
    have := pk_sub_toInt (a := L) (b := 5) (by omega) (by omega)
    exact this
  rw [e1, nI_toInt (by omega)]
  omega
theorem ml_in {k L : Nat} (h : ¬ Int32.ofNat L - 5 < nI (5 * k)) (hL : L ≤ 2560) (h2 : 5 * k ≤ L + 5) : 5 * k + 5 ≤ L := by
  rw [Int32.lt_iff_toInt_lt] at h
  have e1 : (Int32.ofNat L - 5).toInt = (L : Int) - 5 := by
    have := pk_sub_toInt (a := L) (b := 5) (by omega) (by omega)
    exact this
  rw [e1, nI_toInt (by omega)] at h
  omega
theorem mm_tabIn0 {p : Program} {l : Launch} {e : Env} {R : Room} {s : State} {m : MethodId} {args : Array Value} {below : List Frame} {meth : Method} {c : Code} {H : Heap} {locs : List Loc} {cells slots : Nat} {Q : State → Prop} {cc : ByteArray} {nL : Nat} {ret : Option FieldType} {own : String} {D : va_G} {ad : mm_A} {cA : Nat → ClassId} {pc : Nat} {ls : Array Slot} {rest : List Value} {dflt lo hi : Int} {offs : Array Int} {len : Nat} {x : Int32} {off : Int} {tgt : Nat} (X : mm_X p s m args meth c cc nL ret own D ad cA) (k : Int32) (hx : x = k) (hdg : decode cc pc = .ok (.tableswitch dflt lo hi offs, len)) (h : (decide (lo ≤ k.toInt) && decide (k.toInt ≤ hi)) = true) (ho : offs[(k.toInt - lo).toNat]? = some off) (ht : (pc : Int) + off = (tgt : Int))
    (kk : W p l e R s m args below meth c H locs cells slots Q (F0 m tgt ls rest)) : W p l e R s m args below meth c H locs cells slots Q (F0 m pc ls (.int x :: rest)) := by
  subst hx
  simp only [Bool.and_eq_true, decide_eq_true_eq] at h
  exact lv_tableIn X.1 X.2.1 hdg (Int.not_lt.mpr h.1) (Int.not_lt.mpr h.2) ho ht kk
/-- what the pure part owes: each call of the law, on both sides -/
def ml_Step (J : Nat → mm_M → Prop) : Prop := (∀ (k : Nat) (σ : mm_M), J k σ → J (k + 1) σ) ∧ ∀ (k : Nat) (σ : mm_M), k < 512 → J k σ → ∀ (a b c d : Int32), (∃ (v : Int32) (σ1 σ2 : mm_M), fx_X10_kind a b σ = some (v, σ1) ∧ fx_X11_kind a b σ1 = some (v, σ2) ∧ J (k + 1) σ2) ∧ (∃ (v : Int32) (σ1 σ2 : mm_M), fx_X10_wall a b σ = some (v, σ1) ∧ fx_X11_wall a b σ1 = some (v, σ2) ∧ J (k + 1) σ2) ∧ (∃ (v : Int32) (σ1 σ2 : mm_M), fx_X10_flag a b σ = some (v, σ1) ∧ fx_X11_flag a b σ1 = some (v, σ2) ∧ J (k + 1) σ2) ∧ (∃ (v : Int32) (σ1 σ2 : mm_M), fx_X10_cart a b σ = some (v, σ1) ∧ fx_X11_cart a b σ1 = some (v, σ2) ∧ J (k + 1) σ2) ∧ (∃ (v : Int32) (σ1 σ2 : mm_M), fx_X10_card a b c d σ = some (v, σ1) ∧ fx_X11_card a b c d σ1 = some (v, σ2) ∧ J (k + 1) σ2) ∧ (∃ (v : Int32) (σ1 σ2 : mm_M), fx_X10_damage a b σ = some (v, σ1) ∧ fx_X11_damage a b σ1 = some (v, σ2) ∧ J (k + 1) σ2) ∧ (∃ (v : Int32) (σ1 σ2 : mm_M), fx_X10_phase σ = some (v, σ1) ∧ fx_X11_phase σ1 = some (v, σ2) ∧ J (k + 1) σ2) ∧ (∃ (v : Int32) (σ1 σ2 : mm_M), fx_X10_round σ = some (v, σ1) ∧ fx_X11_round σ1 = some (v, σ2) ∧ J (k + 1) σ2) ∧ (∃ (v : Int32) (σ1 σ2 : mm_M), fx_X10_cellOf a b σ = some (v, σ1) ∧ fx_X11_cellOf a b σ1 = some (v, σ2) ∧ J (k + 1) σ2) ∧ (∃ (v : Int32) (σ1 σ2 : mm_M), fx_X10_cartOf a b σ = some (v, σ1) ∧ fx_X11_cartOf a b σ1 = some (v, σ2) ∧ J (k + 1) σ2) ∧ (∃ (v : Int32) (σ1 σ2 : mm_M), fx_X10_cardOf a b c σ = some (v, σ1) ∧ fx_X11_cardOf a b c σ1 = some (v, σ2) ∧ J (k + 1) σ2) ∧ (∃ (v : Int32) (σ1 σ2 : mm_M), fx_X10_turn a σ = some (v, σ1) ∧ fx_X11_turn a σ1 = some (v, σ2) ∧ J (k + 1) σ2) ∧ (∃ (v : Int32) (σ1 σ2 : mm_M), fx_X10_would a b c σ = some (v, σ1) ∧ fx_X11_would a b c σ1 = some (v, σ2) ∧ J (k + 1) σ2) ∧ (∃ (v : Int32) (σ1 σ2 : mm_M), fx_X10_best a b c σ = some (v, σ1) ∧ fx_X11_best a b c σ1 = some (v, σ2) ∧ J (k + 1) σ2) ∧ (∃ (v : Int32) (σ1 σ2 : mm_M), fx_X10_steps a b σ = some (v, σ1) ∧ fx_X11_steps a b σ1 = some (v, σ2) ∧ J (k + 1) σ2) ∧ (∃ (v : Int32) (σ1 σ2 : mm_M), fx_X10_count a σ = some (v, σ1) ∧ fx_X11_count a σ1 = some (v, σ2) ∧ J (k + 1) σ2) ∧ (∃ (v : Int32) (σ1 σ2 : mm_M), fx_X10_undo σ = some (v, σ1) ∧ fx_X11_undo σ1 = some (v, σ2) ∧ J (k + 1) σ2) ∧ (∃ (v : Int32) (σ1 σ2 : mm_M), fx_X10_type a σ = some (v, σ1) ∧ fx_X11_type a σ1 = some (v, σ2) ∧ J (k + 1) σ2) ∧ (∃ (v : Int32) (σ1 σ2 : mm_M), fx_X10_clearText σ = some (v, σ1) ∧ fx_X11_clearText σ1 = some (v, σ2) ∧ J (k + 1) σ2) ∧ (∃ (v : Int32) (σ1 σ2 : mm_M), fx_X10_fault a σ = some (v, σ1) ∧ fx_X11_fault a σ1 = some (v, σ2) ∧ J (k + 1) σ2) ∧ (∃ (v : Int32) (σ1 σ2 : mm_M), fx_X10_play σ = some (v, σ1) ∧ fx_X11_play σ1 = some (v, σ2) ∧ J (k + 1) σ2)
set_option maxHeartbeats 4000000 in
set_option maxRecDepth 100000 in
theorem law_loop {p : Program} {l : Launch} {e : Env} {s : State} {m : MethodId} {below : List Frame} {meth : Method} {c : Code} {b L : Nat} {xs : Nat → Int32} {D : va_G} {cA : Nat → ClassId} (hL : L ≤ 2560) (C0 : lw_At p s m meth c b L xs) (X : mm_X p s m #[Value.ref b] meth c cL_law 4 ret RL D (m_ad s.heap.size) cA) (J : Nat → mm_M → Prop) (hJ : ml_Step J) :
    ∀ (n k : Nat) (x3 : Int32) (σ : mm_M) (H : Heap) (locs : List Loc) (ls : Array Slot), L + 1 ≤ 5 * k + n → 5 * k ≤ L + 5 → x3 = nI (5 * k) → J k σ → va_P D vwCl (mm_wd (m_ad s.heap.size) cA σ) H → va_S (fun q : Nat => s.heap.size ≤ q) s.heap H locs → lv_has ls 4 [(3, .int x3), (0, .ref b), (1, .ref (m_ad s.heap.size 6 9 0)), (2, .ref (m_ad s.heap.size 10 30 0))] → W p l e room_1 s m #[Value.ref b] below meth c H locs 138 3202 (lw_Z below #[Value.ref b] s) (F0 m 18 ls []) := by
  obtain ⟨hx, hb, hr, hml, hown, hts, hX, hbl, hlocks, hgv⟩ := C0
  have hb : c.code = cL_law := hb
  have hI := X.2.2.2.2.2.2.2.2.2
  have hbA : ¬ (fun q : Nat => s.heap.size ≤ q) b := Nat.not_le.mpr hbl
  have hsub : ∀ q, mm_AS (m_ad s.heap.size) q → (fun q : Nat => s.heap.size ≤ q) q := fun q h => m_AS h
  intro n
  induction n with
  | zero =>
    intro k x3 σ H locs ls h1 h2 ex hJk hP hS hl
    refine lv_iload_n hx hb dL_law_18 rfl (lv_at hl 0 rfl) ?_
    refine lv_aload_n hx hb dL_law_19 rfl (lv_at hl 1 rfl) ?_
    refine va_slen hx hb hX hbl hbA hS dL_law_20 ?_
    refine lv_iconst (v := 5) hx hb dL_law_21 (by decide) ?_
    refine lv_isub hx hb dL_law_22 ?_
    refine lv_icmp_gt (tgt := 741) hx hb dL_law_23 (by decide) (fun c_1 => ?_) (fun c_1 => ?_)
    · refine lv_iconst (v := 1) hx hb dL_law_741 (by decide) ?_
      refine va_forget (fun q hq => hS.2.2 q hq) ?_
      exact lw_ret hx hb hr hlocks dL_law_742
    · exact absurd (by rw [ex]; exact ml_end (by omega) hL (by omega)) c_1
  | succ n ih =>
    intro k x3 σ H locs ls h1 h2 ex hJk hP hS hl
    refine lv_iload_n hx hb dL_law_18 rfl (lv_at hl 0 rfl) ?_
    refine lv_aload_n hx hb dL_law_19 rfl (lv_at hl 1 rfl) ?_
    refine va_slen hx hb hX hbl hbA hS dL_law_20 ?_
    refine lv_iconst (v := 5) hx hb dL_law_21 (by decide) ?_
    refine lv_isub hx hb dL_law_22 ?_
    refine lv_icmp_gt (tgt := 741) hx hb dL_law_23 (by decide) (fun c_1 => ?_) (fun c_1 => ?_)
    · refine lv_iconst (v := 1) hx hb dL_law_741 (by decide) ?_
      refine va_forget (fun q hq => hS.2.2 q hq) ?_
      exact lw_ret hx hb hr hlocks dL_law_742
    have h5 : 5 * k + 5 ≤ L := ml_in (by rw [ex] at c_1; exact c_1) hL h2
    have i0 : vp_in x3 L := by rw [ex]; exact vp_in_nI (by omega) (by omega)
    have i1 : vp_in (x3 + (1 : Int32)) L := by rw [ex, show (1 : Int32) = nI 1 from rfl, nI_add]; exact vp_in_nI (by omega) (by omega)
    have i2 : vp_in (x3 + (2 : Int32)) L := by rw [ex, show (2 : Int32) = nI 2 from rfl, nI_add]; exact vp_in_nI (by omega) (by omega)
    have i3 : vp_in (x3 + (3 : Int32)) L := by rw [ex, show (3 : Int32) = nI 3 from rfl, nI_add]; exact vp_in_nI (by omega) (by omega)
    have i4 : vp_in (x3 + (4 : Int32)) L := by rw [ex, show (4 : Int32) = nI 4 from rfl, nI_add]; exact vp_in_nI (by omega) (by omega)
    have hk5 : k < 512 := by omega
    have hall := hJ.2 k σ hk5 hJk (xs (x3 + (1 : Int32)).toNatClampNeg) (xs (x3 + (2 : Int32)).toNatClampNeg) (xs (x3 + (3 : Int32)).toNatClampNeg) (xs (x3 + (4 : Int32)).toNatClampNeg)
    have hnext : ∀ (σ : mm_M) (H : Heap) (locs : List Loc) (ls : Array Slot), J (k + 1) σ → va_P D vwCl (mm_wd (m_ad s.heap.size) cA σ) H → va_S (fun q : Nat => s.heap.size ≤ q) s.heap H locs → lv_has ls 4 [(3, .int x3), (0, .ref b), (1, .ref (m_ad s.heap.size 6 9 0)), (2, .ref (m_ad s.heap.size 10 30 0))] → W p l e room_1 s m #[Value.ref b] below meth c H locs 138 3202 (lw_Z below #[Value.ref b] s) (F0 m 735 ls []) := by
      intro σ H locs ls hJk hP hS hl
      obtain ⟨y3, ey⟩ : ∃ y : Int32, y = x3 + (5 : Int32) := ⟨_, rfl⟩
      refine lv_iinc (v := y3) (lv' := [(3, .int y3), (0, .ref b), (1, .ref (m_ad s.heap.size 6 9 0)), (2, .ref (m_ad s.heap.size 10 30 0))]) hx hb dL_law_735 hl (k := 0) rfl (by rw [ey]; rfl) (by decide) rfl (fun ls hl => ?_)
      refine lv_goto (tgt := 18) hx hb dL_law_738 (by decide) ?_
      exact ih (k + 1) y3 σ H locs ls (by omega) (by omega) (by rw [ey, ex, show (5 : Int32) = nI 5 from rfl, nI_add]; congr 1) hJk hP hS hl
    refine lv_aload_n hx hb dL_law_26 rfl (lv_at hl 1 rfl) ?_
    refine lv_iload_n hx hb dL_law_27 rfl (lv_at hl 0 rfl) ?_
    refine va_sld hx hb hX hbl hbA hS i0 dL_law_28 ?_
    refine lv_bipush (v := (31 : Int32)) hx hb dL_law_29 (by decide) ?_
    refine lv_iand hx hb dL_law_31 ?_
    generalize xs x3.toNatClampNeg &&& (31 : Int32) = w
    by_cases c_10 : w = (0 : Int32)
    · refine mm_tabIn0 (off := 100) (tgt := 132) X (0 : Int32) c_10 dL_law_32 (by decide +kernel) (by decide +kernel) (by decide) ?_
      obtain ⟨v, σ1, σ2, e1, e2, hJ2⟩ := hall.1
      refine lv_aload_n hx hb dL_law_132 rfl (lv_at hl 2 rfl) ?_
      refine lv_aload_n hx hb dL_law_133 rfl (lv_at hl 1 rfl) ?_
      refine lv_iload_n hx hb dL_law_134 rfl (lv_at hl 0 rfl) ?_
      refine lv_iconst (v := (1 : Int32)) hx hb dL_law_135 (by decide) ?_
      refine lv_iadd hx hb dL_law_136 ?_
      refine va_sld hx hb hX hbl hbA hS i1 dL_law_137 ?_
      refine lv_aload_n hx hb dL_law_138 rfl (lv_at hl 1 rfl) ?_
      refine lv_iload_n hx hb dL_law_139 rfl (lv_at hl 0 rfl) ?_
      refine lv_iconst (v := (2 : Int32)) hx hb dL_law_140 (by decide) ?_
      refine lv_iadd hx hb dL_law_141 ?_
      refine va_sld hx hb hX hbl hbA hS i2 dL_law_142 ?_
      refine ml_callV X hP hS hsub hl.1 [.int (xs (x3 + (1 : Int32)).toNatClampNeg), .int (xs (x3 + (2 : Int32)).toNatClampNeg)] [] (cx_X10_kind l D (m_ad s.heap.size) cA hI ((xs (x3 + (1 : Int32)).toNatClampNeg)) ((xs (x3 + (2 : Int32)).toNatClampNeg)) σ v σ1 e1) kp_9 rfl rfl wd_306 wd_307 wd_308 wd_1 wd_309 hdl_X10_kind ⟨Nat.le_of_ble_eq_true rfl, Nat.le_of_ble_eq_true rfl⟩ rfl (Nat.le_of_ble_eq_true rfl) dL_law_143 ⟨Nat.le_refl _, Nat.le_refl _⟩ (fun H locs hP hS => ?_)
      refine lv_aload_n hx hb dL_law_146 rfl (lv_at hl 3 rfl) ?_
      refine lv_aload_n hx hb dL_law_147 rfl (lv_at hl 1 rfl) ?_
      refine lv_iload_n hx hb dL_law_148 rfl (lv_at hl 0 rfl) ?_
      refine lv_iconst (v := (1 : Int32)) hx hb dL_law_149 (by decide) ?_
      refine lv_iadd hx hb dL_law_150 ?_
      refine va_sld hx hb hX hbl hbA hS i1 dL_law_151 ?_
      refine lv_aload_n hx hb dL_law_152 rfl (lv_at hl 1 rfl) ?_
      refine lv_iload_n hx hb dL_law_153 rfl (lv_at hl 0 rfl) ?_
      refine lv_iconst (v := (2 : Int32)) hx hb dL_law_154 (by decide) ?_
      refine lv_iadd hx hb dL_law_155 ?_
      refine va_sld hx hb hX hbl hbA hS i2 dL_law_156 ?_
      refine ml_callV X hP hS hsub hl.1 [.int (xs (x3 + (1 : Int32)).toNatClampNeg), .int (xs (x3 + (2 : Int32)).toNatClampNeg)] [.int v] (cx_X11_kind l D (m_ad s.heap.size) cA hI ((xs (x3 + (1 : Int32)).toNatClampNeg)) ((xs (x3 + (2 : Int32)).toNatClampNeg)) σ1 v σ2 e2) kp_30 rfl rfl wd_827 wd_828 wd_829 wd_12 wd_830 hdl_X11_kind ⟨Nat.le_of_ble_eq_true rfl, Nat.le_of_ble_eq_true rfl⟩ rfl (Nat.le_of_ble_eq_true rfl) dL_law_157 ⟨Nat.le_refl _, Nat.le_refl _⟩ (fun H locs hP hS => ?_)
      refine lv_icmp_eq (tgt := 735) hx hb dL_law_160 (by decide) (fun c_1 => ?_) (fun c_1 => absurd rfl c_1)
      exact hnext σ2 H locs ls hJ2 hP hS hl
    by_cases c_11 : w = (1 : Int32)
    · refine mm_tabIn0 (off := 133) (tgt := 165) X (1 : Int32) c_11 dL_law_32 (by decide +kernel) (by decide +kernel) (by decide) ?_
      obtain ⟨v, σ1, σ2, e1, e2, hJ2⟩ := hall.2.1
      refine lv_aload_n hx hb dL_law_165 rfl (lv_at hl 2 rfl) ?_
      refine lv_aload_n hx hb dL_law_166 rfl (lv_at hl 1 rfl) ?_
      refine lv_iload_n hx hb dL_law_167 rfl (lv_at hl 0 rfl) ?_
      refine lv_iconst (v := (1 : Int32)) hx hb dL_law_168 (by decide) ?_
      refine lv_iadd hx hb dL_law_169 ?_
      refine va_sld hx hb hX hbl hbA hS i1 dL_law_170 ?_
      refine lv_aload_n hx hb dL_law_171 rfl (lv_at hl 1 rfl) ?_
      refine lv_iload_n hx hb dL_law_172 rfl (lv_at hl 0 rfl) ?_
      refine lv_iconst (v := (2 : Int32)) hx hb dL_law_173 (by decide) ?_
      refine lv_iadd hx hb dL_law_174 ?_
      refine va_sld hx hb hX hbl hbA hS i2 dL_law_175 ?_
      refine ml_callV X hP hS hsub hl.1 [.int (xs (x3 + (1 : Int32)).toNatClampNeg), .int (xs (x3 + (2 : Int32)).toNatClampNeg)] [] (cx_X10_wall l D (m_ad s.heap.size) cA hI ((xs (x3 + (1 : Int32)).toNatClampNeg)) ((xs (x3 + (2 : Int32)).toNatClampNeg)) σ v σ1 e1) kp_9 rfl rfl wd_362 wd_363 wd_364 wd_1 wd_365 hdl_X10_wall ⟨Nat.le_of_ble_eq_true rfl, Nat.le_of_ble_eq_true rfl⟩ rfl (Nat.le_of_ble_eq_true rfl) dL_law_176 ⟨Nat.le_refl _, Nat.le_refl _⟩ (fun H locs hP hS => ?_)
      refine lv_aload_n hx hb dL_law_179 rfl (lv_at hl 3 rfl) ?_
      refine lv_aload_n hx hb dL_law_180 rfl (lv_at hl 1 rfl) ?_
      refine lv_iload_n hx hb dL_law_181 rfl (lv_at hl 0 rfl) ?_
      refine lv_iconst (v := (1 : Int32)) hx hb dL_law_182 (by decide) ?_
      refine lv_iadd hx hb dL_law_183 ?_
      refine va_sld hx hb hX hbl hbA hS i1 dL_law_184 ?_
      refine lv_aload_n hx hb dL_law_185 rfl (lv_at hl 1 rfl) ?_
      refine lv_iload_n hx hb dL_law_186 rfl (lv_at hl 0 rfl) ?_
      refine lv_iconst (v := (2 : Int32)) hx hb dL_law_187 (by decide) ?_
      refine lv_iadd hx hb dL_law_188 ?_
      refine va_sld hx hb hX hbl hbA hS i2 dL_law_189 ?_
      refine ml_callV X hP hS hsub hl.1 [.int (xs (x3 + (1 : Int32)).toNatClampNeg), .int (xs (x3 + (2 : Int32)).toNatClampNeg)] [.int v] (cx_X11_wall l D (m_ad s.heap.size) cA hI ((xs (x3 + (1 : Int32)).toNatClampNeg)) ((xs (x3 + (2 : Int32)).toNatClampNeg)) σ1 v σ2 e2) kp_30 rfl rfl wd_863 wd_864 wd_865 wd_12 wd_866 hdl_X11_wall ⟨Nat.le_of_ble_eq_true rfl, Nat.le_of_ble_eq_true rfl⟩ rfl (Nat.le_of_ble_eq_true rfl) dL_law_190 ⟨Nat.le_refl _, Nat.le_refl _⟩ (fun H locs hP hS => ?_)
      refine lv_icmp_eq (tgt := 735) hx hb dL_law_193 (by decide) (fun c_1 => ?_) (fun c_1 => absurd rfl c_1)
      exact hnext σ2 H locs ls hJ2 hP hS hl
    by_cases c_12 : w = (2 : Int32)
    · refine mm_tabIn0 (off := 166) (tgt := 198) X (2 : Int32) c_12 dL_law_32 (by decide +kernel) (by decide +kernel) (by decide) ?_
      obtain ⟨v, σ1, σ2, e1, e2, hJ2⟩ := hall.2.2.1
      refine lv_aload_n hx hb dL_law_198 rfl (lv_at hl 2 rfl) ?_
      refine lv_aload_n hx hb dL_law_199 rfl (lv_at hl 1 rfl) ?_
      refine lv_iload_n hx hb dL_law_200 rfl (lv_at hl 0 rfl) ?_
      refine lv_iconst (v := (1 : Int32)) hx hb dL_law_201 (by decide) ?_
      refine lv_iadd hx hb dL_law_202 ?_
      refine va_sld hx hb hX hbl hbA hS i1 dL_law_203 ?_
      refine lv_aload_n hx hb dL_law_204 rfl (lv_at hl 1 rfl) ?_
      refine lv_iload_n hx hb dL_law_205 rfl (lv_at hl 0 rfl) ?_
      refine lv_iconst (v := (2 : Int32)) hx hb dL_law_206 (by decide) ?_
      refine lv_iadd hx hb dL_law_207 ?_
      refine va_sld hx hb hX hbl hbA hS i2 dL_law_208 ?_
      refine ml_callV X hP hS hsub hl.1 [.int (xs (x3 + (1 : Int32)).toNatClampNeg), .int (xs (x3 + (2 : Int32)).toNatClampNeg)] [] (cx_X10_flag l D (m_ad s.heap.size) cA hI ((xs (x3 + (1 : Int32)).toNatClampNeg)) ((xs (x3 + (2 : Int32)).toNatClampNeg)) σ v σ1 e1) kp_9 rfl rfl wd_391 wd_392 wd_393 wd_1 wd_394 hdl_X10_flag ⟨Nat.le_of_ble_eq_true rfl, Nat.le_of_ble_eq_true rfl⟩ rfl (Nat.le_of_ble_eq_true rfl) dL_law_209 ⟨Nat.le_refl _, Nat.le_refl _⟩ (fun H locs hP hS => ?_)
      refine lv_aload_n hx hb dL_law_212 rfl (lv_at hl 3 rfl) ?_
      refine lv_aload_n hx hb dL_law_213 rfl (lv_at hl 1 rfl) ?_
      refine lv_iload_n hx hb dL_law_214 rfl (lv_at hl 0 rfl) ?_
      refine lv_iconst (v := (1 : Int32)) hx hb dL_law_215 (by decide) ?_
      refine lv_iadd hx hb dL_law_216 ?_
      refine va_sld hx hb hX hbl hbA hS i1 dL_law_217 ?_
      refine lv_aload_n hx hb dL_law_218 rfl (lv_at hl 1 rfl) ?_
      refine lv_iload_n hx hb dL_law_219 rfl (lv_at hl 0 rfl) ?_
      refine lv_iconst (v := (2 : Int32)) hx hb dL_law_220 (by decide) ?_
      refine lv_iadd hx hb dL_law_221 ?_
      refine va_sld hx hb hX hbl hbA hS i2 dL_law_222 ?_
      refine ml_callV X hP hS hsub hl.1 [.int (xs (x3 + (1 : Int32)).toNatClampNeg), .int (xs (x3 + (2 : Int32)).toNatClampNeg)] [.int v] (cx_X11_flag l D (m_ad s.heap.size) cA hI ((xs (x3 + (1 : Int32)).toNatClampNeg)) ((xs (x3 + (2 : Int32)).toNatClampNeg)) σ1 v σ2 e2) kp_30 rfl rfl wd_874 wd_875 wd_876 wd_12 wd_877 hdl_X11_flag ⟨Nat.le_of_ble_eq_true rfl, Nat.le_of_ble_eq_true rfl⟩ rfl (Nat.le_of_ble_eq_true rfl) dL_law_223 ⟨Nat.le_refl _, Nat.le_refl _⟩ (fun H locs hP hS => ?_)
      refine lv_icmp_eq (tgt := 735) hx hb dL_law_226 (by decide) (fun c_1 => ?_) (fun c_1 => absurd rfl c_1)
      exact hnext σ2 H locs ls hJ2 hP hS hl
    by_cases c_13 : w = (3 : Int32)
    · refine mm_tabIn0 (off := 199) (tgt := 231) X (3 : Int32) c_13 dL_law_32 (by decide +kernel) (by decide +kernel) (by decide) ?_
      obtain ⟨v, σ1, σ2, e1, e2, hJ2⟩ := hall.2.2.2.1
      refine lv_aload_n hx hb dL_law_231 rfl (lv_at hl 2 rfl) ?_
      refine lv_aload_n hx hb dL_law_232 rfl (lv_at hl 1 rfl) ?_
      refine lv_iload_n hx hb dL_law_233 rfl (lv_at hl 0 rfl) ?_
      refine lv_iconst (v := (1 : Int32)) hx hb dL_law_234 (by decide) ?_
      refine lv_iadd hx hb dL_law_235 ?_
      refine va_sld hx hb hX hbl hbA hS i1 dL_law_236 ?_
      refine lv_aload_n hx hb dL_law_237 rfl (lv_at hl 1 rfl) ?_
      refine lv_iload_n hx hb dL_law_238 rfl (lv_at hl 0 rfl) ?_
      refine lv_iconst (v := (2 : Int32)) hx hb dL_law_239 (by decide) ?_
      refine lv_iadd hx hb dL_law_240 ?_
      refine va_sld hx hb hX hbl hbA hS i2 dL_law_241 ?_
      refine ml_callV X hP hS hsub hl.1 [.int (xs (x3 + (1 : Int32)).toNatClampNeg), .int (xs (x3 + (2 : Int32)).toNatClampNeg)] [] (cx_X10_cart l D (m_ad s.heap.size) cA hI ((xs (x3 + (1 : Int32)).toNatClampNeg)) ((xs (x3 + (2 : Int32)).toNatClampNeg)) σ v σ1 e1) kp_9 rfl rfl wd_402 wd_403 wd_404 wd_1 wd_405 hdl_X10_cart ⟨Nat.le_of_ble_eq_true rfl, Nat.le_of_ble_eq_true rfl⟩ rfl (Nat.le_of_ble_eq_true rfl) dL_law_242 ⟨Nat.le_refl _, Nat.le_refl _⟩ (fun H locs hP hS => ?_)
      refine lv_aload_n hx hb dL_law_245 rfl (lv_at hl 3 rfl) ?_
      refine lv_aload_n hx hb dL_law_246 rfl (lv_at hl 1 rfl) ?_
      refine lv_iload_n hx hb dL_law_247 rfl (lv_at hl 0 rfl) ?_
      refine lv_iconst (v := (1 : Int32)) hx hb dL_law_248 (by decide) ?_
      refine lv_iadd hx hb dL_law_249 ?_
      refine va_sld hx hb hX hbl hbA hS i1 dL_law_250 ?_
      refine lv_aload_n hx hb dL_law_251 rfl (lv_at hl 1 rfl) ?_
      refine lv_iload_n hx hb dL_law_252 rfl (lv_at hl 0 rfl) ?_
      refine lv_iconst (v := (2 : Int32)) hx hb dL_law_253 (by decide) ?_
      refine lv_iadd hx hb dL_law_254 ?_
      refine va_sld hx hb hX hbl hbA hS i2 dL_law_255 ?_
      refine ml_callV X hP hS hsub hl.1 [.int (xs (x3 + (1 : Int32)).toNatClampNeg), .int (xs (x3 + (2 : Int32)).toNatClampNeg)] [.int v] (cx_X11_cart l D (m_ad s.heap.size) cA hI ((xs (x3 + (1 : Int32)).toNatClampNeg)) ((xs (x3 + (2 : Int32)).toNatClampNeg)) σ1 v σ2 e2) kp_30 rfl rfl wd_878 wd_879 wd_880 wd_12 wd_881 hdl_X11_cart ⟨Nat.le_of_ble_eq_true rfl, Nat.le_of_ble_eq_true rfl⟩ rfl (Nat.le_of_ble_eq_true rfl) dL_law_256 ⟨Nat.le_refl _, Nat.le_refl _⟩ (fun H locs hP hS => ?_)
      refine lv_icmp_eq (tgt := 735) hx hb dL_law_259 (by decide) (fun c_1 => ?_) (fun c_1 => absurd rfl c_1)
      exact hnext σ2 H locs ls hJ2 hP hS hl
    by_cases c_14 : w = (4 : Int32)
    · refine mm_tabIn0 (off := 232) (tgt := 264) X (4 : Int32) c_14 dL_law_32 (by decide +kernel) (by decide +kernel) (by decide) ?_
      obtain ⟨v, σ1, σ2, e1, e2, hJ2⟩ := hall.2.2.2.2.1
      refine lv_aload_n hx hb dL_law_264 rfl (lv_at hl 2 rfl) ?_
      refine lv_aload_n hx hb dL_law_265 rfl (lv_at hl 1 rfl) ?_
      refine lv_iload_n hx hb dL_law_266 rfl (lv_at hl 0 rfl) ?_
      refine lv_iconst (v := (1 : Int32)) hx hb dL_law_267 (by decide) ?_
      refine lv_iadd hx hb dL_law_268 ?_
      refine va_sld hx hb hX hbl hbA hS i1 dL_law_269 ?_
      refine lv_aload_n hx hb dL_law_270 rfl (lv_at hl 1 rfl) ?_
      refine lv_iload_n hx hb dL_law_271 rfl (lv_at hl 0 rfl) ?_
      refine lv_iconst (v := (2 : Int32)) hx hb dL_law_272 (by decide) ?_
      refine lv_iadd hx hb dL_law_273 ?_
      refine va_sld hx hb hX hbl hbA hS i2 dL_law_274 ?_
      refine lv_aload_n hx hb dL_law_275 rfl (lv_at hl 1 rfl) ?_
      refine lv_iload_n hx hb dL_law_276 rfl (lv_at hl 0 rfl) ?_
      refine lv_iconst (v := (3 : Int32)) hx hb dL_law_277 (by decide) ?_
      refine lv_iadd hx hb dL_law_278 ?_
      refine va_sld hx hb hX hbl hbA hS i3 dL_law_279 ?_
      refine lv_aload_n hx hb dL_law_280 rfl (lv_at hl 1 rfl) ?_
      refine lv_iload_n hx hb dL_law_281 rfl (lv_at hl 0 rfl) ?_
      refine lv_iconst (v := (4 : Int32)) hx hb dL_law_282 (by decide) ?_
      refine lv_iadd hx hb dL_law_283 ?_
      refine va_sld hx hb hX hbl hbA hS i4 dL_law_284 ?_
      refine ml_callV X hP hS hsub hl.1 [.int (xs (x3 + (1 : Int32)).toNatClampNeg), .int (xs (x3 + (2 : Int32)).toNatClampNeg), .int (xs (x3 + (3 : Int32)).toNatClampNeg), .int (xs (x3 + (4 : Int32)).toNatClampNeg)] [] (cx_X10_card l D (m_ad s.heap.size) cA hI ((xs (x3 + (1 : Int32)).toNatClampNeg)) ((xs (x3 + (2 : Int32)).toNatClampNeg)) ((xs (x3 + (3 : Int32)).toNatClampNeg)) ((xs (x3 + (4 : Int32)).toNatClampNeg)) σ v σ1 e1) kp_9 rfl rfl wd_419 wd_420 wd_421 wd_1 wd_422 hdl_X10_card ⟨Nat.le_of_ble_eq_true rfl, Nat.le_of_ble_eq_true rfl⟩ rfl (Nat.le_of_ble_eq_true rfl) dL_law_285 ⟨Nat.le_refl _, Nat.le_refl _⟩ (fun H locs hP hS => ?_)
      refine lv_aload_n hx hb dL_law_288 rfl (lv_at hl 3 rfl) ?_
      refine lv_aload_n hx hb dL_law_289 rfl (lv_at hl 1 rfl) ?_
      refine lv_iload_n hx hb dL_law_290 rfl (lv_at hl 0 rfl) ?_
      refine lv_iconst (v := (1 : Int32)) hx hb dL_law_291 (by decide) ?_
      refine lv_iadd hx hb dL_law_292 ?_
      refine va_sld hx hb hX hbl hbA hS i1 dL_law_293 ?_
      refine lv_aload_n hx hb dL_law_294 rfl (lv_at hl 1 rfl) ?_
      refine lv_iload_n hx hb dL_law_295 rfl (lv_at hl 0 rfl) ?_
      refine lv_iconst (v := (2 : Int32)) hx hb dL_law_296 (by decide) ?_
      refine lv_iadd hx hb dL_law_297 ?_
      refine va_sld hx hb hX hbl hbA hS i2 dL_law_298 ?_
      refine lv_aload_n hx hb dL_law_299 rfl (lv_at hl 1 rfl) ?_
      refine lv_iload_n hx hb dL_law_300 rfl (lv_at hl 0 rfl) ?_
      refine lv_iconst (v := (3 : Int32)) hx hb dL_law_301 (by decide) ?_
      refine lv_iadd hx hb dL_law_302 ?_
      refine va_sld hx hb hX hbl hbA hS i3 dL_law_303 ?_
      refine lv_aload_n hx hb dL_law_304 rfl (lv_at hl 1 rfl) ?_
      refine lv_iload_n hx hb dL_law_305 rfl (lv_at hl 0 rfl) ?_
      refine lv_iconst (v := (4 : Int32)) hx hb dL_law_306 (by decide) ?_
      refine lv_iadd hx hb dL_law_307 ?_
      refine va_sld hx hb hX hbl hbA hS i4 dL_law_308 ?_
      refine ml_callV X hP hS hsub hl.1 [.int (xs (x3 + (1 : Int32)).toNatClampNeg), .int (xs (x3 + (2 : Int32)).toNatClampNeg), .int (xs (x3 + (3 : Int32)).toNatClampNeg), .int (xs (x3 + (4 : Int32)).toNatClampNeg)] [.int v] (cx_X11_card l D (m_ad s.heap.size) cA hI ((xs (x3 + (1 : Int32)).toNatClampNeg)) ((xs (x3 + (2 : Int32)).toNatClampNeg)) ((xs (x3 + (3 : Int32)).toNatClampNeg)) ((xs (x3 + (4 : Int32)).toNatClampNeg)) σ1 v σ2 e2) kp_30 rfl rfl wd_895 wd_896 wd_897 wd_12 wd_898 hdl_X11_card ⟨Nat.le_of_ble_eq_true rfl, Nat.le_of_ble_eq_true rfl⟩ rfl (Nat.le_of_ble_eq_true rfl) dL_law_309 ⟨Nat.le_refl _, Nat.le_refl _⟩ (fun H locs hP hS => ?_)
      refine lv_icmp_eq (tgt := 735) hx hb dL_law_312 (by decide) (fun c_1 => ?_) (fun c_1 => absurd rfl c_1)
      exact hnext σ2 H locs ls hJ2 hP hS hl
    by_cases c_15 : w = (5 : Int32)
    · refine mm_tabIn0 (off := 285) (tgt := 317) X (5 : Int32) c_15 dL_law_32 (by decide +kernel) (by decide +kernel) (by decide) ?_
      obtain ⟨v, σ1, σ2, e1, e2, hJ2⟩ := hall.2.2.2.2.2.1
      refine lv_aload_n hx hb dL_law_317 rfl (lv_at hl 2 rfl) ?_
      refine lv_aload_n hx hb dL_law_318 rfl (lv_at hl 1 rfl) ?_
      refine lv_iload_n hx hb dL_law_319 rfl (lv_at hl 0 rfl) ?_
      refine lv_iconst (v := (1 : Int32)) hx hb dL_law_320 (by decide) ?_
      refine lv_iadd hx hb dL_law_321 ?_
      refine va_sld hx hb hX hbl hbA hS i1 dL_law_322 ?_
      refine lv_aload_n hx hb dL_law_323 rfl (lv_at hl 1 rfl) ?_
      refine lv_iload_n hx hb dL_law_324 rfl (lv_at hl 0 rfl) ?_
      refine lv_iconst (v := (2 : Int32)) hx hb dL_law_325 (by decide) ?_
      refine lv_iadd hx hb dL_law_326 ?_
      refine va_sld hx hb hX hbl hbA hS i2 dL_law_327 ?_
      refine ml_callV X hP hS hsub hl.1 [.int (xs (x3 + (1 : Int32)).toNatClampNeg), .int (xs (x3 + (2 : Int32)).toNatClampNeg)] [] (cx_X10_damage l D (m_ad s.heap.size) cA hI ((xs (x3 + (1 : Int32)).toNatClampNeg)) ((xs (x3 + (2 : Int32)).toNatClampNeg)) σ v σ1 e1) kp_9 rfl rfl wd_461 wd_462 wd_463 wd_1 wd_464 hdl_X10_damage ⟨Nat.le_of_ble_eq_true rfl, Nat.le_of_ble_eq_true rfl⟩ rfl (Nat.le_of_ble_eq_true rfl) dL_law_328 ⟨Nat.le_refl _, Nat.le_refl _⟩ (fun H locs hP hS => ?_)
      refine lv_aload_n hx hb dL_law_331 rfl (lv_at hl 3 rfl) ?_
      refine lv_aload_n hx hb dL_law_332 rfl (lv_at hl 1 rfl) ?_
      refine lv_iload_n hx hb dL_law_333 rfl (lv_at hl 0 rfl) ?_
      refine lv_iconst (v := (1 : Int32)) hx hb dL_law_334 (by decide) ?_
      refine lv_iadd hx hb dL_law_335 ?_
      refine va_sld hx hb hX hbl hbA hS i1 dL_law_336 ?_
      refine lv_aload_n hx hb dL_law_337 rfl (lv_at hl 1 rfl) ?_
      refine lv_iload_n hx hb dL_law_338 rfl (lv_at hl 0 rfl) ?_
      refine lv_iconst (v := (2 : Int32)) hx hb dL_law_339 (by decide) ?_
      refine lv_iadd hx hb dL_law_340 ?_
      refine va_sld hx hb hX hbl hbA hS i2 dL_law_341 ?_
      refine ml_callV X hP hS hsub hl.1 [.int (xs (x3 + (1 : Int32)).toNatClampNeg), .int (xs (x3 + (2 : Int32)).toNatClampNeg)] [.int v] (cx_X11_damage l D (m_ad s.heap.size) cA hI ((xs (x3 + (1 : Int32)).toNatClampNeg)) ((xs (x3 + (2 : Int32)).toNatClampNeg)) σ1 v σ2 e2) kp_30 rfl rfl wd_926 wd_927 wd_928 wd_12 wd_929 hdl_X11_damage ⟨Nat.le_of_ble_eq_true rfl, Nat.le_of_ble_eq_true rfl⟩ rfl (Nat.le_of_ble_eq_true rfl) dL_law_342 ⟨Nat.le_refl _, Nat.le_refl _⟩ (fun H locs hP hS => ?_)
      refine lv_icmp_eq (tgt := 735) hx hb dL_law_345 (by decide) (fun c_1 => ?_) (fun c_1 => absurd rfl c_1)
      exact hnext σ2 H locs ls hJ2 hP hS hl
    by_cases c_16 : w = (6 : Int32)
    · refine mm_tabIn0 (off := 318) (tgt := 350) X (6 : Int32) c_16 dL_law_32 (by decide +kernel) (by decide +kernel) (by decide) ?_
      obtain ⟨v, σ1, σ2, e1, e2, hJ2⟩ := hall.2.2.2.2.2.2.1
      refine lv_aload_n hx hb dL_law_350 rfl (lv_at hl 2 rfl) ?_
      refine ml_callV X hP hS hsub hl.1 [] [] (cx_X10_phase l D (m_ad s.heap.size) cA hI σ v σ1 e1) kp_9 rfl rfl wd_476 wd_477 wd_478 wd_1 wd_479 hdl_X10_phase ⟨Nat.le_of_ble_eq_true rfl, Nat.le_of_ble_eq_true rfl⟩ rfl (Nat.le_of_ble_eq_true rfl) dL_law_351 ⟨Nat.le_refl _, Nat.le_refl _⟩ (fun H locs hP hS => ?_)
      refine lv_aload_n hx hb dL_law_354 rfl (lv_at hl 3 rfl) ?_
      refine ml_callV X hP hS hsub hl.1 [] [.int v] (cx_X11_phase l D (m_ad s.heap.size) cA hI σ1 v σ2 e2) kp_30 rfl rfl wd_930 wd_931 wd_932 wd_12 wd_933 hdl_X11_phase ⟨Nat.le_of_ble_eq_true rfl, Nat.le_of_ble_eq_true rfl⟩ rfl (Nat.le_of_ble_eq_true rfl) dL_law_355 ⟨Nat.le_refl _, Nat.le_refl _⟩ (fun H locs hP hS => ?_)
      refine lv_icmp_eq (tgt := 735) hx hb dL_law_358 (by decide) (fun c_1 => ?_) (fun c_1 => absurd rfl c_1)
      exact hnext σ2 H locs ls hJ2 hP hS hl
    by_cases c_17 : w = (7 : Int32)
    · refine mm_tabIn0 (off := 331) (tgt := 363) X (7 : Int32) c_17 dL_law_32 (by decide +kernel) (by decide +kernel) (by decide) ?_
      obtain ⟨v, σ1, σ2, e1, e2, hJ2⟩ := hall.2.2.2.2.2.2.2.1
      refine lv_aload_n hx hb dL_law_363 rfl (lv_at hl 2 rfl) ?_
      refine ml_callV X hP hS hsub hl.1 [] [] (cx_X10_round l D (m_ad s.heap.size) cA hI σ v σ1 e1) kp_9 rfl rfl wd_584 wd_585 wd_586 wd_1 wd_587 hdl_X10_round ⟨Nat.le_of_ble_eq_true rfl, Nat.le_of_ble_eq_true rfl⟩ rfl (Nat.le_of_ble_eq_true rfl) dL_law_364 ⟨Nat.le_refl _, Nat.le_refl _⟩ (fun H locs hP hS => ?_)
      refine lv_aload_n hx hb dL_law_367 rfl (lv_at hl 3 rfl) ?_
      refine ml_callV X hP hS hsub hl.1 [] [.int v] (cx_X11_round l D (m_ad s.heap.size) cA hI σ1 v σ2 e2) kp_30 rfl rfl wd_1026 wd_1027 wd_1028 wd_12 wd_1029 hdl_X11_round ⟨Nat.le_of_ble_eq_true rfl, Nat.le_of_ble_eq_true rfl⟩ rfl (Nat.le_of_ble_eq_true rfl) dL_law_368 ⟨Nat.le_refl _, Nat.le_refl _⟩ (fun H locs hP hS => ?_)
      refine lv_icmp_eq (tgt := 735) hx hb dL_law_371 (by decide) (fun c_1 => ?_) (fun c_1 => absurd rfl c_1)
      exact hnext σ2 H locs ls hJ2 hP hS hl
    by_cases c_18 : w = (8 : Int32)
    · refine mm_tabIn0 (off := 344) (tgt := 376) X (8 : Int32) c_18 dL_law_32 (by decide +kernel) (by decide +kernel) (by decide) ?_
      obtain ⟨v, σ1, σ2, e1, e2, hJ2⟩ := hall.2.2.2.2.2.2.2.2.1
      refine lv_aload_n hx hb dL_law_376 rfl (lv_at hl 2 rfl) ?_
      refine lv_aload_n hx hb dL_law_377 rfl (lv_at hl 1 rfl) ?_
      refine lv_iload_n hx hb dL_law_378 rfl (lv_at hl 0 rfl) ?_
      refine lv_iconst (v := (1 : Int32)) hx hb dL_law_379 (by decide) ?_
      refine lv_iadd hx hb dL_law_380 ?_
      refine va_sld hx hb hX hbl hbA hS i1 dL_law_381 ?_
      refine lv_aload_n hx hb dL_law_382 rfl (lv_at hl 1 rfl) ?_
      refine lv_iload_n hx hb dL_law_383 rfl (lv_at hl 0 rfl) ?_
      refine lv_iconst (v := (2 : Int32)) hx hb dL_law_384 (by decide) ?_
      refine lv_iadd hx hb dL_law_385 ?_
      refine va_sld hx hb hX hbl hbA hS i2 dL_law_386 ?_
      refine ml_callV X hP hS hsub hl.1 [.int (xs (x3 + (1 : Int32)).toNatClampNeg), .int (xs (x3 + (2 : Int32)).toNatClampNeg)] [] (cx_X10_cellOf l D (m_ad s.heap.size) cA hI ((xs (x3 + (1 : Int32)).toNatClampNeg)) ((xs (x3 + (2 : Int32)).toNatClampNeg)) σ v σ1 e1) kp_9 rfl rfl wd_593 wd_594 wd_595 wd_1 wd_596 hdl_X10_cellOf ⟨Nat.le_of_ble_eq_true rfl, Nat.le_of_ble_eq_true rfl⟩ rfl (Nat.le_of_ble_eq_true rfl) dL_law_387 ⟨Nat.le_refl _, Nat.le_refl _⟩ (fun H locs hP hS => ?_)
      refine lv_aload_n hx hb dL_law_390 rfl (lv_at hl 3 rfl) ?_
      refine lv_aload_n hx hb dL_law_391 rfl (lv_at hl 1 rfl) ?_
      refine lv_iload_n hx hb dL_law_392 rfl (lv_at hl 0 rfl) ?_
      refine lv_iconst (v := (1 : Int32)) hx hb dL_law_393 (by decide) ?_
      refine lv_iadd hx hb dL_law_394 ?_
      refine va_sld hx hb hX hbl hbA hS i1 dL_law_395 ?_
      refine lv_aload_n hx hb dL_law_396 rfl (lv_at hl 1 rfl) ?_
      refine lv_iload_n hx hb dL_law_397 rfl (lv_at hl 0 rfl) ?_
      refine lv_iconst (v := (2 : Int32)) hx hb dL_law_398 (by decide) ?_
      refine lv_iadd hx hb dL_law_399 ?_
      refine va_sld hx hb hX hbl hbA hS i2 dL_law_400 ?_
      refine ml_callV X hP hS hsub hl.1 [.int (xs (x3 + (1 : Int32)).toNatClampNeg), .int (xs (x3 + (2 : Int32)).toNatClampNeg)] [.int v] (cx_X11_cellOf l D (m_ad s.heap.size) cA hI ((xs (x3 + (1 : Int32)).toNatClampNeg)) ((xs (x3 + (2 : Int32)).toNatClampNeg)) σ1 v σ2 e2) kp_30 rfl rfl wd_1030 wd_1031 wd_1032 wd_12 wd_1033 hdl_X11_cellOf ⟨Nat.le_of_ble_eq_true rfl, Nat.le_of_ble_eq_true rfl⟩ rfl (Nat.le_of_ble_eq_true rfl) dL_law_401 ⟨Nat.le_refl _, Nat.le_refl _⟩ (fun H locs hP hS => ?_)
      refine lv_icmp_eq (tgt := 735) hx hb dL_law_404 (by decide) (fun c_1 => ?_) (fun c_1 => absurd rfl c_1)
      exact hnext σ2 H locs ls hJ2 hP hS hl
    by_cases c_19 : w = (9 : Int32)
    · refine mm_tabIn0 (off := 377) (tgt := 409) X (9 : Int32) c_19 dL_law_32 (by decide +kernel) (by decide +kernel) (by decide) ?_
      obtain ⟨v, σ1, σ2, e1, e2, hJ2⟩ := hall.2.2.2.2.2.2.2.2.2.1
      refine lv_aload_n hx hb dL_law_409 rfl (lv_at hl 2 rfl) ?_
      refine lv_aload_n hx hb dL_law_410 rfl (lv_at hl 1 rfl) ?_
      refine lv_iload_n hx hb dL_law_411 rfl (lv_at hl 0 rfl) ?_
      refine lv_iconst (v := (1 : Int32)) hx hb dL_law_412 (by decide) ?_
      refine lv_iadd hx hb dL_law_413 ?_
      refine va_sld hx hb hX hbl hbA hS i1 dL_law_414 ?_
      refine lv_aload_n hx hb dL_law_415 rfl (lv_at hl 1 rfl) ?_
      refine lv_iload_n hx hb dL_law_416 rfl (lv_at hl 0 rfl) ?_
      refine lv_iconst (v := (2 : Int32)) hx hb dL_law_417 (by decide) ?_
      refine lv_iadd hx hb dL_law_418 ?_
      refine va_sld hx hb hX hbl hbA hS i2 dL_law_419 ?_
      refine ml_callV X hP hS hsub hl.1 [.int (xs (x3 + (1 : Int32)).toNatClampNeg), .int (xs (x3 + (2 : Int32)).toNatClampNeg)] [] (cx_X10_cartOf l D (m_ad s.heap.size) cA hI ((xs (x3 + (1 : Int32)).toNatClampNeg)) ((xs (x3 + (2 : Int32)).toNatClampNeg)) σ v σ1 e1) kp_9 rfl rfl wd_614 wd_615 wd_616 wd_1 wd_617 hdl_X10_cartOf ⟨Nat.le_of_ble_eq_true rfl, Nat.le_of_ble_eq_true rfl⟩ rfl (Nat.le_of_ble_eq_true rfl) dL_law_420 ⟨Nat.le_refl _, Nat.le_refl _⟩ (fun H locs hP hS => ?_)
      refine lv_aload_n hx hb dL_law_423 rfl (lv_at hl 3 rfl) ?_
      refine lv_aload_n hx hb dL_law_424 rfl (lv_at hl 1 rfl) ?_
      refine lv_iload_n hx hb dL_law_425 rfl (lv_at hl 0 rfl) ?_
      refine lv_iconst (v := (1 : Int32)) hx hb dL_law_426 (by decide) ?_
      refine lv_iadd hx hb dL_law_427 ?_
      refine va_sld hx hb hX hbl hbA hS i1 dL_law_428 ?_
      refine lv_aload_n hx hb dL_law_429 rfl (lv_at hl 1 rfl) ?_
      refine lv_iload_n hx hb dL_law_430 rfl (lv_at hl 0 rfl) ?_
      refine lv_iconst (v := (2 : Int32)) hx hb dL_law_431 (by decide) ?_
      refine lv_iadd hx hb dL_law_432 ?_
      refine va_sld hx hb hX hbl hbA hS i2 dL_law_433 ?_
      refine ml_callV X hP hS hsub hl.1 [.int (xs (x3 + (1 : Int32)).toNatClampNeg), .int (xs (x3 + (2 : Int32)).toNatClampNeg)] [.int v] (cx_X11_cartOf l D (m_ad s.heap.size) cA hI ((xs (x3 + (1 : Int32)).toNatClampNeg)) ((xs (x3 + (2 : Int32)).toNatClampNeg)) σ1 v σ2 e2) kp_30 rfl rfl wd_1042 wd_1043 wd_1044 wd_12 wd_1045 hdl_X11_cartOf ⟨Nat.le_of_ble_eq_true rfl, Nat.le_of_ble_eq_true rfl⟩ rfl (Nat.le_of_ble_eq_true rfl) dL_law_434 ⟨Nat.le_refl _, Nat.le_refl _⟩ (fun H locs hP hS => ?_)
      refine lv_icmp_eq (tgt := 735) hx hb dL_law_437 (by decide) (fun c_1 => ?_) (fun c_1 => absurd rfl c_1)
      exact hnext σ2 H locs ls hJ2 hP hS hl
    by_cases c_20 : w = (10 : Int32)
    · refine mm_tabIn0 (off := 410) (tgt := 442) X (10 : Int32) c_20 dL_law_32 (by decide +kernel) (by decide +kernel) (by decide) ?_
      obtain ⟨v, σ1, σ2, e1, e2, hJ2⟩ := hall.2.2.2.2.2.2.2.2.2.2.1
      refine lv_aload_n hx hb dL_law_442 rfl (lv_at hl 2 rfl) ?_
      refine lv_aload_n hx hb dL_law_443 rfl (lv_at hl 1 rfl) ?_
      refine lv_iload_n hx hb dL_law_444 rfl (lv_at hl 0 rfl) ?_
      refine lv_iconst (v := (1 : Int32)) hx hb dL_law_445 (by decide) ?_
      refine lv_iadd hx hb dL_law_446 ?_
      refine va_sld hx hb hX hbl hbA hS i1 dL_law_447 ?_
      refine lv_aload_n hx hb dL_law_448 rfl (lv_at hl 1 rfl) ?_
      refine lv_iload_n hx hb dL_law_449 rfl (lv_at hl 0 rfl) ?_
      refine lv_iconst (v := (2 : Int32)) hx hb dL_law_450 (by decide) ?_
      refine lv_iadd hx hb dL_law_451 ?_
      refine va_sld hx hb hX hbl hbA hS i2 dL_law_452 ?_
      refine lv_aload_n hx hb dL_law_453 rfl (lv_at hl 1 rfl) ?_
      refine lv_iload_n hx hb dL_law_454 rfl (lv_at hl 0 rfl) ?_
      refine lv_iconst (v := (3 : Int32)) hx hb dL_law_455 (by decide) ?_
      refine lv_iadd hx hb dL_law_456 ?_
      refine va_sld hx hb hX hbl hbA hS i3 dL_law_457 ?_
      refine ml_callV X hP hS hsub hl.1 [.int (xs (x3 + (1 : Int32)).toNatClampNeg), .int (xs (x3 + (2 : Int32)).toNatClampNeg), .int (xs (x3 + (3 : Int32)).toNatClampNeg)] [] (cx_X10_cardOf l D (m_ad s.heap.size) cA hI ((xs (x3 + (1 : Int32)).toNatClampNeg)) ((xs (x3 + (2 : Int32)).toNatClampNeg)) ((xs (x3 + (3 : Int32)).toNatClampNeg)) σ v σ1 e1) kp_9 rfl rfl wd_631 wd_632 wd_633 wd_1 wd_634 hdl_X10_cardOf ⟨Nat.le_of_ble_eq_true rfl, Nat.le_of_ble_eq_true rfl⟩ rfl (Nat.le_of_ble_eq_true rfl) dL_law_458 ⟨Nat.le_refl _, Nat.le_refl _⟩ (fun H locs hP hS => ?_)
      refine lv_aload_n hx hb dL_law_461 rfl (lv_at hl 3 rfl) ?_
      refine lv_aload_n hx hb dL_law_462 rfl (lv_at hl 1 rfl) ?_
      refine lv_iload_n hx hb dL_law_463 rfl (lv_at hl 0 rfl) ?_
      refine lv_iconst (v := (1 : Int32)) hx hb dL_law_464 (by decide) ?_
      refine lv_iadd hx hb dL_law_465 ?_
      refine va_sld hx hb hX hbl hbA hS i1 dL_law_466 ?_
      refine lv_aload_n hx hb dL_law_467 rfl (lv_at hl 1 rfl) ?_
      refine lv_iload_n hx hb dL_law_468 rfl (lv_at hl 0 rfl) ?_
      refine lv_iconst (v := (2 : Int32)) hx hb dL_law_469 (by decide) ?_
      refine lv_iadd hx hb dL_law_470 ?_
      refine va_sld hx hb hX hbl hbA hS i2 dL_law_471 ?_
      refine lv_aload_n hx hb dL_law_472 rfl (lv_at hl 1 rfl) ?_
      refine lv_iload_n hx hb dL_law_473 rfl (lv_at hl 0 rfl) ?_
      refine lv_iconst (v := (3 : Int32)) hx hb dL_law_474 (by decide) ?_
      refine lv_iadd hx hb dL_law_475 ?_
      refine va_sld hx hb hX hbl hbA hS i3 dL_law_476 ?_
      refine ml_callV X hP hS hsub hl.1 [.int (xs (x3 + (1 : Int32)).toNatClampNeg), .int (xs (x3 + (2 : Int32)).toNatClampNeg), .int (xs (x3 + (3 : Int32)).toNatClampNeg)] [.int v] (cx_X11_cardOf l D (m_ad s.heap.size) cA hI ((xs (x3 + (1 : Int32)).toNatClampNeg)) ((xs (x3 + (2 : Int32)).toNatClampNeg)) ((xs (x3 + (3 : Int32)).toNatClampNeg)) σ1 v σ2 e2) kp_30 rfl rfl wd_1050 wd_1051 wd_1052 wd_12 wd_1053 hdl_X11_cardOf ⟨Nat.le_of_ble_eq_true rfl, Nat.le_of_ble_eq_true rfl⟩ rfl (Nat.le_of_ble_eq_true rfl) dL_law_477 ⟨Nat.le_refl _, Nat.le_refl _⟩ (fun H locs hP hS => ?_)
      refine lv_icmp_eq (tgt := 735) hx hb dL_law_480 (by decide) (fun c_1 => ?_) (fun c_1 => absurd rfl c_1)
      exact hnext σ2 H locs ls hJ2 hP hS hl
    by_cases c_21 : w = (11 : Int32)
    · refine mm_tabIn0 (off := 453) (tgt := 485) X (11 : Int32) c_21 dL_law_32 (by decide +kernel) (by decide +kernel) (by decide) ?_
      obtain ⟨v, σ1, σ2, e1, e2, hJ2⟩ := hall.2.2.2.2.2.2.2.2.2.2.2.1
      refine lv_aload_n hx hb dL_law_485 rfl (lv_at hl 2 rfl) ?_
      refine lv_aload_n hx hb dL_law_486 rfl (lv_at hl 1 rfl) ?_
      refine lv_iload_n hx hb dL_law_487 rfl (lv_at hl 0 rfl) ?_
      refine lv_iconst (v := (1 : Int32)) hx hb dL_law_488 (by decide) ?_
      refine lv_iadd hx hb dL_law_489 ?_
      refine va_sld hx hb hX hbl hbA hS i1 dL_law_490 ?_
      refine ml_callV X hP hS hsub hl.1 [.int (xs (x3 + (1 : Int32)).toNatClampNeg)] [] (cx_X10_turn l D (m_ad s.heap.size) cA hI ((xs (x3 + (1 : Int32)).toNatClampNeg)) σ v σ1 e1) kp_9 rfl rfl wd_638 wd_639 wd_640 wd_1 wd_641 hdl_X10_turn ⟨Nat.le_of_ble_eq_true rfl, Nat.le_of_ble_eq_true rfl⟩ rfl (Nat.le_of_ble_eq_true rfl) dL_law_491 ⟨Nat.le_refl _, Nat.le_refl _⟩ (fun H locs hP hS => ?_)
      refine lv_aload_n hx hb dL_law_494 rfl (lv_at hl 3 rfl) ?_
      refine lv_aload_n hx hb dL_law_495 rfl (lv_at hl 1 rfl) ?_
      refine lv_iload_n hx hb dL_law_496 rfl (lv_at hl 0 rfl) ?_
      refine lv_iconst (v := (1 : Int32)) hx hb dL_law_497 (by decide) ?_
      refine lv_iadd hx hb dL_law_498 ?_
      refine va_sld hx hb hX hbl hbA hS i1 dL_law_499 ?_
      refine ml_callV X hP hS hsub hl.1 [.int (xs (x3 + (1 : Int32)).toNatClampNeg)] [.int v] (cx_X11_turn l D (m_ad s.heap.size) cA hI ((xs (x3 + (1 : Int32)).toNatClampNeg)) σ1 v σ2 e2) kp_30 rfl rfl wd_1054 wd_1055 wd_1056 wd_12 wd_1057 hdl_X11_turn ⟨Nat.le_of_ble_eq_true rfl, Nat.le_of_ble_eq_true rfl⟩ rfl (Nat.le_of_ble_eq_true rfl) dL_law_500 ⟨Nat.le_refl _, Nat.le_refl _⟩ (fun H locs hP hS => ?_)
      refine lv_icmp_eq (tgt := 735) hx hb dL_law_503 (by decide) (fun c_1 => ?_) (fun c_1 => absurd rfl c_1)
      exact hnext σ2 H locs ls hJ2 hP hS hl
    by_cases c_22 : w = (12 : Int32)
    · refine mm_tabIn0 (off := 476) (tgt := 508) X (12 : Int32) c_22 dL_law_32 (by decide +kernel) (by decide +kernel) (by decide) ?_
      obtain ⟨v, σ1, σ2, e1, e2, hJ2⟩ := hall.2.2.2.2.2.2.2.2.2.2.2.2.1
      refine lv_aload_n hx hb dL_law_508 rfl (lv_at hl 2 rfl) ?_
      refine lv_aload_n hx hb dL_law_509 rfl (lv_at hl 1 rfl) ?_
      refine lv_iload_n hx hb dL_law_510 rfl (lv_at hl 0 rfl) ?_
      refine lv_iconst (v := (1 : Int32)) hx hb dL_law_511 (by decide) ?_
      refine lv_iadd hx hb dL_law_512 ?_
      refine va_sld hx hb hX hbl hbA hS i1 dL_law_513 ?_
      refine lv_aload_n hx hb dL_law_514 rfl (lv_at hl 1 rfl) ?_
      refine lv_iload_n hx hb dL_law_515 rfl (lv_at hl 0 rfl) ?_
      refine lv_iconst (v := (2 : Int32)) hx hb dL_law_516 (by decide) ?_
      refine lv_iadd hx hb dL_law_517 ?_
      refine va_sld hx hb hX hbl hbA hS i2 dL_law_518 ?_
      refine lv_aload_n hx hb dL_law_519 rfl (lv_at hl 1 rfl) ?_
      refine lv_iload_n hx hb dL_law_520 rfl (lv_at hl 0 rfl) ?_
      refine lv_iconst (v := (3 : Int32)) hx hb dL_law_521 (by decide) ?_
      refine lv_iadd hx hb dL_law_522 ?_
      refine va_sld hx hb hX hbl hbA hS i3 dL_law_523 ?_
      refine ml_callV X hP hS hsub hl.1 [.int (xs (x3 + (1 : Int32)).toNatClampNeg), .int (xs (x3 + (2 : Int32)).toNatClampNeg), .int (xs (x3 + (3 : Int32)).toNatClampNeg)] [] (cx_X10_would l D (m_ad s.heap.size) cA hI ((xs (x3 + (1 : Int32)).toNatClampNeg)) ((xs (x3 + (2 : Int32)).toNatClampNeg)) ((xs (x3 + (3 : Int32)).toNatClampNeg)) σ v σ1 e1) kp_9 rfl rfl wd_647 wd_648 wd_649 wd_1 wd_650 hdl_X10_would ⟨Nat.le_of_ble_eq_true rfl, Nat.le_of_ble_eq_true rfl⟩ rfl (Nat.le_of_ble_eq_true rfl) dL_law_524 ⟨Nat.le_refl _, Nat.le_refl _⟩ (fun H locs hP hS => ?_)
      refine lv_aload_n hx hb dL_law_527 rfl (lv_at hl 3 rfl) ?_
      refine lv_aload_n hx hb dL_law_528 rfl (lv_at hl 1 rfl) ?_
      refine lv_iload_n hx hb dL_law_529 rfl (lv_at hl 0 rfl) ?_
      refine lv_iconst (v := (1 : Int32)) hx hb dL_law_530 (by decide) ?_
      refine lv_iadd hx hb dL_law_531 ?_
      refine va_sld hx hb hX hbl hbA hS i1 dL_law_532 ?_
      refine lv_aload_n hx hb dL_law_533 rfl (lv_at hl 1 rfl) ?_
      refine lv_iload_n hx hb dL_law_534 rfl (lv_at hl 0 rfl) ?_
      refine lv_iconst (v := (2 : Int32)) hx hb dL_law_535 (by decide) ?_
      refine lv_iadd hx hb dL_law_536 ?_
      refine va_sld hx hb hX hbl hbA hS i2 dL_law_537 ?_
      refine lv_aload_n hx hb dL_law_538 rfl (lv_at hl 1 rfl) ?_
      refine lv_iload_n hx hb dL_law_539 rfl (lv_at hl 0 rfl) ?_
      refine lv_iconst (v := (3 : Int32)) hx hb dL_law_540 (by decide) ?_
      refine lv_iadd hx hb dL_law_541 ?_
      refine va_sld hx hb hX hbl hbA hS i3 dL_law_542 ?_
      refine ml_callV X hP hS hsub hl.1 [.int (xs (x3 + (1 : Int32)).toNatClampNeg), .int (xs (x3 + (2 : Int32)).toNatClampNeg), .int (xs (x3 + (3 : Int32)).toNatClampNeg)] [.int v] (cx_X11_would l D (m_ad s.heap.size) cA hI ((xs (x3 + (1 : Int32)).toNatClampNeg)) ((xs (x3 + (2 : Int32)).toNatClampNeg)) ((xs (x3 + (3 : Int32)).toNatClampNeg)) σ1 v σ2 e2) kp_30 rfl rfl wd_1058 wd_1059 wd_1060 wd_12 wd_1061 hdl_X11_would ⟨Nat.le_of_ble_eq_true rfl, Nat.le_of_ble_eq_true rfl⟩ rfl (Nat.le_of_ble_eq_true rfl) dL_law_543 ⟨Nat.le_refl _, Nat.le_refl _⟩ (fun H locs hP hS => ?_)
      refine lv_icmp_eq (tgt := 735) hx hb dL_law_546 (by decide) (fun c_1 => ?_) (fun c_1 => absurd rfl c_1)
      exact hnext σ2 H locs ls hJ2 hP hS hl
    by_cases c_23 : w = (13 : Int32)
    · refine mm_tabIn0 (off := 519) (tgt := 551) X (13 : Int32) c_23 dL_law_32 (by decide +kernel) (by decide +kernel) (by decide) ?_
      obtain ⟨v, σ1, σ2, e1, e2, hJ2⟩ := hall.2.2.2.2.2.2.2.2.2.2.2.2.2.1
      refine lv_aload_n hx hb dL_law_551 rfl (lv_at hl 2 rfl) ?_
      refine lv_aload_n hx hb dL_law_552 rfl (lv_at hl 1 rfl) ?_
      refine lv_iload_n hx hb dL_law_553 rfl (lv_at hl 0 rfl) ?_
      refine lv_iconst (v := (1 : Int32)) hx hb dL_law_554 (by decide) ?_
      refine lv_iadd hx hb dL_law_555 ?_
      refine va_sld hx hb hX hbl hbA hS i1 dL_law_556 ?_
      refine lv_aload_n hx hb dL_law_557 rfl (lv_at hl 1 rfl) ?_
      refine lv_iload_n hx hb dL_law_558 rfl (lv_at hl 0 rfl) ?_
      refine lv_iconst (v := (2 : Int32)) hx hb dL_law_559 (by decide) ?_
      refine lv_iadd hx hb dL_law_560 ?_
      refine va_sld hx hb hX hbl hbA hS i2 dL_law_561 ?_
      refine lv_aload_n hx hb dL_law_562 rfl (lv_at hl 1 rfl) ?_
      refine lv_iload_n hx hb dL_law_563 rfl (lv_at hl 0 rfl) ?_
      refine lv_iconst (v := (3 : Int32)) hx hb dL_law_564 (by decide) ?_
      refine lv_iadd hx hb dL_law_565 ?_
      refine va_sld hx hb hX hbl hbA hS i3 dL_law_566 ?_
      refine ml_callV X hP hS hsub hl.1 [.int (xs (x3 + (1 : Int32)).toNatClampNeg), .int (xs (x3 + (2 : Int32)).toNatClampNeg), .int (xs (x3 + (3 : Int32)).toNatClampNeg)] [] (cx_X10_best l D (m_ad s.heap.size) cA hI ((xs (x3 + (1 : Int32)).toNatClampNeg)) ((xs (x3 + (2 : Int32)).toNatClampNeg)) ((xs (x3 + (3 : Int32)).toNatClampNeg)) σ v σ1 e1) kp_9 rfl rfl wd_651 wd_652 wd_653 wd_1 wd_654 hdl_X10_best ⟨Nat.le_of_ble_eq_true rfl, Nat.le_of_ble_eq_true rfl⟩ rfl (Nat.le_of_ble_eq_true rfl) dL_law_567 ⟨Nat.le_refl _, Nat.le_refl _⟩ (fun H locs hP hS => ?_)
      refine lv_aload_n hx hb dL_law_570 rfl (lv_at hl 3 rfl) ?_
      refine lv_aload_n hx hb dL_law_571 rfl (lv_at hl 1 rfl) ?_
      refine lv_iload_n hx hb dL_law_572 rfl (lv_at hl 0 rfl) ?_
      refine lv_iconst (v := (1 : Int32)) hx hb dL_law_573 (by decide) ?_
      refine lv_iadd hx hb dL_law_574 ?_
      refine va_sld hx hb hX hbl hbA hS i1 dL_law_575 ?_
      refine lv_aload_n hx hb dL_law_576 rfl (lv_at hl 1 rfl) ?_
      refine lv_iload_n hx hb dL_law_577 rfl (lv_at hl 0 rfl) ?_
      refine lv_iconst (v := (2 : Int32)) hx hb dL_law_578 (by decide) ?_
      refine lv_iadd hx hb dL_law_579 ?_
      refine va_sld hx hb hX hbl hbA hS i2 dL_law_580 ?_
      refine lv_aload_n hx hb dL_law_581 rfl (lv_at hl 1 rfl) ?_
      refine lv_iload_n hx hb dL_law_582 rfl (lv_at hl 0 rfl) ?_
      refine lv_iconst (v := (3 : Int32)) hx hb dL_law_583 (by decide) ?_
      refine lv_iadd hx hb dL_law_584 ?_
      refine va_sld hx hb hX hbl hbA hS i3 dL_law_585 ?_
      refine ml_callV X hP hS hsub hl.1 [.int (xs (x3 + (1 : Int32)).toNatClampNeg), .int (xs (x3 + (2 : Int32)).toNatClampNeg), .int (xs (x3 + (3 : Int32)).toNatClampNeg)] [.int v] (cx_X11_best l D (m_ad s.heap.size) cA hI ((xs (x3 + (1 : Int32)).toNatClampNeg)) ((xs (x3 + (2 : Int32)).toNatClampNeg)) ((xs (x3 + (3 : Int32)).toNatClampNeg)) σ1 v σ2 e2) kp_30 rfl rfl wd_1071 wd_1072 wd_1073 wd_12 wd_1074 hdl_X11_best ⟨Nat.le_of_ble_eq_true rfl, Nat.le_of_ble_eq_true rfl⟩ rfl (Nat.le_of_ble_eq_true rfl) dL_law_586 ⟨Nat.le_refl _, Nat.le_refl _⟩ (fun H locs hP hS => ?_)
      refine lv_icmp_eq (tgt := 735) hx hb dL_law_589 (by decide) (fun c_1 => ?_) (fun c_1 => absurd rfl c_1)
      exact hnext σ2 H locs ls hJ2 hP hS hl
    by_cases c_24 : w = (14 : Int32)
    · refine mm_tabIn0 (off := 562) (tgt := 594) X (14 : Int32) c_24 dL_law_32 (by decide +kernel) (by decide +kernel) (by decide) ?_
      obtain ⟨v, σ1, σ2, e1, e2, hJ2⟩ := hall.2.2.2.2.2.2.2.2.2.2.2.2.2.2.1
      refine lv_aload_n hx hb dL_law_594 rfl (lv_at hl 2 rfl) ?_
      refine lv_aload_n hx hb dL_law_595 rfl (lv_at hl 1 rfl) ?_
      refine lv_iload_n hx hb dL_law_596 rfl (lv_at hl 0 rfl) ?_
      refine lv_iconst (v := (1 : Int32)) hx hb dL_law_597 (by decide) ?_
      refine lv_iadd hx hb dL_law_598 ?_
      refine va_sld hx hb hX hbl hbA hS i1 dL_law_599 ?_
      refine lv_aload_n hx hb dL_law_600 rfl (lv_at hl 1 rfl) ?_
      refine lv_iload_n hx hb dL_law_601 rfl (lv_at hl 0 rfl) ?_
      refine lv_iconst (v := (2 : Int32)) hx hb dL_law_602 (by decide) ?_
      refine lv_iadd hx hb dL_law_603 ?_
      refine va_sld hx hb hX hbl hbA hS i2 dL_law_604 ?_
      refine ml_callV X hP hS hsub hl.1 [.int (xs (x3 + (1 : Int32)).toNatClampNeg), .int (xs (x3 + (2 : Int32)).toNatClampNeg)] [] (cx_X10_steps l D (m_ad s.heap.size) cA hI ((xs (x3 + (1 : Int32)).toNatClampNeg)) ((xs (x3 + (2 : Int32)).toNatClampNeg)) σ v σ1 e1) kp_9 rfl rfl wd_669 wd_670 wd_671 wd_1 wd_672 hdl_X10_steps ⟨Nat.le_of_ble_eq_true rfl, Nat.le_of_ble_eq_true rfl⟩ rfl (Nat.le_of_ble_eq_true rfl) dL_law_605 ⟨Nat.le_refl _, Nat.le_refl _⟩ (fun H locs hP hS => ?_)
      refine lv_aload_n hx hb dL_law_608 rfl (lv_at hl 3 rfl) ?_
      refine lv_aload_n hx hb dL_law_609 rfl (lv_at hl 1 rfl) ?_
      refine lv_iload_n hx hb dL_law_610 rfl (lv_at hl 0 rfl) ?_
      refine lv_iconst (v := (1 : Int32)) hx hb dL_law_611 (by decide) ?_
      refine lv_iadd hx hb dL_law_612 ?_
      refine va_sld hx hb hX hbl hbA hS i1 dL_law_613 ?_
      refine lv_aload_n hx hb dL_law_614 rfl (lv_at hl 1 rfl) ?_
      refine lv_iload_n hx hb dL_law_615 rfl (lv_at hl 0 rfl) ?_
      refine lv_iconst (v := (2 : Int32)) hx hb dL_law_616 (by decide) ?_
      refine lv_iadd hx hb dL_law_617 ?_
      refine va_sld hx hb hX hbl hbA hS i2 dL_law_618 ?_
      refine ml_callV X hP hS hsub hl.1 [.int (xs (x3 + (1 : Int32)).toNatClampNeg), .int (xs (x3 + (2 : Int32)).toNatClampNeg)] [.int v] (cx_X11_steps l D (m_ad s.heap.size) cA hI ((xs (x3 + (1 : Int32)).toNatClampNeg)) ((xs (x3 + (2 : Int32)).toNatClampNeg)) σ1 v σ2 e2) kp_30 rfl rfl wd_1085 wd_1086 wd_1087 wd_12 wd_1088 hdl_X11_steps ⟨Nat.le_of_ble_eq_true rfl, Nat.le_of_ble_eq_true rfl⟩ rfl (Nat.le_of_ble_eq_true rfl) dL_law_619 ⟨Nat.le_refl _, Nat.le_refl _⟩ (fun H locs hP hS => ?_)
      refine lv_icmp_eq (tgt := 735) hx hb dL_law_622 (by decide) (fun c_1 => ?_) (fun c_1 => absurd rfl c_1)
      exact hnext σ2 H locs ls hJ2 hP hS hl
    by_cases c_25 : w = (15 : Int32)
    · refine mm_tabIn0 (off := 595) (tgt := 627) X (15 : Int32) c_25 dL_law_32 (by decide +kernel) (by decide +kernel) (by decide) ?_
      obtain ⟨v, σ1, σ2, e1, e2, hJ2⟩ := hall.2.2.2.2.2.2.2.2.2.2.2.2.2.2.2.1
      refine lv_aload_n hx hb dL_law_627 rfl (lv_at hl 2 rfl) ?_
      refine lv_aload_n hx hb dL_law_628 rfl (lv_at hl 1 rfl) ?_
      refine lv_iload_n hx hb dL_law_629 rfl (lv_at hl 0 rfl) ?_
      refine lv_iconst (v := (1 : Int32)) hx hb dL_law_630 (by decide) ?_
      refine lv_iadd hx hb dL_law_631 ?_
      refine va_sld hx hb hX hbl hbA hS i1 dL_law_632 ?_
      refine ml_callV X hP hS hsub hl.1 [.int (xs (x3 + (1 : Int32)).toNatClampNeg)] [] (cx_X10_count l D (m_ad s.heap.size) cA hI ((xs (x3 + (1 : Int32)).toNatClampNeg)) σ v σ1 e1) kp_9 rfl rfl wd_692 wd_693 wd_694 wd_1 wd_695 hdl_X10_count ⟨Nat.le_of_ble_eq_true rfl, Nat.le_of_ble_eq_true rfl⟩ rfl (Nat.le_of_ble_eq_true rfl) dL_law_633 ⟨Nat.le_refl _, Nat.le_refl _⟩ (fun H locs hP hS => ?_)
      refine lv_aload_n hx hb dL_law_636 rfl (lv_at hl 3 rfl) ?_
      refine lv_aload_n hx hb dL_law_637 rfl (lv_at hl 1 rfl) ?_
      refine lv_iload_n hx hb dL_law_638 rfl (lv_at hl 0 rfl) ?_
      refine lv_iconst (v := (1 : Int32)) hx hb dL_law_639 (by decide) ?_
      refine lv_iadd hx hb dL_law_640 ?_
      refine va_sld hx hb hX hbl hbA hS i1 dL_law_641 ?_
      refine ml_callV X hP hS hsub hl.1 [.int (xs (x3 + (1 : Int32)).toNatClampNeg)] [.int v] (cx_X11_count l D (m_ad s.heap.size) cA hI ((xs (x3 + (1 : Int32)).toNatClampNeg)) σ1 v σ2 e2) kp_30 rfl rfl wd_1093 wd_1094 wd_1095 wd_12 wd_1096 hdl_X11_count ⟨Nat.le_of_ble_eq_true rfl, Nat.le_of_ble_eq_true rfl⟩ rfl (Nat.le_of_ble_eq_true rfl) dL_law_642 ⟨Nat.le_refl _, Nat.le_refl _⟩ (fun H locs hP hS => ?_)
      refine lv_icmp_eq (tgt := 735) hx hb dL_law_645 (by decide) (fun c_1 => ?_) (fun c_1 => absurd rfl c_1)
      exact hnext σ2 H locs ls hJ2 hP hS hl
    by_cases c_26 : w = (16 : Int32)
    · refine mm_tabIn0 (off := 618) (tgt := 650) X (16 : Int32) c_26 dL_law_32 (by decide +kernel) (by decide +kernel) (by decide) ?_
      obtain ⟨v, σ1, σ2, e1, e2, hJ2⟩ := hall.2.2.2.2.2.2.2.2.2.2.2.2.2.2.2.2.1
      refine lv_aload_n hx hb dL_law_650 rfl (lv_at hl 2 rfl) ?_
      refine ml_callV X hP hS hsub hl.1 [] [] (cx_X10_undo l D (m_ad s.heap.size) cA hI σ v σ1 e1) kp_9 rfl rfl wd_700 wd_701 wd_702 wd_1 wd_703 hdl_X10_undo ⟨Nat.le_of_ble_eq_true rfl, Nat.le_of_ble_eq_true rfl⟩ rfl (Nat.le_of_ble_eq_true rfl) dL_law_651 ⟨Nat.le_refl _, Nat.le_refl _⟩ (fun H locs hP hS => ?_)
      refine lv_aload_n hx hb dL_law_654 rfl (lv_at hl 3 rfl) ?_
      refine ml_callV X hP hS hsub hl.1 [] [.int v] (cx_X11_undo l D (m_ad s.heap.size) cA hI σ1 v σ2 e2) kp_30 rfl rfl wd_1101 wd_1102 wd_1103 wd_12 wd_1104 hdl_X11_undo ⟨Nat.le_of_ble_eq_true rfl, Nat.le_of_ble_eq_true rfl⟩ rfl (Nat.le_of_ble_eq_true rfl) dL_law_655 ⟨Nat.le_refl _, Nat.le_refl _⟩ (fun H locs hP hS => ?_)
      refine lv_icmp_eq (tgt := 735) hx hb dL_law_658 (by decide) (fun c_1 => ?_) (fun c_1 => absurd rfl c_1)
      exact hnext σ2 H locs ls hJ2 hP hS hl
    by_cases c_27 : w = (17 : Int32)
    · refine mm_tabIn0 (off := 631) (tgt := 663) X (17 : Int32) c_27 dL_law_32 (by decide +kernel) (by decide +kernel) (by decide) ?_
      obtain ⟨v, σ1, σ2, e1, e2, hJ2⟩ := hall.2.2.2.2.2.2.2.2.2.2.2.2.2.2.2.2.2.1
      refine lv_aload_n hx hb dL_law_663 rfl (lv_at hl 2 rfl) ?_
      refine lv_aload_n hx hb dL_law_664 rfl (lv_at hl 1 rfl) ?_
      refine lv_iload_n hx hb dL_law_665 rfl (lv_at hl 0 rfl) ?_
      refine lv_iconst (v := (1 : Int32)) hx hb dL_law_666 (by decide) ?_
      refine lv_iadd hx hb dL_law_667 ?_
      refine va_sld hx hb hX hbl hbA hS i1 dL_law_668 ?_
      refine ml_callV X hP hS hsub hl.1 [.int (xs (x3 + (1 : Int32)).toNatClampNeg)] [] (cx_X10_type l D (m_ad s.heap.size) cA hI ((xs (x3 + (1 : Int32)).toNatClampNeg)) σ v σ1 e1) kp_9 rfl rfl wd_708 wd_709 wd_710 wd_1 wd_711 hdl_X10_type ⟨Nat.le_of_ble_eq_true rfl, Nat.le_of_ble_eq_true rfl⟩ rfl (Nat.le_of_ble_eq_true rfl) dL_law_669 ⟨Nat.le_refl _, Nat.le_refl _⟩ (fun H locs hP hS => ?_)
      refine lv_aload_n hx hb dL_law_672 rfl (lv_at hl 3 rfl) ?_
      refine lv_aload_n hx hb dL_law_673 rfl (lv_at hl 1 rfl) ?_
      refine lv_iload_n hx hb dL_law_674 rfl (lv_at hl 0 rfl) ?_
      refine lv_iconst (v := (1 : Int32)) hx hb dL_law_675 (by decide) ?_
      refine lv_iadd hx hb dL_law_676 ?_
      refine va_sld hx hb hX hbl hbA hS i1 dL_law_677 ?_
      refine ml_callV X hP hS hsub hl.1 [.int (xs (x3 + (1 : Int32)).toNatClampNeg)] [.int v] (cx_X11_type l D (m_ad s.heap.size) cA hI ((xs (x3 + (1 : Int32)).toNatClampNeg)) σ1 v σ2 e2) kp_30 rfl rfl wd_1105 wd_1106 wd_1107 wd_12 wd_1108 hdl_X11_type ⟨Nat.le_of_ble_eq_true rfl, Nat.le_of_ble_eq_true rfl⟩ rfl (Nat.le_of_ble_eq_true rfl) dL_law_678 ⟨Nat.le_refl _, Nat.le_refl _⟩ (fun H locs hP hS => ?_)
      refine lv_icmp_eq (tgt := 735) hx hb dL_law_681 (by decide) (fun c_1 => ?_) (fun c_1 => absurd rfl c_1)
      exact hnext σ2 H locs ls hJ2 hP hS hl
    by_cases c_28 : w = (18 : Int32)
    · refine mm_tabIn0 (off := 654) (tgt := 686) X (18 : Int32) c_28 dL_law_32 (by decide +kernel) (by decide +kernel) (by decide) ?_
      obtain ⟨v, σ1, σ2, e1, e2, hJ2⟩ := hall.2.2.2.2.2.2.2.2.2.2.2.2.2.2.2.2.2.2.1
      refine lv_aload_n hx hb dL_law_686 rfl (lv_at hl 2 rfl) ?_
      refine ml_callV X hP hS hsub hl.1 [] [] (cx_X10_clearText l D (m_ad s.heap.size) cA hI σ v σ1 e1) kp_9 rfl rfl wd_717 wd_718 wd_719 wd_1 wd_720 hdl_X10_clearText ⟨Nat.le_of_ble_eq_true rfl, Nat.le_of_ble_eq_true rfl⟩ rfl (Nat.le_of_ble_eq_true rfl) dL_law_687 ⟨Nat.le_refl _, Nat.le_refl _⟩ (fun H locs hP hS => ?_)
      refine lv_aload_n hx hb dL_law_690 rfl (lv_at hl 3 rfl) ?_
      refine ml_callV X hP hS hsub hl.1 [] [.int v] (cx_X11_clearText l D (m_ad s.heap.size) cA hI σ1 v σ2 e2) kp_30 rfl rfl wd_1109 wd_1110 wd_1111 wd_12 wd_1112 hdl_X11_clearText ⟨Nat.le_of_ble_eq_true rfl, Nat.le_of_ble_eq_true rfl⟩ rfl (Nat.le_of_ble_eq_true rfl) dL_law_691 ⟨Nat.le_refl _, Nat.le_refl _⟩ (fun H locs hP hS => ?_)
      refine lv_icmp_eq (tgt := 735) hx hb dL_law_694 (by decide) (fun c_1 => ?_) (fun c_1 => absurd rfl c_1)
      exact hnext σ2 H locs ls hJ2 hP hS hl
    by_cases c_29 : w = (19 : Int32)
    · refine mm_tabIn0 (off := 667) (tgt := 699) X (19 : Int32) c_29 dL_law_32 (by decide +kernel) (by decide +kernel) (by decide) ?_
      obtain ⟨v, σ1, σ2, e1, e2, hJ2⟩ := hall.2.2.2.2.2.2.2.2.2.2.2.2.2.2.2.2.2.2.2.1
      refine lv_aload_n hx hb dL_law_699 rfl (lv_at hl 2 rfl) ?_
      refine lv_aload_n hx hb dL_law_700 rfl (lv_at hl 1 rfl) ?_
      refine lv_iload_n hx hb dL_law_701 rfl (lv_at hl 0 rfl) ?_
      refine lv_iconst (v := (1 : Int32)) hx hb dL_law_702 (by decide) ?_
      refine lv_iadd hx hb dL_law_703 ?_
      refine va_sld hx hb hX hbl hbA hS i1 dL_law_704 ?_
      refine ml_callV X hP hS hsub hl.1 [.int (xs (x3 + (1 : Int32)).toNatClampNeg)] [] (cx_X10_fault l D (m_ad s.heap.size) cA hI ((xs (x3 + (1 : Int32)).toNatClampNeg)) σ v σ1 e1) kp_9 rfl rfl wd_721 wd_722 wd_723 wd_1 wd_724 hdl_X10_fault ⟨Nat.le_of_ble_eq_true rfl, Nat.le_of_ble_eq_true rfl⟩ rfl (Nat.le_of_ble_eq_true rfl) dL_law_705 ⟨Nat.le_refl _, Nat.le_refl _⟩ (fun H locs hP hS => ?_)
      refine lv_aload_n hx hb dL_law_708 rfl (lv_at hl 3 rfl) ?_
      refine lv_aload_n hx hb dL_law_709 rfl (lv_at hl 1 rfl) ?_
      refine lv_iload_n hx hb dL_law_710 rfl (lv_at hl 0 rfl) ?_
      refine lv_iconst (v := (1 : Int32)) hx hb dL_law_711 (by decide) ?_
      refine lv_iadd hx hb dL_law_712 ?_
      refine va_sld hx hb hX hbl hbA hS i1 dL_law_713 ?_
      refine ml_callV X hP hS hsub hl.1 [.int (xs (x3 + (1 : Int32)).toNatClampNeg)] [.int v] (cx_X11_fault l D (m_ad s.heap.size) cA hI ((xs (x3 + (1 : Int32)).toNatClampNeg)) σ1 v σ2 e2) kp_30 rfl rfl wd_1113 wd_1114 wd_1115 wd_12 wd_1116 hdl_X11_fault ⟨Nat.le_of_ble_eq_true rfl, Nat.le_of_ble_eq_true rfl⟩ rfl (Nat.le_of_ble_eq_true rfl) dL_law_714 ⟨Nat.le_refl _, Nat.le_refl _⟩ (fun H locs hP hS => ?_)
      refine lv_icmp_eq (tgt := 735) hx hb dL_law_717 (by decide) (fun c_1 => ?_) (fun c_1 => absurd rfl c_1)
      exact hnext σ2 H locs ls hJ2 hP hS hl
    by_cases c_30 : w = (20 : Int32)
    · refine mm_tabIn0 (off := 690) (tgt := 722) X (20 : Int32) c_30 dL_law_32 (by decide +kernel) (by decide +kernel) (by decide) ?_
      obtain ⟨v, σ1, σ2, e1, e2, hJ2⟩ := hall.2.2.2.2.2.2.2.2.2.2.2.2.2.2.2.2.2.2.2.2
      refine lv_aload_n hx hb dL_law_722 rfl (lv_at hl 2 rfl) ?_
      refine ml_callV X hP hS hsub hl.1 [] [] (cx_X10_play l D (m_ad s.heap.size) cA hI σ v σ1 e1) kp_9 rfl rfl wd_759 wd_760 wd_761 wd_1 wd_762 hdl_X10_play ⟨Nat.le_of_ble_eq_true rfl, Nat.le_of_ble_eq_true rfl⟩ rfl (Nat.le_of_ble_eq_true rfl) dL_law_723 ⟨Nat.le_refl _, Nat.le_refl _⟩ (fun H locs hP hS => ?_)
      refine lv_aload_n hx hb dL_law_726 rfl (lv_at hl 3 rfl) ?_
      refine ml_callV X hP hS hsub hl.1 [] [.int v] (cx_X11_play l D (m_ad s.heap.size) cA hI σ1 v σ2 e2) kp_30 rfl rfl wd_1144 wd_1145 wd_1146 wd_12 wd_1147 hdl_X11_play ⟨Nat.le_of_ble_eq_true rfl, Nat.le_of_ble_eq_true rfl⟩ rfl (Nat.le_of_ble_eq_true rfl) dL_law_727 ⟨Nat.le_refl _, Nat.le_refl _⟩ (fun H locs hP hS => ?_)
      refine lv_icmp_eq (tgt := 735) hx hb dL_law_730 (by decide) (fun c_1 => ?_) (fun c_1 => absurd rfl c_1)
      exact hnext σ2 H locs ls hJ2 hP hS hl
    refine lv_tableOut (tgt := 735) hx hb dL_law_32 (by have q_0 := lv_neT c_10 (a := 0) (by decide); have q_1 := lv_neT c_11 (a := 1) (by decide); have q_2 := lv_neT c_12 (a := 2) (by decide); have q_3 := lv_neT c_13 (a := 3) (by decide); have q_4 := lv_neT c_14 (a := 4) (by decide); have q_5 := lv_neT c_15 (a := 5) (by decide); have q_6 := lv_neT c_16 (a := 6) (by decide); have q_7 := lv_neT c_17 (a := 7) (by decide); have q_8 := lv_neT c_18 (a := 8) (by decide); have q_9 := lv_neT c_19 (a := 9) (by decide); have q_10 := lv_neT c_20 (a := 10) (by decide); have q_11 := lv_neT c_21 (a := 11) (by decide); have q_12 := lv_neT c_22 (a := 12) (by decide); have q_13 := lv_neT c_23 (a := 13) (by decide); have q_14 := lv_neT c_24 (a := 14) (by decide); have q_15 := lv_neT c_25 (a := 15) (by decide); have q_16 := lv_neT c_26 (a := 16) (by decide); have q_17 := lv_neT c_27 (a := 17) (by decide); have q_18 := lv_neT c_28 (a := 18) (by decide); have q_19 := lv_neT c_29 (a := 19) (by decide); have q_20 := lv_neT c_30 (a := 20) (by decide); omega) (by decide) ?_
    exact hnext σ H locs ls (hJ.1 k σ hJk) hP hS hl
