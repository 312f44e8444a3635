def fx_X10_would_L42 (x1 : Int32) (x2 : Int32) (x3 : Int32)  : Nat → Int32 → mm_M → mm_R
  | 0, _, _ => none
  | fu + 1, v5, σ => if x2 ≤ v5 then mm_gd (mm_ix x1 4 = true) (mm_bd (fx_X3_value 1 x1.toNatClampNeg x3 σ) fun r_10 s_10 => (some (r_10, s_10))) else mm_bd (fx_X7_runNext 1 σ) fun r_11 s_11 => (mm_li (v5 + (1 : Int32)) fun y_12 => (fx_X10_would_L42 x1 x2 x3 fu y_12 s_11))
set_option maxHeartbeats 4000000 in
set_option maxRecDepth 100000 in
theorem cx_X10_would_L42 {p : Program} {l : Launch} {e : Env} {s : State} {m : MethodId} {args : Array Value} {below : List Frame} {meth : Method} {c : Code} {D : va_G} {ad : mm_A} {cA : Nat → ClassId} (x1 : Int32) (x2 : Int32) (x3 : Int32)  (rv : Int32) (σ1 : mm_M)  (X : mm_X p s m args meth c cX10_would 6 (some .int) RX10 D ad cA) : ∀ (fu : Nat), ∀ (v5 : Int32) (σ : mm_M) (H : Heap) (locs : List Loc) (ls : Array Slot), fx_X10_would_L42 x1 x2 x3 fu v5 σ = some (rv, σ1) → va_P D vwCl (mm_wd ad cA σ) H → va_S (mm_AS ad) s.heap H locs → lv_has ls 6 [(0, .ref (ad 6 9 0)), (1, .int x1), (2, .int x2), (3, .int x3), (4, .ref (ad 1 0 0)), (5, .int v5)] → W p l e (mm_rm 5 114) s m args below meth c H locs 0 0 (MQ below (mm_Q D ad cA (some (.int rv)) σ1) args s 0 0 (mm_AS ad)) (F0 m 42 ls []) := by
  have hx := X.1
  have hb := X.2.1
  have hI := X.2.2.2.2.2.2.2.2.2
  intro fu
  induction fu with
  | zero =>
    intro v5 σ H locs ls hf
    exact mm_no hf
  | succ fu ih =>
    intro v5 σ H locs ls hf hP hS hl
    rw [fx_X10_would_L42] at hf
    refine lv_iload hx hb dX10_would_42 (lv_at hl 5 rfl) ?_
    refine lv_iload_n hx hb dX10_would_44 rfl (lv_at hl 2 rfl) ?_
    refine lv_icmp_ge (tgt := 64) hx hb dX10_would_45 (by decide) (fun c_8 => ?_) (fun c_8 => ?_)
    · replace hf := mm_it c_8 hf
      refine lv_aload hx hb dX10_would_64 (lv_at hl 4 rfl) ?_
      refine gf_0_1 X hP (by decide) wd_113 dX10_would_66 ?_
      refine lv_iload_n hx hb dX10_would_69 rfl (lv_at hl 1 rfl) ?_
      obtain ⟨h_9, hf⟩ := mm_gd_ok hf
      refine mm_cart X hP (by decide) h_9 dX10_would_70 ?_
      refine lv_iload_n hx hb dX10_would_71 rfl (lv_at hl 3 rfl) ?_
      obtain ⟨r_10, s_10, e_10, hf⟩ := mm_bd_ok hf
      refine mm_callV X hP hS hl.1 [.int x3] [] (cx_X3_value l D ad cA hI 1 x1.toNatClampNeg x3 (by decide) (mm_ix_lt h_9) σ r_10 s_10 e_10) (mm_kc 1 (by decide) x1.toNatClampNeg (mm_ix_lt h_9) 0 (by decide)) rfl rfl wd_397 wd_398 wd_399 wd_4 wd_400 hd_X3_value ⟨Nat.le_of_ble_eq_true rfl, Nat.le_of_ble_eq_true rfl⟩ rfl (Nat.le_of_ble_eq_true rfl) dX10_would_72 (fun H locs hP hS => ?_)
      obtain ⟨rfl, rfl⟩ := mm_ret hf
      exact mm_iret X hP hS dX10_would_75
    · replace hf := mm_if c_8 hf
      refine lv_aload_n hx hb dX10_would_48 rfl (lv_at hl 0 rfl) ?_
      refine gf_9_3 X hP  wd_286 dX10_would_49 ?_
      refine lv_aload hx hb dX10_would_52 (lv_at hl 4 rfl) ?_
      obtain ⟨r_11, s_11, e_11, hf⟩ := mm_bd_ok hf
      refine mm_callV X hP hS hl.1 [.ref (ad 1 0 0)] [] (cx_X7_runNext l D ad cA hI 1 (by decide) σ r_11 s_11 e_11) kp_12 rfl rfl wd_676 wd_577 wd_578 wd_6 wd_579 hd_X7_runNext ⟨Nat.le_of_ble_eq_true rfl, Nat.le_of_ble_eq_true rfl⟩ rfl (Nat.le_of_ble_eq_true rfl) dX10_would_54 (fun H locs hP hS => ?_)
      refine lv_pop hx hb dX10_would_57 rfl ?_
      obtain ⟨y_12, e_12, hf⟩ := mm_li_ok hf
      refine lv_iinc (v := y_12) (lv' := [(5, .int y_12), (0, .ref (ad 6 9 0)), (1, .int x1), (2, .int x2), (3, .int x3), (4, .ref (ad 1 0 0))]) hx hb dX10_would_58 hl (k := 5) rfl (by rw [e_12]; rfl) (by decide) rfl (fun ls hl => ?_)
      refine lv_goto (tgt := 42) hx hb dX10_would_61 (by decide) ?_
      exact ih y_12 s_11 H locs ls  hf hP hS (lv_sub hl [1, 2, 3, 4, 5, 0] rfl)
def fx_X10_would (x1 : Int32) (x2 : Int32) (x3 : Int32) (σ : mm_M) : mm_R := mm_bd (fx_X8_hasCart 0 x1 σ) fun r_1 s_1 => (if r_1 = (0 : Int32) then some ((-1000001 : Int32), s_1) else mm_bd (fx_X10_isWithin x2 (0 : Int32) (20 : Int32) s_1) fun r_3 s_3 => (if r_3 = (0 : Int32) then some ((-1000001 : Int32), s_3) else mm_bd (fx_X10_isWithin x3 (0 : Int32) (3 : Int32) s_3) fun r_5 s_5 => (if r_5 = (0 : Int32) then some ((-1000001 : Int32), s_5) else mm_bd (fx_X10_freshTrial  s_5) fun _ s_7 => (fx_X10_would_L42 x1 x2 x3 mm_FU (0 : Int32) s_7))))
set_option maxHeartbeats 4000000 in
set_option maxRecDepth 100000 in
theorem cx_X10_would (l : Launch) (D : va_G) (ad : mm_A) (cA : Nat → ClassId) (hI : mm_Inj ad) (x1 : Int32) (x2 : Int32) (x3 : Int32)  (σ : mm_M) (rv : Int32) (σ1 : mm_M) (hf : fx_X10_would x1 x2 x3 σ = some (rv, σ1)) : Met l yX10_would (Cond.code yX10_would cX10_would 6 (some .int) :: tb) (mm_rm 5 114) (mm_pre D ad cA [.ref (ad 6 9 0), .int x1, .int x2, .int x3] σ) (mm_Q D ad cA (some (.int rv)) σ1) 0 0 (mm_AS ad) := by
  refine mm_start (by decide +kernel) hI (Nat.le_of_ble_eq_true rfl) ?_
  intro p e s m args below meth c X hP ls hl
  have hl : lv_has ls 6 [(0, .ref (ad 6 9 0)), (1, .int x1), (2, .int x2), (3, .int x3)] := hl
  have hx := X.1
  have hb := X.2.1
  have hS : va_S (mm_AS ad) s.heap s.heap [] := va_S.rf
  have hgen : ∀ (H : Heap) (locs : List Loc), va_P D vwCl (mm_wd ad cA σ) H → va_S (mm_AS ad) s.heap H locs → W p l e (mm_rm 5 114) s m args below meth c H locs 0 0 (MQ below (mm_Q D ad cA (some (.int rv)) σ1) args s 0 0 (mm_AS ad)) (F0 m 0 ls []) := by
    intro H locs hP hS
    rw [fx_X10_would] at hf
    refine lv_aload_n hx hb dX10_would_0 rfl (lv_at hl 0 rfl) ?_
    refine gf_9_0 X hP  wd_283 dX10_would_1 ?_
    refine lv_iload_n hx hb dX10_would_4 rfl (lv_at hl 1 rfl) ?_
    obtain ⟨r_1, s_1, e_1, hf⟩ := mm_bd_ok hf
    refine mm_callV X hP hS hl.1 [.int x1] [] (cx_X8_hasCart l D ad cA hI 0 x1 (by decide) σ r_1 s_1 e_1) (mm_kr 0 (by decide) 0 (by decide)) rfl rfl wd_393 wd_394 wd_395 wd_2 wd_396 hd_X8_hasCart ⟨Nat.le_of_ble_eq_true rfl, Nat.le_of_ble_eq_true rfl⟩ rfl (Nat.le_of_ble_eq_true rfl) dX10_would_5 (fun H locs hP hS => ?_)
    refine lv_if_eq (tgt := 30) hx hb dX10_would_8 (by decide) (fun c_2 => ?_) (fun c_2 => ?_)
    · replace hf := mm_it c_2 hf
      refine lv_ldc (v := (-1000001 : Int32)) hx hb X.2.2.2.2.2.1 (X.2.2.2.2.2.2.1 _ wd_318) dX10_would_30 ?_
      obtain ⟨rfl, rfl⟩ := mm_ret hf
      exact mm_iret X hP hS dX10_would_32
    · replace hf := mm_if c_2 hf
      refine lv_iload_n hx hb dX10_would_11 rfl (lv_at hl 2 rfl) ?_
      refine lv_iconst (v := (0 : Int32)) hx hb dX10_would_12 (by decide) ?_
      refine lv_bipush (v := (20 : Int32)) hx hb dX10_would_13 (by decide) ?_
      obtain ⟨r_3, s_3, e_3, hf⟩ := mm_bd_ok hf
      refine mm_callS X hP hS hl.1 [.int x2, .int (0 : Int32), .int (20 : Int32)] [] (cx_X10_isWithin l D ad cA hI x2 (0 : Int32) (20 : Int32) s_1 r_3 s_3 e_3) wd_364 wd_365 wd_1 wd_366 hd_X10_isWithin ⟨Nat.le_of_ble_eq_true rfl, Nat.le_of_ble_eq_true rfl⟩ rfl (Nat.le_of_ble_eq_true rfl) dX10_would_15 (fun H locs hP hS => ?_)
      refine lv_if_eq (tgt := 30) hx hb dX10_would_18 (by decide) (fun c_4 => ?_) (fun c_4 => ?_)
      · replace hf := mm_it c_4 hf
        refine lv_ldc (v := (-1000001 : Int32)) hx hb X.2.2.2.2.2.1 (X.2.2.2.2.2.2.1 _ wd_318) dX10_would_30 ?_
        obtain ⟨rfl, rfl⟩ := mm_ret hf
        exact mm_iret X hP hS dX10_would_32
      · replace hf := mm_if c_4 hf
        refine lv_iload_n hx hb dX10_would_21 rfl (lv_at hl 3 rfl) ?_
        refine lv_iconst (v := (0 : Int32)) hx hb dX10_would_22 (by decide) ?_
        refine lv_iconst (v := (3 : Int32)) hx hb dX10_would_23 (by decide) ?_
        obtain ⟨r_5, s_5, e_5, hf⟩ := mm_bd_ok hf
        refine mm_callS X hP hS hl.1 [.int x3, .int (0 : Int32), .int (3 : Int32)] [] (cx_X10_isWithin l D ad cA hI x3 (0 : Int32) (3 : Int32) s_3 r_5 s_5 e_5) wd_364 wd_365 wd_1 wd_366 hd_X10_isWithin ⟨Nat.le_of_ble_eq_true rfl, Nat.le_of_ble_eq_true rfl⟩ rfl (Nat.le_of_ble_eq_true rfl) dX10_would_24 (fun H locs hP hS => ?_)
        refine lv_if_ne (tgt := 33) hx hb dX10_would_27 (by decide) (fun c_6 => ?_) (fun c_6 => ?_)
        · replace hf := mm_if c_6 hf
          refine lv_aload_n hx hb dX10_would_33 rfl (lv_at hl 0 rfl) ?_
          obtain ⟨r_7, s_7, e_7, hf⟩ := mm_bd_ok hf
          refine mm_callV X hP hS hl.1 [] [] (cx_X10_freshTrial l D ad cA hI  s_5 r_7 s_7 e_7) kp_9 rfl rfl wd_441 wd_443 wp_0 wd_1 wd_444 hd_X10_freshTrial ⟨Nat.le_of_ble_eq_true rfl, Nat.le_of_ble_eq_true rfl⟩ rfl (Nat.le_of_ble_eq_true rfl) dX10_would_34 (fun H locs hP hS => ?_)
          refine lv_astore (lv' := [(4, .ref (ad 1 0 0)), (0, .ref (ad 6 9 0)), (1, .int x1), (2, .int x2), (3, .int x3)]) hx hb dX10_would_37 hl (by decide) rfl (fun ls hl => ?_)
          refine lv_iconst (v := (0 : Int32)) hx hb dX10_would_39 (by decide) ?_
          refine lv_istore (lv' := [(5, .int (0 : Int32)), (4, .ref (ad 1 0 0)), (0, .ref (ad 6 9 0)), (1, .int x1), (2, .int x2), (3, .int x3)]) hx hb dX10_would_40 hl (by decide) rfl (fun ls hl => ?_)
          exact cx_X10_would_L42 x1 x2 x3 rv σ1 X mm_FU (0 : Int32) s_7 H locs ls hf hP hS (lv_sub hl [2, 3, 4, 5, 1, 0] rfl)
        · replace hf := mm_it c_6 hf
          refine lv_ldc (v := (-1000001 : Int32)) hx hb X.2.2.2.2.2.1 (X.2.2.2.2.2.2.1 _ wd_318) dX10_would_30 ?_
          obtain ⟨rfl, rfl⟩ := mm_ret hf
          exact mm_iret X hP hS dX10_would_32
  exact hgen _ _ hP hS
def fx_J9_abs_0f7a4 (x0 : Int32) (σ : mm_M) : mm_R := if (0 : Int32) ≤ x0 then some (x0, σ) else some (-x0, σ)
set_option maxHeartbeats 4000000 in
set_option maxRecDepth 100000 in
theorem cx_J9_abs_0f7a4 (l : Launch) (D : va_G) (ad : mm_A) (cA : Nat → ClassId) (hI : mm_Inj ad) (x0 : Int32)  (σ : mm_M) (rv : Int32) (σ1 : mm_M) (hf : fx_J9_abs_0f7a4 x0 σ = some (rv, σ1)) : Met l yJ9_abs_0f7a4 (Cond.code yJ9_abs_0f7a4 cJ9_abs_0f7a4 1 (some .int) :: tb) (mm_rm 0 0) (mm_pre D ad cA [.int x0] σ) (mm_Q D ad cA (some (.int rv)) σ1) 0 0 (mm_AS ad) := by
  refine mm_startF (by decide +kernel) hI (Nat.le_of_ble_eq_true rfl) ?_
  intro p e s m args below meth c X hP ls hl
  have hl : lv_has ls 1 [(0, .int x0)] := hl
  have hx := X.1
  have hb := X.2.1
  have hS : va_S (mm_AS ad) s.heap s.heap [] := va_S.rf
  have hgen : ∀ (H : Heap) (locs : List Loc), va_P D vwCl (mm_wd ad cA σ) H → va_S (mm_AS ad) s.heap H locs → W p l e (mm_rm 0 0) s m args below meth c H locs 0 0 (MQ below (mm_Q D ad cA (some (.int rv)) σ1) args s 0 0 (mm_AS ad)) (F0 m 0 ls []) := by
    intro H locs hP hS
    rw [fx_J9_abs_0f7a4] at hf
    refine lv_iload_n hx hb dJ9_abs_0f7a4_0 rfl (lv_at hl 0 rfl) ?_
    refine lv_if_ge (tgt := 9) hx hb dJ9_abs_0f7a4_1 (by decide) (fun c_1 => ?_) (fun c_1 => ?_)
    · replace hf := mm_it c_1 hf
      refine lv_iload_n hx hb dJ9_abs_0f7a4_9 rfl (lv_at hl 0 rfl) ?_
      obtain ⟨rfl, rfl⟩ := mm_ret hf
      exact mm_iret X hP hS dJ9_abs_0f7a4_10
    · replace hf := mm_if c_1 hf
      refine lv_iload_n hx hb dJ9_abs_0f7a4_4 rfl (lv_at hl 0 rfl) ?_
      refine lv_ineg hx hb dJ9_abs_0f7a4_5 ?_
      refine lv_goto (tgt := 10) hx hb dJ9_abs_0f7a4_6 (by decide) ?_
      obtain ⟨rfl, rfl⟩ := mm_ret hf
      exact mm_iret X hP hS dJ9_abs_0f7a4_10
  exact hgen _ _ hP hS
def fx_X1_distance (x0 : Int32) (x1 : Int32) (σ : mm_M) : mm_R := mm_bd (fx_J9_abs_0f7a4 ((x0 - x0 / (8 : Int32) * (8 : Int32)) - (x1 - x1 / (8 : Int32) * (8 : Int32))) σ) fun r_1 s_1 => (mm_bd (fx_J9_abs_0f7a4 ((x0 / (8 : Int32)) - (x1 / (8 : Int32))) s_1) fun r_2 s_2 => (some (r_1 + r_2, s_2)))
set_option maxHeartbeats 4000000 in
set_option maxRecDepth 100000 in
theorem cx_X1_distance (l : Launch) (D : va_G) (ad : mm_A) (cA : Nat → ClassId) (hI : mm_Inj ad) (x0 : Int32) (x1 : Int32)  (σ : mm_M) (rv : Int32) (σ1 : mm_M) (hf : fx_X1_distance x0 x1 σ = some (rv, σ1)) : Met l yX1_distance (Cond.code yX1_distance cX1_distance 2 (some .int) :: tb) (mm_rm 1 20) (mm_pre D ad cA [.int x0, .int x1] σ) (mm_Q D ad cA (some (.int rv)) σ1) 0 0 (mm_AS ad) := by
  refine mm_start (by decide +kernel) hI (Nat.le_of_ble_eq_true rfl) ?_
  intro p e s m args below meth c X hP ls hl
  have hl : lv_has ls 2 [(0, .int x0), (1, .int x1)] := hl
  have hx := X.1
  have hb := X.2.1
  have hS : va_S (mm_AS ad) s.heap s.heap [] := va_S.rf
  have hgen : ∀ (H : Heap) (locs : List Loc), va_P D vwCl (mm_wd ad cA σ) H → va_S (mm_AS ad) s.heap H locs → W p l e (mm_rm 1 20) s m args below meth c H locs 0 0 (MQ below (mm_Q D ad cA (some (.int rv)) σ1) args s 0 0 (mm_AS ad)) (F0 m 0 ls []) := by
    intro H locs hP hS
    rw [fx_X1_distance] at hf
    refine lv_iload_n hx hb dX1_distance_0 rfl (lv_at hl 0 rfl) ?_
    refine lv_bipush (v := (8 : Int32)) hx hb dX1_distance_1 (by decide) ?_
    refine lv_irem hx hb dX1_distance_3 (by decide) ?_
    refine lv_iload_n hx hb dX1_distance_4 rfl (lv_at hl 1 rfl) ?_
    refine lv_bipush (v := (8 : Int32)) hx hb dX1_distance_5 (by decide) ?_
    refine lv_irem hx hb dX1_distance_7 (by decide) ?_
    refine lv_isub hx hb dX1_distance_8 ?_
    obtain ⟨r_1, s_1, e_1, hf⟩ := mm_bd_ok hf
    refine mm_callS X hP hS hl.1 [.int ((x0 - x0 / (8 : Int32) * (8 : Int32)) - (x1 - x1 / (8 : Int32) * (8 : Int32)))] [] (cx_J9_abs_0f7a4 l D ad cA hI ((x0 - x0 / (8 : Int32) * (8 : Int32)) - (x1 - x1 / (8 : Int32) * (8 : Int32))) σ r_1 s_1 e_1) wd_691 wd_692 wd_12 wd_693 hd_J9_abs_0f7a4 ⟨Nat.le_of_ble_eq_true rfl, Nat.le_of_ble_eq_true rfl⟩ rfl (Nat.le_of_ble_eq_true rfl) dX1_distance_9 (fun H locs hP hS => ?_)
    refine lv_iload_n hx hb dX1_distance_12 rfl (lv_at hl 0 rfl) ?_
    refine lv_bipush (v := (8 : Int32)) hx hb dX1_distance_13 (by decide) ?_
    refine lv_idiv hx hb dX1_distance_15 (by decide) ?_
    refine lv_iload_n hx hb dX1_distance_16 rfl (lv_at hl 1 rfl) ?_
    refine lv_bipush (v := (8 : Int32)) hx hb dX1_distance_17 (by decide) ?_
    refine lv_idiv hx hb dX1_distance_19 (by decide) ?_
    refine lv_isub hx hb dX1_distance_20 ?_
    obtain ⟨r_2, s_2, e_2, hf⟩ := mm_bd_ok hf
    refine mm_callS X hP hS hl.1 [.int ((x0 / (8 : Int32)) - (x1 / (8 : Int32)))] [.int r_1] (cx_J9_abs_0f7a4 l D ad cA hI ((x0 / (8 : Int32)) - (x1 / (8 : Int32))) s_1 r_2 s_2 e_2) wd_691 wd_692 wd_12 wd_693 hd_J9_abs_0f7a4 ⟨Nat.le_of_ble_eq_true rfl, Nat.le_of_ble_eq_true rfl⟩ rfl (Nat.le_of_ble_eq_true rfl) dX1_distance_21 (fun H locs hP hS => ?_)
    refine lv_iadd hx hb dX1_distance_24 ?_
    obtain ⟨rfl, rfl⟩ := mm_ret hf
    exact mm_iret X hP hS dX1_distance_25
  exact hgen _ _ hP hS
def fx_X10_distanceBehind (x1 : Int32) (x2 : Int32) (x3 : Int32) (x4 : Int32) (σ : mm_M) : mm_R := mm_bd (fx_X10_freshTrial  σ) fun _ s_1 => (mm_gd (mm_ix x1 4 = true) (mm_bd (fx_X3_lay 1 x1.toNatClampNeg (s_1 1 0 0 3) x2 x3 s_1) fun _ s_3 => (mm_li (s_3 1 6 x1.toNatClampNeg 7) fun y_4 => (mm_bd (fx_X7_runNext 1 s_3) fun r_5 s_5 => (if (s_5 1 6 x1.toNatClampNeg 7) = y_4 then mm_bd (fx_X3_isOut 1 x1.toNatClampNeg s_5) fun r_7 s_7 => (if r_7 = (0 : Int32) then mm_bd (fx_X1_distance (s_7 1 6 x1.toNatClampNeg 3) x4 s_7) fun r_9 s_9 => (some (r_9, s_9)) else some ((-1 : Int32), s_7)) else some ((-1 : Int32), s_5))))))
set_option maxHeartbeats 4000000 in
set_option maxRecDepth 100000 in
theorem cx_X10_distanceBehind (l : Launch) (D : va_G) (ad : mm_A) (cA : Nat → ClassId) (hI : mm_Inj ad) (x1 : Int32) (x2 : Int32) (x3 : Int32) (x4 : Int32)  (σ : mm_M) (rv : Int32) (σ1 : mm_M) (hf : fx_X10_distanceBehind x1 x2 x3 x4 σ = some (rv, σ1)) : Met l yX10_distanceBehind (Cond.code yX10_distanceBehind cX10_distanceBehind 8 (some .int) :: tb) (mm_rm 5 114) (mm_pre D ad cA [.ref (ad 6 9 0), .int x1, .int x2, .int x3, .int x4] σ) (mm_Q D ad cA (some (.int rv)) σ1) 0 0 (mm_AS ad) := by
  refine mm_start (by decide +kernel) hI (Nat.le_of_ble_eq_true rfl) ?_
  intro p e s m args below meth c X hP ls hl
  have hl : lv_has ls 8 [(0, .ref (ad 6 9 0)), (1, .int x1), (2, .int x2), (3, .int x3), (4, .int x4)] := hl
  have hx := X.1
  have hb := X.2.1
  have hS : va_S (mm_AS ad) s.heap s.heap [] := va_S.rf
  have hgen : ∀ (H : Heap) (locs : List Loc), va_P D vwCl (mm_wd ad cA σ) H → va_S (mm_AS ad) s.heap H locs → W p l e (mm_rm 5 114) s m args below meth c H locs 0 0 (MQ below (mm_Q D ad cA (some (.int rv)) σ1) args s 0 0 (mm_AS ad)) (F0 m 0 ls []) := by
    intro H locs hP hS
    rw [fx_X10_distanceBehind] at hf
    refine lv_aload_n hx hb dX10_distanceBehind_0 rfl (lv_at hl 0 rfl) ?_
    obtain ⟨r_1, s_1, e_1, hf⟩ := mm_bd_ok hf
    refine mm_callV X hP hS hl.1 [] [] (cx_X10_freshTrial l D ad cA hI  σ r_1 s_1 e_1) kp_9 rfl rfl wd_441 wd_443 wp_0 wd_1 wd_444 hd_X10_freshTrial ⟨Nat.le_of_ble_eq_true rfl, Nat.le_of_ble_eq_true rfl⟩ rfl (Nat.le_of_ble_eq_true rfl) dX10_distanceBehind_1 (fun H locs hP hS => ?_)
    refine lv_astore (lv' := [(5, .ref (ad 1 0 0)), (0, .ref (ad 6 9 0)), (1, .int x1), (2, .int x2), (3, .int x3), (4, .int x4)]) hx hb dX10_distanceBehind_4 hl (by decide) rfl (fun ls hl => ?_)
    refine lv_aload hx hb dX10_distanceBehind_6 (lv_at hl 0 rfl) ?_
    refine gf_0_1 X hP (by decide) wd_113 dX10_distanceBehind_8 ?_
    refine lv_iload_n hx hb dX10_distanceBehind_11 rfl (lv_at hl 2 rfl) ?_
    obtain ⟨h_2, hf⟩ := mm_gd_ok hf
    refine mm_cart X hP (by decide) h_2 dX10_distanceBehind_12 ?_
    refine lv_astore (lv' := [(6, .ref (ad 1 6 x1.toNatClampNeg)), (5, .ref (ad 1 0 0)), (0, .ref (ad 6 9 0)), (1, .int x1), (2, .int x2), (3, .int x3), (4, .int x4)]) hx hb dX10_distanceBehind_13 hl (by decide) rfl (fun ls hl => ?_)
    refine lv_aload hx hb dX10_distanceBehind_15 (lv_at hl 0 rfl) ?_
    refine lv_aload hx hb dX10_distanceBehind_17 (lv_at hl 1 rfl) ?_
    refine gf_0_3 X hP (by decide) wd_122 dX10_distanceBehind_19 ?_
    refine lv_iload_n hx hb dX10_distanceBehind_22 rfl (lv_at hl 4 rfl) ?_
    refine lv_iload_n hx hb dX10_distanceBehind_23 rfl (lv_at hl 5 rfl) ?_
    obtain ⟨r_3, s_3, e_3, hf⟩ := mm_bd_ok hf
    refine mm_callV X hP hS hl.1 [.int (s_1 1 0 0 3), .int x2, .int x3] [] (cx_X3_lay l D ad cA hI 1 x1.toNatClampNeg (s_1 1 0 0 3) x2 x3 (by decide) (mm_ix_lt h_2) s_1 r_3 s_3 e_3) (mm_kc 1 (by decide) x1.toNatClampNeg (mm_ix_lt h_2) 0 (by decide)) rfl rfl wd_687 wd_542 wd_543 wd_4 wd_544 hd_X3_lay ⟨Nat.le_of_ble_eq_true rfl, Nat.le_of_ble_eq_true rfl⟩ rfl (Nat.le_of_ble_eq_true rfl) dX10_distanceBehind_24 (fun H locs hP hS => ?_)
    refine lv_aload hx hb dX10_distanceBehind_27 (lv_at hl 0 rfl) ?_
    refine gf_6_7 X hP (by decide) (mm_ix_lt h_2) wd_85 dX10_distanceBehind_29 ?_
    obtain ⟨y_4, e_4, hf⟩ := mm_li_ok hf
    rw [← e_4]
    refine lv_istore (lv' := [(7, .int y_4), (6, .ref (ad 1 6 x1.toNatClampNeg)), (5, .ref (ad 1 0 0)), (0, .ref (ad 6 9 0)), (1, .int x1), (2, .int x2), (3, .int x3), (4, .int x4)]) hx hb dX10_distanceBehind_32 hl (by decide) rfl (fun ls hl => ?_)
    refine lv_aload_n hx hb dX10_distanceBehind_34 rfl (lv_at hl 3 rfl) ?_
    refine gf_9_3 X hP  wd_286 dX10_distanceBehind_35 ?_
    refine lv_aload hx hb dX10_distanceBehind_38 (lv_at hl 2 rfl) ?_
    obtain ⟨r_5, s_5, e_5, hf⟩ := mm_bd_ok hf
    refine mm_callV X hP hS hl.1 [.ref (ad 1 0 0)] [] (cx_X7_runNext l D ad cA hI 1 (by decide) s_3 r_5 s_5 e_5) kp_12 rfl rfl wd_676 wd_577 wd_578 wd_6 wd_579 hd_X7_runNext ⟨Nat.le_of_ble_eq_true rfl, Nat.le_of_ble_eq_true rfl⟩ rfl (Nat.le_of_ble_eq_true rfl) dX10_distanceBehind_40 (fun H locs hP hS => ?_)
    refine lv_pop hx hb dX10_distanceBehind_43 rfl ?_
    refine lv_aload hx hb dX10_distanceBehind_44 (lv_at hl 1 rfl) ?_
    refine gf_6_7 X hP (by decide) (mm_ix_lt h_2) wd_85 dX10_distanceBehind_46 ?_
    refine lv_iload hx hb dX10_distanceBehind_49 (lv_at hl 0 rfl) ?_
    refine lv_icmp_ne (tgt := 62) hx hb dX10_distanceBehind_51 (by decide) (fun c_6 => ?_) (fun c_6 => ?_)
    · replace hf := mm_if c_6 hf
      refine lv_iconst (v := (-1 : Int32)) hx hb dX10_distanceBehind_62 (by decide) ?_
      obtain ⟨rfl, rfl⟩ := mm_ret hf
      exact mm_iret X hP hS dX10_distanceBehind_63
    · replace hf := mm_it c_6 hf
      refine lv_aload hx hb dX10_distanceBehind_54 (lv_at hl 1 rfl) ?_
      obtain ⟨r_7, s_7, e_7, hf⟩ := mm_bd_ok hf
      refine mm_callV X hP hS hl.1 [] [] (cx_X3_isOut l D ad cA hI 1 x1.toNatClampNeg (by decide) (mm_ix_lt h_2) s_5 r_7 s_7 e_7) (mm_kc 1 (by decide) x1.toNatClampNeg (mm_ix_lt h_2) 0 (by decide)) rfl rfl wd_681 wd_314 wd_315 wd_4 wd_316 hd_X3_isOut ⟨Nat.le_of_ble_eq_true rfl, Nat.le_of_ble_eq_true rfl⟩ rfl (Nat.le_of_ble_eq_true rfl) dX10_distanceBehind_56 (fun H locs hP hS => ?_)
      refine lv_if_eq (tgt := 64) hx hb dX10_distanceBehind_59 (by decide) (fun c_8 => ?_) (fun c_8 => ?_)
      · replace hf := mm_it c_8 hf
        refine lv_aload hx hb dX10_distanceBehind_64 (lv_at hl 1 rfl) ?_
        refine gf_6_3 X hP (by decide) (mm_ix_lt h_2) wd_74 dX10_distanceBehind_66 ?_
        refine lv_iload hx hb dX10_distanceBehind_69 (lv_at hl 7 rfl) ?_
        obtain ⟨r_9, s_9, e_9, hf⟩ := mm_bd_ok hf
        refine mm_callS X hP hS hl.1 [.int (s_7 1 6 x1.toNatClampNeg 3), .int x4] [] (cx_X1_distance l D ad cA hI (s_7 1 6 x1.toNatClampNeg 3) x4 s_7 r_9 s_9 e_9) wd_688 wd_689 wd_3 wd_690 hd_X1_distance ⟨Nat.le_of_ble_eq_true rfl, Nat.le_of_ble_eq_true rfl⟩ rfl (Nat.le_of_ble_eq_true rfl) dX10_distanceBehind_71 (fun H locs hP hS => ?_)
        obtain ⟨rfl, rfl⟩ := mm_ret hf
        exact mm_iret X hP hS dX10_distanceBehind_74
      · replace hf := mm_if c_8 hf
        refine lv_iconst (v := (-1 : Int32)) hx hb dX10_distanceBehind_62 (by decide) ?_
        obtain ⟨rfl, rfl⟩ := mm_ret hf
        exact mm_iret X hP hS dX10_distanceBehind_63
  exact hgen _ _ hP hS
def fx_X10_best_J154 (x1 : Int32) (x2 : Int32) (x3 : Int32) (k116 : Int32 → Int32 → Int32 → Int32 → mm_M → mm_R) (v5 : Int32) (v8 : Int32) (v9 : Int32) (σ : mm_M) : mm_R := mm_li (v8 + (1 : Int32)) fun y_24 => (k116 v5 v8 v9 y_24 σ)
set_option maxHeartbeats 4000000 in
set_option maxRecDepth 100000 in
theorem cx_X10_best_J154 {p : Program} {l : Launch} {e : Env} {s : State} {m : MethodId} {args : Array Value} {below : List Frame} {meth : Method} {c : Code} {D : va_G} {ad : mm_A} {cA : Nat → ClassId} (x1 : Int32) (x2 : Int32) (x3 : Int32)  (rv : Int32) (σ1 : mm_M) (k116 : Int32 → Int32 → Int32 → Int32 → mm_M → mm_R) (hk116 : ∀ (v5 : Int32) (v6 : Int32) (v7 : Int32) (v8 : Int32) (σ : mm_M) (H : Heap) (locs : List Loc) (ls : Array Slot), k116 v5 v6 v7 v8 σ = some (rv, σ1) → va_P D vwCl (mm_wd ad cA σ) H → va_S (mm_AS ad) s.heap H locs → lv_has ls 10 [(0, .ref (ad 6 9 0)), (1, .int x1), (2, .int x2), (3, .int x3), (5, .int v5), (6, .int v6), (7, .int v7), (8, .int v8)] → W p l e (mm_rm 6 141) s m args below meth c H locs 0 0 (MQ below (mm_Q D ad cA (some (.int rv)) σ1) args s 0 0 (mm_AS ad)) (F0 m 116 ls [])) (X : mm_X p s m args meth c cX10_best 10 (some .int) RX10 D ad cA) : ∀ (v5 : Int32) (v8 : Int32) (v9 : Int32) (σ : mm_M) (H : Heap) (locs : List Loc) (ls : Array Slot), fx_X10_best_J154 x1 x2 x3 k116 v5 v8 v9 σ = some (rv, σ1) → va_P D vwCl (mm_wd ad cA σ) H → va_S (mm_AS ad) s.heap H locs → lv_has ls 10 [(0, .ref (ad 6 9 0)), (1, .int x1), (2, .int x2), (3, .int x3), (5, .int v5), (8, .int v8), (9, .int v9)] → W p l e (mm_rm 6 141) s m args below meth c H locs 0 0 (MQ below (mm_Q D ad cA (some (.int rv)) σ1) args s 0 0 (mm_AS ad)) (F0 m 154 ls []) := by
  have hx := X.1
  have hb := X.2.1
  have hI := X.2.2.2.2.2.2.2.2.2
  intro v5 v8 v9 σ H locs ls hf hP hS hl
  rw [fx_X10_best_J154] at hf
  refine lv_iload hx hb dX10_best_154 (lv_at hl 5 rfl) ?_
  refine lv_istore (lv' := [(6, .int v8), (0, .ref (ad 6 9 0)), (1, .int x1), (2, .int x2), (3, .int x3), (5, .int v5), (8, .int v8), (9, .int v9)]) hx hb dX10_best_156 hl (by decide) rfl (fun ls hl => ?_)
  refine lv_iload hx hb dX10_best_158 (lv_at hl 7 rfl) ?_
  refine lv_istore (lv' := [(7, .int v9), (6, .int v8), (0, .ref (ad 6 9 0)), (1, .int x1), (2, .int x2), (3, .int x3), (5, .int v5), (8, .int v8), (9, .int v9)]) hx hb dX10_best_160 hl (by decide) rfl (fun ls hl => ?_)
  obtain ⟨y_24, e_24, hf⟩ := mm_li_ok hf
  refine lv_iinc (v := y_24) (lv' := [(8, .int y_24), (7, .int v9), (6, .int v8), (0, .ref (ad 6 9 0)), (1, .int x1), (2, .int x2), (3, .int x3), (5, .int v5), (9, .int v9)]) hx hb dX10_best_162 hl (k := 7) rfl (by rw [e_24]; rfl) (by decide) rfl (fun ls hl => ?_)
  refine lv_goto (tgt := 116) hx hb dX10_best_165 (by decide) ?_
  exact hk116 v5 v8 v9 y_24 σ H locs ls  hf hP hS (lv_sub hl [3, 4, 5, 6, 7, 2, 1, 0] rfl)
def fx_X10_best_L116 (x1 : Int32) (x2 : Int32) (x3 : Int32)  : Nat → Int32 → Int32 → Int32 → Int32 → mm_M → mm_R
  | 0, _, _, _, _, _ => none
  | fu + 1, v5, v6, v7, v8, σ => if (6 : Int32) < v8 then if v6 = (-1 : Int32) then some ((-1000004 : Int32), σ) else if x3 = (0 : Int32) then some (v6, σ) else some (v7, σ) else mm_bd (fx_X10_distanceBehind x1 v8 x2 v5 σ) fun r_18 s_18 => (if r_18 = (-1 : Int32) then mm_li (v8 + (1 : Int32)) fun y_20 => (fx_X10_best_L116 x1 x2 x3 fu v5 v6 v7 y_20 s_18) else if v7 = (-1 : Int32) then fx_X10_best_J154 x1 x2 x3 (fun z0 z1 z2 z3 z => fx_X10_best_L116 x1 x2 x3 fu z0 z1 z2 z3 z) v5 v8 r_18 s_18 else if v7 ≤ r_18 then mm_li (v8 + (1 : Int32)) fun y_23 => (fx_X10_best_L116 x1 x2 x3 fu v5 v6 v7 y_23 s_18) else fx_X10_best_J154 x1 x2 x3 (fun z0 z1 z2 z3 z => fx_X10_best_L116 x1 x2 x3 fu z0 z1 z2 z3 z) v5 v8 r_18 s_18)
set_option maxHeartbeats 4000000 in
set_option maxRecDepth 100000 in
theorem cx_X10_best_L116 {p : Program} {l : Launch} {e : Env} {s : State} {m : MethodId} {args : Array Value} {below : List Frame} {meth : Method} {c : Code} {D : va_G} {ad : mm_A} {cA : Nat → ClassId} (x1 : Int32) (x2 : Int32) (x3 : Int32)  (rv : Int32) (σ1 : mm_M)  (X : mm_X p s m args meth c cX10_best 10 (some .int) RX10 D ad cA) : ∀ (fu : Nat), ∀ (v5 : Int32) (v6 : Int32) (v7 : Int32) (v8 : Int32) (σ : mm_M) (H : Heap) (locs : List Loc) (ls : Array Slot), fx_X10_best_L116 x1 x2 x3 fu v5 v6 v7 v8 σ = some (rv, σ1) → va_P D vwCl (mm_wd ad cA σ) H → va_S (mm_AS ad) s.heap H locs → lv_has ls 10 [(0, .ref (ad 6 9 0)), (1, .int x1), (2, .int x2), (3, .int x3), (5, .int v5), (6, .int v6), (7, .int v7), (8, .int v8)] → W p l e (mm_rm 6 141) s m args below meth c H locs 0 0 (MQ below (mm_Q D ad cA (some (.int rv)) σ1) args s 0 0 (mm_AS ad)) (F0 m 116 ls []) := by
  have hx := X.1
  have hb := X.2.1
  have hI := X.2.2.2.2.2.2.2.2.2
  intro fu
  induction fu with
  | zero =>
    intro v5 v6 v7 v8 σ H locs ls hf
    exact mm_no hf
  | succ fu ih =>
    intro v5 v6 v7 v8 σ H locs ls hf hP hS hl
    rw [fx_X10_best_L116] at hf
    refine lv_iload hx hb dX10_best_116 (lv_at hl 7 rfl) ?_
    refine lv_bipush (v := (6 : Int32)) hx hb dX10_best_118 (by decide) ?_
    refine lv_icmp_gt (tgt := 168) hx hb dX10_best_120 (by decide) (fun c_15 => ?_) (fun c_15 => ?_)
    · replace hf := mm_it c_15 hf
      refine lv_iload hx hb dX10_best_168 (lv_at hl 5 rfl) ?_
      refine lv_iconst (v := (-1 : Int32)) hx hb dX10_best_170 (by decide) ?_
      refine lv_icmp_ne (tgt := 177) hx hb dX10_best_171 (by decide) (fun c_16 => ?_) (fun c_16 => ?_)
      · replace hf := mm_if c_16 hf
        refine lv_iload_n hx hb dX10_best_177 rfl (lv_at hl 3 rfl) ?_
        refine lv_if_ne (tgt := 186) hx hb dX10_best_178 (by decide) (fun c_17 => ?_) (fun c_17 => ?_)
        · replace hf := mm_if c_17 hf
          refine lv_iload hx hb dX10_best_186 (lv_at hl 6 rfl) ?_
          obtain ⟨rfl, rfl⟩ := mm_ret hf
          exact mm_iret X hP hS dX10_best_188
        · replace hf := mm_it c_17 hf
          refine lv_iload hx hb dX10_best_181 (lv_at hl 5 rfl) ?_
          refine lv_goto (tgt := 188) hx hb dX10_best_183 (by decide) ?_
          obtain ⟨rfl, rfl⟩ := mm_ret hf
          exact mm_iret X hP hS dX10_best_188
      · replace hf := mm_it c_16 hf
        refine lv_ldc (v := (-1000004 : Int32)) hx hb X.2.2.2.2.2.1 (X.2.2.2.2.2.2.1 _ wd_317) dX10_best_174 ?_
        obtain ⟨rfl, rfl⟩ := mm_ret hf
        exact mm_iret X hP hS dX10_best_176
    · replace hf := mm_if c_15 hf
      refine lv_aload_n hx hb dX10_best_123 rfl (lv_at hl 0 rfl) ?_
      refine lv_iload_n hx hb dX10_best_124 rfl (lv_at hl 1 rfl) ?_
      refine lv_iload hx hb dX10_best_125 (lv_at hl 7 rfl) ?_
      refine lv_iload_n hx hb dX10_best_127 rfl (lv_at hl 2 rfl) ?_
      refine lv_iload hx hb dX10_best_128 (lv_at hl 4 rfl) ?_
      obtain ⟨r_18, s_18, e_18, hf⟩ := mm_bd_ok hf
      refine mm_callV X hP hS hl.1 [.int x1, .int v8, .int x2, .int v5] [] (cx_X10_distanceBehind l D ad cA hI x1 v8 x2 v5 σ r_18 s_18 e_18) kp_9 rfl rfl wd_683 wd_685 wp_10 wd_1 wd_686 hd_X10_distanceBehind ⟨Nat.le_of_ble_eq_true rfl, Nat.le_of_ble_eq_true rfl⟩ rfl (Nat.le_of_ble_eq_true rfl) dX10_best_130 (fun H locs hP hS => ?_)
      refine lv_istore (lv' := [(9, .int r_18), (0, .ref (ad 6 9 0)), (1, .int x1), (2, .int x2), (3, .int x3), (5, .int v5), (6, .int v6), (7, .int v7), (8, .int v8)]) hx hb dX10_best_133 hl (by decide) rfl (fun ls hl => ?_)
      refine lv_iload hx hb dX10_best_135 (lv_at hl 0 rfl) ?_
      refine lv_iconst (v := (-1 : Int32)) hx hb dX10_best_137 (by decide) ?_
      refine lv_icmp_eq (tgt := 162) hx hb dX10_best_138 (by decide) (fun c_19 => ?_) (fun c_19 => ?_)
      · replace hf := mm_it c_19 hf
        obtain ⟨y_20, e_20, hf⟩ := mm_li_ok hf
        refine lv_iinc (v := y_20) (lv' := [(8, .int y_20), (9, .int r_18), (0, .ref (ad 6 9 0)), (1, .int x1), (2, .int x2), (3, .int x3), (5, .int v5), (6, .int v6), (7, .int v7)]) hx hb dX10_best_162 hl (k := 8) rfl (by rw [e_20]; rfl) (by decide) rfl (fun ls hl => ?_)
        refine lv_goto (tgt := 116) hx hb dX10_best_165 (by decide) ?_
        exact ih v5 v6 v7 y_20 s_18 H locs ls  hf hP hS (lv_sub hl [2, 3, 4, 5, 6, 7, 8, 0] rfl)
      · replace hf := mm_if c_19 hf
        refine lv_iload hx hb dX10_best_141 (lv_at hl 7 rfl) ?_
        refine lv_iconst (v := (-1 : Int32)) hx hb dX10_best_143 (by decide) ?_
        refine lv_icmp_eq (tgt := 154) hx hb dX10_best_144 (by decide) (fun c_21 => ?_) (fun c_21 => ?_)
        · replace hf := mm_it c_21 hf
          exact cx_X10_best_J154 x1 x2 x3 rv σ1 (fun z0 z1 z2 z3 z => fx_X10_best_L116 x1 x2 x3 fu z0 z1 z2 z3 z) ih X v5 v8 r_18 s_18 H locs ls hf hP hS (lv_sub hl [1, 2, 3, 4, 5, 8, 0] rfl)
        · replace hf := mm_if c_21 hf
          refine lv_iload hx hb dX10_best_147 (lv_at hl 0 rfl) ?_
          refine lv_iload hx hb dX10_best_149 (lv_at hl 7 rfl) ?_
          refine lv_icmp_ge (tgt := 162) hx hb dX10_best_151 (by decide) (fun c_22 => ?_) (fun c_22 => ?_)
          · replace hf := mm_it c_22 hf
            obtain ⟨y_23, e_23, hf⟩ := mm_li_ok hf
            refine lv_iinc (v := y_23) (lv' := [(8, .int y_23), (9, .int r_18), (0, .ref (ad 6 9 0)), (1, .int x1), (2, .int x2), (3, .int x3), (5, .int v5), (6, .int v6), (7, .int v7)]) hx hb dX10_best_162 hl (k := 8) rfl (by rw [e_23]; rfl) (by decide) rfl (fun ls hl => ?_)
            refine lv_goto (tgt := 116) hx hb dX10_best_165 (by decide) ?_
            exact ih v5 v6 v7 y_23 s_18 H locs ls  hf hP hS (lv_sub hl [2, 3, 4, 5, 6, 7, 8, 0] rfl)
          · replace hf := mm_if c_22 hf
            exact cx_X10_best_J154 x1 x2 x3 rv σ1 (fun z0 z1 z2 z3 z => fx_X10_best_L116 x1 x2 x3 fu z0 z1 z2 z3 z) ih X v5 v8 r_18 s_18 H locs ls hf hP hS (lv_sub hl [1, 2, 3, 4, 5, 8, 0] rfl)
def fx_X10_best (x1 : Int32) (x2 : Int32) (x3 : Int32) (σ : mm_M) : mm_R := mm_bd (fx_X8_hasCart 0 x1 σ) fun r_1 s_1 => (if r_1 = (0 : Int32) then some ((-1000001 : Int32), s_1) else mm_bd (fx_X10_isWithin x2 (1 : Int32) (999 : Int32) s_1) fun r_3 s_3 => (if r_3 = (0 : Int32) then some ((-1000001 : Int32), s_3) else mm_bd (fx_X10_isWithin x3 (0 : Int32) (1 : Int32) s_3) fun r_5 s_5 => (if r_5 = (0 : Int32) then some ((-1000001 : Int32), s_5) else mm_gd (mm_ix x1 4 = true) (mm_bd (fx_X3_isOut 0 x1.toNatClampNeg s_5) fun r_8 s_8 => (if r_8 = (0 : Int32) then mm_bd (fx_X3_isLocked 0 x1.toNatClampNeg (s_8 0 0 0 3) s_8) fun r_10 s_10 => (if r_10 = (0 : Int32) then if (s_10 0 6 x1.toNatClampNeg 6) < (s_10 0 1 0 3) then mm_gd (mm_ix (s_10 0 6 x1.toNatClampNeg 6) 4 = true) (mm_li (s_10 0 4 0 (s_10 0 6 x1.toNatClampNeg 6).toNatClampNeg) fun y_14 => (fx_X10_best_L116 x1 x2 x3 mm_FU y_14 (-1 : Int32) (-1 : Int32) (0 : Int32) s_10)) else some ((-1000002 : Int32), s_10) else some ((-1000002 : Int32), s_10)) else some ((-1000002 : Int32), s_8))))))
set_option maxHeartbeats 4000000 in
set_option maxRecDepth 100000 in
theorem cx_X10_best (l : Launch) (D : va_G) (ad : mm_A) (cA : Nat → ClassId) (hI : mm_Inj ad) (x1 : Int32) (x2 : Int32) (x3 : Int32)  (σ : mm_M) (rv : Int32) (σ1 : mm_M) (hf : fx_X10_best x1 x2 x3 σ = some (rv, σ1)) : Met l yX10_best (Cond.code yX10_best cX10_best 10 (some .int) :: tb) (mm_rm 6 141) (mm_pre D ad cA [.ref (ad 6 9 0), .int x1, .int x2, .int x3] σ) (mm_Q D ad cA (some (.int rv)) σ1) 0 0 (mm_AS ad) := by
  refine mm_start (by decide +kernel) hI (Nat.le_of_ble_eq_true rfl) ?_
  intro p e s m args below meth c X hP ls hl
  have hl : lv_has ls 10 [(0, .ref (ad 6 9 0)), (1, .int x1), (2, .int x2), (3, .int x3)] := hl
  have hx := X.1
  have hb := X.2.1
  have hS : va_S (mm_AS ad) s.heap s.heap [] := va_S.rf
  have hgen : ∀ (H : Heap) (locs : List Loc), va_P D vwCl (mm_wd ad cA σ) H → va_S (mm_AS ad) s.heap H locs → W p l e (mm_rm 6 141) s m args below meth c H locs 0 0 (MQ below (mm_Q D ad cA (some (.int rv)) σ1) args s 0 0 (mm_AS ad)) (F0 m 0 ls []) := by
    intro H locs hP hS
    rw [fx_X10_best] at hf
    refine lv_aload_n hx hb dX10_best_0 rfl (lv_at hl 0 rfl) ?_
    refine gf_9_0 X hP  wd_283 dX10_best_1 ?_
    refine lv_iload_n hx hb dX10_best_4 rfl (lv_at hl 1 rfl) ?_
    obtain ⟨r_1, s_1, e_1, hf⟩ := mm_bd_ok hf
    refine mm_callV X hP hS hl.1 [.int x1] [] (cx_X8_hasCart l D ad cA hI 0 x1 (by decide) σ r_1 s_1 e_1) (mm_kr 0 (by decide) 0 (by decide)) rfl rfl wd_393 wd_394 wd_395 wd_2 wd_396 hd_X8_hasCart ⟨Nat.le_of_ble_eq_true rfl, Nat.le_of_ble_eq_true rfl⟩ rfl (Nat.le_of_ble_eq_true rfl) dX10_best_5 (fun H locs hP hS => ?_)
    refine lv_if_eq (tgt := 31) hx hb dX10_best_8 (by decide) (fun c_2 => ?_) (fun c_2 => ?_)
    · replace hf := mm_it c_2 hf
      refine lv_ldc (v := (-1000001 : Int32)) hx hb X.2.2.2.2.2.1 (X.2.2.2.2.2.2.1 _ wd_318) dX10_best_31 ?_
      obtain ⟨rfl, rfl⟩ := mm_ret hf
      exact mm_iret X hP hS dX10_best_33
    · replace hf := mm_if c_2 hf
      refine lv_iload_n hx hb dX10_best_11 rfl (lv_at hl 2 rfl) ?_
      refine lv_iconst (v := (1 : Int32)) hx hb dX10_best_12 (by decide) ?_
      refine lv_sipush (v := (999 : Int32)) hx hb dX10_best_13 (by decide) ?_
      obtain ⟨r_3, s_3, e_3, hf⟩ := mm_bd_ok hf
      refine mm_callS X hP hS hl.1 [.int x2, .int (1 : Int32), .int (999 : Int32)] [] (cx_X10_isWithin l D ad cA hI x2 (1 : Int32) (999 : Int32) s_1 r_3 s_3 e_3) wd_364 wd_365 wd_1 wd_366 hd_X10_isWithin ⟨Nat.le_of_ble_eq_true rfl, Nat.le_of_ble_eq_true rfl⟩ rfl (Nat.le_of_ble_eq_true rfl) dX10_best_16 (fun H locs hP hS => ?_)
      refine lv_if_eq (tgt := 31) hx hb dX10_best_19 (by decide) (fun c_4 => ?_) (fun c_4 => ?_)
      · replace hf := mm_it c_4 hf
        refine lv_ldc (v := (-1000001 : Int32)) hx hb X.2.2.2.2.2.1 (X.2.2.2.2.2.2.1 _ wd_318) dX10_best_31 ?_
        obtain ⟨rfl, rfl⟩ := mm_ret hf
        exact mm_iret X hP hS dX10_best_33
      · replace hf := mm_if c_4 hf
        refine lv_iload_n hx hb dX10_best_22 rfl (lv_at hl 3 rfl) ?_
        refine lv_iconst (v := (0 : Int32)) hx hb dX10_best_23 (by decide) ?_
        refine lv_iconst (v := (1 : Int32)) hx hb dX10_best_24 (by decide) ?_
        obtain ⟨r_5, s_5, e_5, hf⟩ := mm_bd_ok hf
        refine mm_callS X hP hS hl.1 [.int x3, .int (0 : Int32), .int (1 : Int32)] [] (cx_X10_isWithin l D ad cA hI x3 (0 : Int32) (1 : Int32) s_3 r_5 s_5 e_5) wd_364 wd_365 wd_1 wd_366 hd_X10_isWithin ⟨Nat.le_of_ble_eq_true rfl, Nat.le_of_ble_eq_true rfl⟩ rfl (Nat.le_of_ble_eq_true rfl) dX10_best_25 (fun H locs hP hS => ?_)
        refine lv_if_ne (tgt := 34) hx hb dX10_best_28 (by decide) (fun c_6 => ?_) (fun c_6 => ?_)
        · replace hf := mm_if c_6 hf
          refine lv_aload_n hx hb dX10_best_34 rfl (lv_at hl 0 rfl) ?_
          refine gf_9_0 X hP  wd_283 dX10_best_35 ?_
          refine gf_0_1 X hP (by decide) wd_113 dX10_best_38 ?_
          refine lv_iload_n hx hb dX10_best_41 rfl (lv_at hl 1 rfl) ?_
          obtain ⟨h_7, hf⟩ := mm_gd_ok hf
          refine mm_cart X hP (by decide) h_7 dX10_best_42 ?_
          refine lv_astore (lv' := [(4, .ref (ad 0 6 x1.toNatClampNeg)), (0, .ref (ad 6 9 0)), (1, .int x1), (2, .int x2), (3, .int x3)]) hx hb dX10_best_43 hl (by decide) rfl (fun ls hl => ?_)
          refine lv_aload hx hb dX10_best_45 (lv_at hl 0 rfl) ?_
          obtain ⟨r_8, s_8, e_8, hf⟩ := mm_bd_ok hf
          refine mm_callV X hP hS hl.1 [] [] (cx_X3_isOut l D ad cA hI 0 x1.toNatClampNeg (by decide) (mm_ix_lt h_7) s_5 r_8 s_8 e_8) (mm_kc 0 (by decide) x1.toNatClampNeg (mm_ix_lt h_7) 0 (by decide)) rfl rfl wd_681 wd_314 wd_315 wd_4 wd_316 hd_X3_isOut ⟨Nat.le_of_ble_eq_true rfl, Nat.le_of_ble_eq_true rfl⟩ rfl (Nat.le_of_ble_eq_true rfl) dX10_best_47 (fun H locs hP hS => ?_)
          refine lv_if_ne (tgt := 86) hx hb dX10_best_50 (by decide) (fun c_9 => ?_) (fun c_9 => ?_)
          · replace hf := mm_if c_9 hf
            refine lv_ldc (v := (-1000002 : Int32)) hx hb X.2.2.2.2.2.1 (X.2.2.2.2.2.2.1 _ wd_323) dX10_best_86 ?_
            obtain ⟨rfl, rfl⟩ := mm_ret hf
            exact mm_iret X hP hS dX10_best_88
          · replace hf := mm_it c_9 hf
            refine lv_aload hx hb dX10_best_53 (lv_at hl 0 rfl) ?_
            refine lv_aload_n hx hb dX10_best_55 rfl (lv_at hl 1 rfl) ?_
            refine gf_9_0 X hP  wd_283 dX10_best_56 ?_
            refine gf_0_3 X hP (by decide) wd_122 dX10_best_59 ?_
            obtain ⟨r_10, s_10, e_10, hf⟩ := mm_bd_ok hf
            refine mm_callV X hP hS hl.1 [.int (s_8 0 0 0 3)] [] (cx_X3_isLocked l D ad cA hI 0 x1.toNatClampNeg (s_8 0 0 0 3) (by decide) (mm_ix_lt h_7) s_8 r_10 s_10 e_10) (mm_kc 0 (by decide) x1.toNatClampNeg (mm_ix_lt h_7) 0 (by decide)) rfl rfl wd_682 wd_538 wd_539 wd_4 wd_540 hd_X3_isLocked ⟨Nat.le_of_ble_eq_true rfl, Nat.le_of_ble_eq_true rfl⟩ rfl (Nat.le_of_ble_eq_true rfl) dX10_best_62 (fun H locs hP hS => ?_)
            refine lv_if_ne (tgt := 86) hx hb dX10_best_65 (by decide) (fun c_11 => ?_) (fun c_11 => ?_)
            · replace hf := mm_if c_11 hf
              refine lv_ldc (v := (-1000002 : Int32)) hx hb X.2.2.2.2.2.1 (X.2.2.2.2.2.2.1 _ wd_323) dX10_best_86 ?_
              obtain ⟨rfl, rfl⟩ := mm_ret hf
              exact mm_iret X hP hS dX10_best_88
            · replace hf := mm_it c_11 hf
              refine lv_aload hx hb dX10_best_68 (lv_at hl 0 rfl) ?_
              refine gf_6_6 X hP (by decide) (mm_ix_lt h_7) wd_81 dX10_best_70 ?_
              refine lv_aload_n hx hb dX10_best_73 rfl (lv_at hl 1 rfl) ?_
              refine gf_9_0 X hP  wd_283 dX10_best_74 ?_
              refine gf_0_0 X hP (by decide) wd_109 dX10_best_77 ?_
              refine gf_1_3 X hP (by decide) wd_44 dX10_best_80 ?_
              refine lv_icmp_lt (tgt := 89) hx hb dX10_best_83 (by decide) (fun c_12 => ?_) (fun c_12 => ?_)
              · replace hf := mm_it c_12 hf
                refine lv_aload_n hx hb dX10_best_89 rfl (lv_at hl 1 rfl) ?_
                refine gf_9_0 X hP  wd_283 dX10_best_90 ?_
                refine gf_0_0 X hP (by decide) wd_109 dX10_best_93 ?_
                refine gf_1_2 X hP (by decide) wd_41 dX10_best_96 ?_
                refine lv_aload hx hb dX10_best_99 (lv_at hl 0 rfl) ?_
                refine gf_6_6 X hP (by decide) (mm_ix_lt h_7) wd_81 dX10_best_101 ?_
                obtain ⟨h_13, hf⟩ := mm_gd_ok hf
                refine al_4 X hP (by decide) h_13 dX10_best_104 ?_
                obtain ⟨y_14, e_14, hf⟩ := mm_li_ok hf
                rw [← e_14]
                refine lv_istore (lv' := [(5, .int y_14), (4, .ref (ad 0 6 x1.toNatClampNeg)), (0, .ref (ad 6 9 0)), (1, .int x1), (2, .int x2), (3, .int x3)]) hx hb dX10_best_105 hl (by decide) rfl (fun ls hl => ?_)
                refine lv_iconst (v := (-1 : Int32)) hx hb dX10_best_107 (by decide) ?_
                refine lv_istore (lv' := [(6, .int (-1 : Int32)), (5, .int y_14), (4, .ref (ad 0 6 x1.toNatClampNeg)), (0, .ref (ad 6 9 0)), (1, .int x1), (2, .int x2), (3, .int x3)]) hx hb dX10_best_108 hl (by decide) rfl (fun ls hl => ?_)
                refine lv_iconst (v := (-1 : Int32)) hx hb dX10_best_110 (by decide) ?_
                refine lv_istore (lv' := [(7, .int (-1 : Int32)), (6, .int (-1 : Int32)), (5, .int y_14), (4, .ref (ad 0 6 x1.toNatClampNeg)), (0, .ref (ad 6 9 0)), (1, .int x1), (2, .int x2), (3, .int x3)]) hx hb dX10_best_111 hl (by decide) rfl (fun ls hl => ?_)
                refine lv_iconst (v := (0 : Int32)) hx hb dX10_best_113 (by decide) ?_
                refine lv_istore (lv' := [(8, .int (0 : Int32)), (7, .int (-1 : Int32)), (6, .int (-1 : Int32)), (5, .int y_14), (4, .ref (ad 0 6 x1.toNatClampNeg)), (0, .ref (ad 6 9 0)), (1, .int x1), (2, .int x2), (3, .int x3)]) hx hb dX10_best_114 hl (by decide) rfl (fun ls hl => ?_)
                exact cx_X10_best_L116 x1 x2 x3 rv σ1 X mm_FU y_14 (-1 : Int32) (-1 : Int32) (0 : Int32) s_10 H locs ls hf hP hS (lv_sub hl [5, 6, 7, 8, 3, 2, 1, 0] rfl)
              · replace hf := mm_if c_12 hf
                refine lv_ldc (v := (-1000002 : Int32)) hx hb X.2.2.2.2.2.1 (X.2.2.2.2.2.2.1 _ wd_323) dX10_best_86 ?_
                obtain ⟨rfl, rfl⟩ := mm_ret hf
                exact mm_iret X hP hS dX10_best_88
        · replace hf := mm_it c_6 hf
          refine lv_ldc (v := (-1000001 : Int32)) hx hb X.2.2.2.2.2.1 (X.2.2.2.2.2.2.1 _ wd_318) dX10_best_31 ?_
          obtain ⟨rfl, rfl⟩ := mm_ret hf
          exact mm_iret X hP hS dX10_best_33
  exact hgen _ _ hP hS
def fx_J7_fill_53178_k21_L5 (x1 : Int32)  : Nat → Int32 → Int32 → mm_M → mm_R
  | 0, _, _, _ => none
  | fu + 1, v2, v3, σ => if v3 ≤ v2 then some (0, σ) else mm_gd (mm_ix v2 64 = true) (mm_lt (mm_u σ 7 21 0 v2.toNatClampNeg x1) fun s_3 => (mm_li (v2 + (1 : Int32)) fun y_4 => (fx_J7_fill_53178_k21_L5 x1 fu y_4 v3 s_3)))
set_option maxHeartbeats 4000000 in
set_option maxRecDepth 100000 in
theorem cx_J7_fill_53178_k21_L5 {p : Program} {l : Launch} {e : Env} {s : State} {m : MethodId} {args : Array Value} {below : List Frame} {meth : Method} {c : Code} {D : va_G} {ad : mm_A} {cA : Nat → ClassId} (x1 : Int32)  (rv : Int32) (σ1 : mm_M)  (X : mm_X p s m args meth c cJ7_fill_53178 4 none RJ7 D ad cA) : ∀ (fu : Nat), ∀ (v2 : Int32) (v3 : Int32) (σ : mm_M) (H : Heap) (locs : List Loc) (ls : Array Slot), fx_J7_fill_53178_k21_L5 x1 fu v2 v3 σ = some (rv, σ1) → va_P D vwCl (mm_wd ad cA σ) H → va_S (mm_AS ad) s.heap H locs → lv_has ls 4 [(0, .ref (ad 7 21 0)), (1, .int x1), (2, .int v2), (3, .int v3)] → W p l e (mm_rm 0 0) s m args below meth c H locs 0 0 (MQ below (mm_Q D ad cA none σ1) args s 0 0 (mm_AS ad)) (F0 m 5 ls []) := by
  have hx := X.1
  have hb := X.2.1
  have hI := X.2.2.2.2.2.2.2.2.2
  intro fu
  induction fu with
  | zero =>
    intro v2 v3 σ H locs ls hf
    exact mm_no hf
  | succ fu ih =>
    intro v2 v3 σ H locs ls hf hP hS hl
    rw [fx_J7_fill_53178_k21_L5] at hf
    refine lv_iload_n hx hb dJ7_fill_53178_5 rfl (lv_at hl 2 rfl) ?_
    refine lv_iload_n hx hb dJ7_fill_53178_6 rfl (lv_at hl 3 rfl) ?_
    refine lv_icmp_ge (tgt := 20) hx hb dJ7_fill_53178_7 (by decide) (fun c_1 => ?_) (fun c_1 => ?_)
    · replace hf := mm_it c_1 hf
      obtain ⟨rfl, rfl⟩ := mm_ret hf
      exact mm_vret X hP hS dJ7_fill_53178_20
    · replace hf := mm_if c_1 hf
      refine lv_aload_n hx hb dJ7_fill_53178_10 rfl (lv_at hl 0 rfl) ?_
      refine lv_iload_n hx hb dJ7_fill_53178_11 rfl (lv_at hl 2 rfl) ?_
      refine lv_iload_n hx hb dJ7_fill_53178_12 rfl (lv_at hl 1 rfl) ?_
      obtain ⟨h_2, hf⟩ := mm_gd_ok hf
      refine as_21 X hP hS  h_2  dJ7_fill_53178_13 (fun H locs hP hS => ?_)
      obtain ⟨s_3, e_3, hf⟩ := mm_lt_ok hf
      rw [← e_3] at hP
      obtain ⟨y_4, e_4, hf⟩ := mm_li_ok hf
      refine lv_iinc (v := y_4) (lv' := [(2, .int y_4), (0, .ref (ad 7 21 0)), (1, .int x1), (3, .int v3)]) hx hb dJ7_fill_53178_14 hl (k := 2) rfl (by rw [e_4]; rfl) (by decide) rfl (fun ls hl => ?_)
      refine lv_goto (tgt := 5) hx hb dJ7_fill_53178_17 (by decide) ?_
      exact ih y_4 v3 s_3 H locs ls  hf hP hS (lv_sub hl [1, 2, 0, 3] rfl)
def fx_J7_fill_53178_k21 (x1 : Int32) (σ : mm_M) : mm_R := fx_J7_fill_53178_k21_L5 x1 mm_FU (0 : Int32) (64 : Int32) σ
set_option maxHeartbeats 4000000 in
set_option maxRecDepth 100000 in
theorem cx_J7_fill_53178_k21 (l : Launch) (D : va_G) (ad : mm_A) (cA : Nat → ClassId) (hI : mm_Inj ad) (x1 : Int32)  (σ : mm_M) (rv : Int32) (σ1 : mm_M) (hf : fx_J7_fill_53178_k21 x1 σ = some (rv, σ1)) : Met l yJ7_fill_53178 (Cond.code yJ7_fill_53178 cJ7_fill_53178 4 none :: tb) (mm_rm 0 0) (mm_pre D ad cA [.ref (ad 7 21 0), .int x1] σ) (mm_Q D ad cA none σ1) 0 0 (mm_AS ad) := by
  refine mm_startF (by decide +kernel) hI (Nat.le_of_ble_eq_true rfl) ?_
  intro p e s m args below meth c X hP ls hl
  have hl : lv_has ls 4 [(0, .ref (ad 7 21 0)), (1, .int x1)] := hl
  have hx := X.1
  have hb := X.2.1
  have hS : va_S (mm_AS ad) s.heap s.heap [] := va_S.rf
  have hgen : ∀ (H : Heap) (locs : List Loc), va_P D vwCl (mm_wd ad cA σ) H → va_S (mm_AS ad) s.heap H locs → W p l e (mm_rm 0 0) s m args below meth c H locs 0 0 (MQ below (mm_Q D ad cA none σ1) args s 0 0 (mm_AS ad)) (F0 m 0 ls []) := by
    intro H locs hP hS
    rw [fx_J7_fill_53178_k21] at hf
    refine lv_iconst (v := (0 : Int32)) hx hb dJ7_fill_53178_0 (by decide) ?_
    refine lv_istore_n (lv' := [(2, .int (0 : Int32)), (0, .ref (ad 7 21 0)), (1, .int x1)]) hx hb dJ7_fill_53178_1 rfl hl (by decide) rfl (fun ls hl => ?_)
    refine lv_aload_n hx hb dJ7_fill_53178_2 rfl (lv_at hl 1 rfl) ?_
    refine an_21 X hP  dJ7_fill_53178_3 ?_
    refine lv_istore_n (lv' := [(3, .int (64 : Int32)), (2, .int (0 : Int32)), (0, .ref (ad 7 21 0)), (1, .int x1)]) hx hb dJ7_fill_53178_4 rfl hl (by decide) rfl (fun ls hl => ?_)
    exact cx_J7_fill_53178_k21_L5 x1 rv σ1 X mm_FU (0 : Int32) (64 : Int32) σ H locs ls hf hP hS (lv_sub hl [2, 3, 1, 0] rfl)
  exact hgen _ _ hP hS
def fx_X9_reach (x1 : Int32) (x2 : Int32) (σ : mm_M) : mm_R := mm_gd (mm_ix x1 64 = true) (if (σ 7 21 0 x1.toNatClampNeg) = (-1 : Int32) then if (64 : Int32) ≤ (σ 7 20 0 2) then some (0, σ) else mm_gd (mm_ix x1 64 = true) (mm_lt (mm_u σ 7 21 0 x1.toNatClampNeg x2) fun s_5 => (mm_gd (mm_ix (s_5 7 20 0 2) 64 = true) (mm_lt (mm_u s_5 7 22 0 (s_5 7 20 0 2).toNatClampNeg x1) fun s_7 => (mm_lt (mm_u s_7 7 20 0 2 ((s_7 7 20 0 2) + (1 : Int32))) fun s_8 => (some (0, s_8)))))) else some (0, σ))
set_option maxHeartbeats 4000000 in
set_option maxRecDepth 100000 in
theorem cx_X9_reach (l : Launch) (D : va_G) (ad : mm_A) (cA : Nat → ClassId) (hI : mm_Inj ad) (x1 : Int32) (x2 : Int32)  (σ : mm_M) (rv : Int32) (σ1 : mm_M) (hf : fx_X9_reach x1 x2 σ = some (rv, σ1)) : Met l yX9_reach (Cond.code yX9_reach cX9_reach 3 none :: tb) (mm_rm 0 0) (mm_pre D ad cA [.ref (ad 7 20 0), .int x1, .int x2] σ) (mm_Q D ad cA none σ1) 0 0 (mm_AS ad) := by
  refine mm_start (by decide +kernel) hI (Nat.le_of_ble_eq_true rfl) ?_
  intro p e s m args below meth c X hP ls hl
  have hl : lv_has ls 3 [(0, .ref (ad 7 20 0)), (1, .int x1), (2, .int x2)] := hl
  have hx := X.1
  have hb := X.2.1
  have hS : va_S (mm_AS ad) s.heap s.heap [] := va_S.rf
  have hgen : ∀ (H : Heap) (locs : List Loc), va_P D vwCl (mm_wd ad cA σ) H → va_S (mm_AS ad) s.heap H locs → W p l e (mm_rm 0 0) s m args below meth c H locs 0 0 (MQ below (mm_Q D ad cA none σ1) args s 0 0 (mm_AS ad)) (F0 m 0 ls []) := by
    intro H locs hP hS
    rw [fx_X9_reach] at hf
    refine lv_aload_n hx hb dX9_reach_0 rfl (lv_at hl 0 rfl) ?_
    refine gf_20_0 X hP  wd_216 dX9_reach_1 ?_
    refine lv_iload_n hx hb dX9_reach_4 rfl (lv_at hl 1 rfl) ?_
    obtain ⟨h_1, hf⟩ := mm_gd_ok hf
    refine al_21 X hP  h_1 dX9_reach_5 ?_
    refine lv_iconst (v := (-1 : Int32)) hx hb dX9_reach_6 (by decide) ?_
    refine lv_icmp_ne (tgt := 46) hx hb dX9_reach_7 (by decide) (fun c_2 => ?_) (fun c_2 => ?_)
    · replace hf := mm_if c_2 hf
      obtain ⟨rfl, rfl⟩ := mm_ret hf
      exact mm_vret X hP hS dX9_reach_46
    · replace hf := mm_it c_2 hf
      refine lv_aload_n hx hb dX9_reach_10 rfl (lv_at hl 0 rfl) ?_
      refine gf_20_2 X hP  wd_218 dX9_reach_11 ?_
      refine lv_bipush (v := (64 : Int32)) hx hb dX9_reach_14 (by decide) ?_
      refine lv_icmp_ge (tgt := 46) hx hb dX9_reach_16 (by decide) (fun c_3 => ?_) (fun c_3 => ?_)
      · replace hf := mm_it c_3 hf
        obtain ⟨rfl, rfl⟩ := mm_ret hf
        exact mm_vret X hP hS dX9_reach_46
      · replace hf := mm_if c_3 hf
        refine lv_aload_n hx hb dX9_reach_19 rfl (lv_at hl 0 rfl) ?_
        refine gf_20_0 X hP  wd_216 dX9_reach_20 ?_
        refine lv_iload_n hx hb dX9_reach_23 rfl (lv_at hl 1 rfl) ?_
        refine lv_iload_n hx hb dX9_reach_24 rfl (lv_at hl 2 rfl) ?_
        obtain ⟨h_4, hf⟩ := mm_gd_ok hf
        refine as_21 X hP hS  h_4  dX9_reach_25 (fun H locs hP hS => ?_)
        obtain ⟨s_5, e_5, hf⟩ := mm_lt_ok hf
        rw [← e_5] at hP
        refine lv_aload_n hx hb dX9_reach_26 rfl (lv_at hl 0 rfl) ?_
        refine gf_20_1 X hP  wd_217 dX9_reach_27 ?_
        refine lv_aload_n hx hb dX9_reach_30 rfl (lv_at hl 0 rfl) ?_
        refine gf_20_2 X hP  wd_218 dX9_reach_31 ?_
        refine lv_iload_n hx hb dX9_reach_34 rfl (lv_at hl 1 rfl) ?_
        obtain ⟨h_6, hf⟩ := mm_gd_ok hf
        refine as_22 X hP hS  h_6  dX9_reach_35 (fun H locs hP hS => ?_)
        obtain ⟨s_7, e_7, hf⟩ := mm_lt_ok hf
        rw [← e_7] at hP
        refine lv_aload_n hx hb dX9_reach_36 rfl (lv_at hl 0 rfl) ?_
        refine lv_dup hx hb dX9_reach_37 rfl ?_
        refine gf_20_2 X hP  wd_218 dX9_reach_38 ?_
        refine lv_iconst (v := (1 : Int32)) hx hb dX9_reach_41 (by decide) ?_
        refine lv_iadd hx hb dX9_reach_42 ?_
        refine pf_20_2 X hP hS  wd_218  dX9_reach_43 (fun H locs hP hS => ?_)
        obtain ⟨s_8, e_8, hf⟩ := mm_lt_ok hf
        rw [← e_8] at hP
        obtain ⟨rfl, rfl⟩ := mm_ret hf
        exact mm_vret X hP hS dX9_reach_46
  exact hgen _ _ hP hS
def fx_X9_reachAround_L2 (r1 : Nat) (x2 : Int32)  : Nat → Int32 → mm_M → mm_R
  | 0, _, _ => none
  | fu + 1, v3, σ => if (4 : Int32) ≤ v3 then some (0, σ) else mm_bd (fx_X1_neighbour x2 v3 σ) fun r_2 s_2 => (if r_2 = (-1 : Int32) then mm_li (v3 + (1 : Int32)) fun y_4 => (fx_X9_reachAround_L2 r1 x2 fu y_4 s_2) else mm_bd (fx_X1_hasWall r1 x2 v3 s_2) fun r_5 s_5 => (if r_5 = (0 : Int32) then mm_bd (fx_X1_isPit r1 r_2 s_5) fun r_8 s_8 => (if r_8 = (0 : Int32) then mm_gd (mm_ix x2 64 = true) (mm_bd (fx_X9_reach r_2 ((s_8 7 21 0 x2.toNatClampNeg) + (1 : Int32)) s_8) fun _ s_12 => (mm_li (v3 + (1 : Int32)) fun y_13 => (fx_X9_reachAround_L2 r1 x2 fu y_13 s_12))) else mm_li (v3 + (1 : Int32)) fun y_10 => (fx_X9_reachAround_L2 r1 x2 fu y_10 s_8)) else mm_li (v3 + (1 : Int32)) fun y_7 => (fx_X9_reachAround_L2 r1 x2 fu y_7 s_5)))
set_option maxHeartbeats 4000000 in
set_option maxRecDepth 100000 in
theorem cx_X9_reachAround_L2 {p : Program} {l : Launch} {e : Env} {s : State} {m : MethodId} {args : Array Value} {below : List Frame} {meth : Method} {c : Code} {D : va_G} {ad : mm_A} {cA : Nat → ClassId} (r1 : Nat) (x2 : Int32) (hr1 : r1 < 6) (rv : Int32) (σ1 : mm_M)  (X : mm_X p s m args meth c cX9_reachAround 5 none RX9 D ad cA) : ∀ (fu : Nat), ∀ (v3 : Int32) (σ : mm_M) (H : Heap) (locs : List Loc) (ls : Array Slot), fx_X9_reachAround_L2 r1 x2 fu v3 σ = some (rv, σ1) → va_P D vwCl (mm_wd ad cA σ) H → va_S (mm_AS ad) s.heap H locs → lv_has ls 5 [(0, .ref (ad 7 20 0)), (1, .ref (ad r1 1 0)), (2, .int x2), (3, .int v3)] → W p l e (mm_rm 1 22) s m args below meth c H locs 0 0 (MQ below (mm_Q D ad cA none σ1) args s 0 0 (mm_AS ad)) (F0 m 2 ls []) := by
  have hx := X.1
  have hb := X.2.1
  have hI := X.2.2.2.2.2.2.2.2.2
  intro fu
  induction fu with
  | zero =>
    intro v3 σ H locs ls hf
    exact mm_no hf
  | succ fu ih =>
    intro v3 σ H locs ls hf hP hS hl
    rw [fx_X9_reachAround_L2] at hf
    refine lv_iload_n hx hb dX9_reachAround_2 rfl (lv_at hl 3 rfl) ?_
    refine lv_iconst (v := (4 : Int32)) hx hb dX9_reachAround_3 (by decide) ?_
    refine lv_icmp_ge (tgt := 58) hx hb dX9_reachAround_4 (by decide) (fun c_1 => ?_) (fun c_1 => ?_)
    · replace hf := mm_it c_1 hf
      obtain ⟨rfl, rfl⟩ := mm_ret hf
      exact mm_vret X hP hS dX9_reachAround_58
    · replace hf := mm_if c_1 hf
      refine lv_iload_n hx hb dX9_reachAround_7 rfl (lv_at hl 2 rfl) ?_
      refine lv_iload_n hx hb dX9_reachAround_8 rfl (lv_at hl 3 rfl) ?_
      obtain ⟨r_2, s_2, e_2, hf⟩ := mm_bd_ok hf
      refine mm_callS X hP hS hl.1 [.int x2, .int v3] [] (cx_X1_neighbour l D ad cA hI x2 v3 σ r_2 s_2 e_2) wd_717 wd_509 wd_3 wd_510 hd_X1_neighbour ⟨Nat.le_of_ble_eq_true rfl, Nat.le_of_ble_eq_true rfl⟩ rfl (Nat.le_of_ble_eq_true rfl) dX9_reachAround_9 (fun H locs hP hS => ?_)
      refine lv_istore (lv' := [(4, .int r_2), (0, .ref (ad 7 20 0)), (1, .ref (ad r1 1 0)), (2, .int x2), (3, .int v3)]) hx hb dX9_reachAround_12 hl (by decide) rfl (fun ls hl => ?_)
      refine lv_iload hx hb dX9_reachAround_14 (lv_at hl 0 rfl) ?_
      refine lv_iconst (v := (-1 : Int32)) hx hb dX9_reachAround_16 (by decide) ?_
      refine lv_icmp_eq (tgt := 52) hx hb dX9_reachAround_17 (by decide) (fun c_3 => ?_) (fun c_3 => ?_)
      · replace hf := mm_it c_3 hf
        obtain ⟨y_4, e_4, hf⟩ := mm_li_ok hf
        refine lv_iinc (v := y_4) (lv' := [(3, .int y_4), (4, .int r_2), (0, .ref (ad 7 20 0)), (1, .ref (ad r1 1 0)), (2, .int x2)]) hx hb dX9_reachAround_52 hl (k := 4) rfl (by rw [e_4]; rfl) (by decide) rfl (fun ls hl => ?_)
        refine lv_goto (tgt := 2) hx hb dX9_reachAround_55 (by decide) ?_
        exact ih y_4 s_2 H locs ls  hf hP hS (lv_sub hl [2, 3, 4, 0] rfl)
      · replace hf := mm_if c_3 hf
        refine lv_aload_n hx hb dX9_reachAround_20 rfl (lv_at hl 2 rfl) ?_
        refine lv_iload_n hx hb dX9_reachAround_21 rfl (lv_at hl 3 rfl) ?_
        refine lv_iload_n hx hb dX9_reachAround_22 rfl (lv_at hl 4 rfl) ?_
        obtain ⟨r_5, s_5, e_5, hf⟩ := mm_bd_ok hf
        refine mm_callV X hP hS hl.1 [.int x2, .int v3] [] (cx_X1_hasWall l D ad cA hI r1 x2 v3 hr1 s_2 r_5 s_5 e_5) (mm_kr r1 hr1 1 (by decide)) rfl rfl wd_718 wd_515 wd_516 wd_3 wd_517 hd_X1_hasWall ⟨Nat.le_of_ble_eq_true rfl, Nat.le_of_ble_eq_true rfl⟩ rfl (Nat.le_of_ble_eq_true rfl) dX9_reachAround_23 (fun H locs hP hS => ?_)
        refine lv_if_ne (tgt := 52) hx hb dX9_reachAround_26 (by decide) (fun c_6 => ?_) (fun c_6 => ?_)
        · replace hf := mm_if c_6 hf
          obtain ⟨y_7, e_7, hf⟩ := mm_li_ok hf
          refine lv_iinc (v := y_7) (lv' := [(3, .int y_7), (4, .int r_2), (0, .ref (ad 7 20 0)), (1, .ref (ad r1 1 0)), (2, .int x2)]) hx hb dX9_reachAround_52 hl (k := 4) rfl (by rw [e_7]; rfl) (by decide) rfl (fun ls hl => ?_)
          refine lv_goto (tgt := 2) hx hb dX9_reachAround_55 (by decide) ?_
          exact ih y_7 s_5 H locs ls  hf hP hS (lv_sub hl [2, 3, 4, 0] rfl)
        · replace hf := mm_it c_6 hf
          refine lv_aload_n hx hb dX9_reachAround_29 rfl (lv_at hl 2 rfl) ?_
          refine lv_iload hx hb dX9_reachAround_30 (lv_at hl 0 rfl) ?_
          obtain ⟨r_8, s_8, e_8, hf⟩ := mm_bd_ok hf
          refine mm_callV X hP hS hl.1 [.int r_2] [] (cx_X1_isPit l D ad cA hI r1 r_2 hr1 s_5 r_8 s_8 e_8) (mm_kr r1 hr1 1 (by decide)) rfl rfl wd_719 wd_456 wd_457 wd_3 wd_458 hd_X1_isPit ⟨Nat.le_of_ble_eq_true rfl, Nat.le_of_ble_eq_true rfl⟩ rfl (Nat.le_of_ble_eq_true rfl) dX9_reachAround_32 (fun H locs hP hS => ?_)
          refine lv_if_ne (tgt := 52) hx hb dX9_reachAround_35 (by decide) (fun c_9 => ?_) (fun c_9 => ?_)
          · replace hf := mm_if c_9 hf
            obtain ⟨y_10, e_10, hf⟩ := mm_li_ok hf
            refine lv_iinc (v := y_10) (lv' := [(3, .int y_10), (4, .int r_2), (0, .ref (ad 7 20 0)), (1, .ref (ad r1 1 0)), (2, .int x2)]) hx hb dX9_reachAround_52 hl (k := 4) rfl (by rw [e_10]; rfl) (by decide) rfl (fun ls hl => ?_)
            refine lv_goto (tgt := 2) hx hb dX9_reachAround_55 (by decide) ?_
            exact ih y_10 s_8 H locs ls  hf hP hS (lv_sub hl [2, 3, 4, 0] rfl)
          · replace hf := mm_it c_9 hf
            refine lv_aload_n hx hb dX9_reachAround_38 rfl (lv_at hl 1 rfl) ?_
            refine lv_iload hx hb dX9_reachAround_39 (lv_at hl 0 rfl) ?_
            refine lv_aload_n hx hb dX9_reachAround_41 rfl (lv_at hl 1 rfl) ?_
            refine gf_20_0 X hP  wd_216 dX9_reachAround_42 ?_
            refine lv_iload_n hx hb dX9_reachAround_45 rfl (lv_at hl 3 rfl) ?_
            obtain ⟨h_11, hf⟩ := mm_gd_ok hf
            refine al_21 X hP  h_11 dX9_reachAround_46 ?_
            refine lv_iconst (v := (1 : Int32)) hx hb dX9_reachAround_47 (by decide) ?_
            refine lv_iadd hx hb dX9_reachAround_48 ?_
            obtain ⟨r_12, s_12, e_12, hf⟩ := mm_bd_ok hf
            refine mm_callV X hP hS hl.1 [.int r_2, .int ((s_8 7 21 0 x2.toNatClampNeg) + (1 : Int32))] [] (cx_X9_reach l D ad cA hI r_2 ((s_8 7 21 0 x2.toNatClampNeg) + (1 : Int32)) s_8 r_12 s_12 e_12) kp_20 rfl rfl wd_709 wd_711 wp_11 wd_9 wd_712 hd_X9_reach ⟨Nat.le_of_ble_eq_true rfl, Nat.le_of_ble_eq_true rfl⟩ rfl (Nat.le_of_ble_eq_true rfl) dX9_reachAround_49 (fun H locs hP hS => ?_)
            obtain ⟨y_13, e_13, hf⟩ := mm_li_ok hf
            refine lv_iinc (v := y_13) (lv' := [(3, .int y_13), (4, .int r_2), (0, .ref (ad 7 20 0)), (1, .ref (ad r1 1 0)), (2, .int x2)]) hx hb dX9_reachAround_52 hl (k := 4) rfl (by rw [e_13]; rfl) (by decide) rfl (fun ls hl => ?_)
            refine lv_goto (tgt := 2) hx hb dX9_reachAround_55 (by decide) ?_
            exact ih y_13 s_12 H locs ls  hf hP hS (lv_sub hl [2, 3, 4, 0] rfl)
def fx_X9_reachAround (r1 : Nat) (x2 : Int32) (σ : mm_M) : mm_R := fx_X9_reachAround_L2 r1 x2 mm_FU (0 : Int32) σ
set_option maxHeartbeats 4000000 in
set_option maxRecDepth 100000 in
theorem cx_X9_reachAround (l : Launch) (D : va_G) (ad : mm_A) (cA : Nat → ClassId) (hI : mm_Inj ad) (r1 : Nat) (x2 : Int32) (hr1 : r1 < 6) (σ : mm_M) (rv : Int32) (σ1 : mm_M) (hf : fx_X9_reachAround r1 x2 σ = some (rv, σ1)) : Met l yX9_reachAround (Cond.code yX9_reachAround cX9_reachAround 5 none :: tb) (mm_rm 1 22) (mm_pre D ad cA [.ref (ad 7 20 0), .ref (ad r1 1 0), .int x2] σ) (mm_Q D ad cA none σ1) 0 0 (mm_AS ad) := by
  refine mm_start (by decide +kernel) hI (Nat.le_of_ble_eq_true rfl) ?_
  intro p e s m args below meth c X hP ls hl
  have hl : lv_has ls 5 [(0, .ref (ad 7 20 0)), (1, .ref (ad r1 1 0)), (2, .int x2)] := hl
  have hx := X.1
  have hb := X.2.1
  have hS : va_S (mm_AS ad) s.heap s.heap [] := va_S.rf
  have hgen : ∀ (H : Heap) (locs : List Loc), va_P D vwCl (mm_wd ad cA σ) H → va_S (mm_AS ad) s.heap H locs → W p l e (mm_rm 1 22) s m args below meth c H locs 0 0 (MQ below (mm_Q D ad cA none σ1) args s 0 0 (mm_AS ad)) (F0 m 0 ls []) := by
    intro H locs hP hS
    rw [fx_X9_reachAround] at hf
    refine lv_iconst (v := (0 : Int32)) hx hb dX9_reachAround_0 (by decide) ?_
    refine lv_istore_n (lv' := [(3, .int (0 : Int32)), (0, .ref (ad 7 20 0)), (1, .ref (ad r1 1 0)), (2, .int x2)]) hx hb dX9_reachAround_1 rfl hl (by decide) rfl (fun ls hl => ?_)
    exact cx_X9_reachAround_L2 r1 x2 hr1 rv σ1 X mm_FU (0 : Int32) σ H locs ls hf hP hS (lv_sub hl [1, 2, 3, 0] rfl)
  exact hgen _ _ hP hS
def fx_X9_shortest_J66 (r1 : Nat) (x2 : Int32) (x3 : Int32)   (σ : mm_M) : mm_R := mm_gd (mm_ix x3 64 = true) (if (σ 7 21 0 x3.toNatClampNeg) = (-1 : Int32) then some ((-1000004 : Int32), σ) else mm_gd (mm_ix x3 64 = true) (some (σ 7 21 0 x3.toNatClampNeg, σ)))
set_option maxHeartbeats 4000000 in
set_option maxRecDepth 100000 in
theorem cx_X9_shortest_J66 {p : Program} {l : Launch} {e : Env} {s : State} {m : MethodId} {args : Array Value} {below : List Frame} {meth : Method} {c : Code} {D : va_G} {ad : mm_A} {cA : Nat → ClassId} (r1 : Nat) (x2 : Int32) (x3 : Int32) (hr1 : r1 < 6) (rv : Int32) (σ1 : mm_M)  (X : mm_X p s m args meth c cX9_shortest 5 (some .int) RX9 D ad cA) : ∀ (σ : mm_M) (H : Heap) (locs : List Loc) (ls : Array Slot), fx_X9_shortest_J66 r1 x2 x3  σ = some (rv, σ1) → va_P D vwCl (mm_wd ad cA σ) H → va_S (mm_AS ad) s.heap H locs → lv_has ls 5 [(0, .ref (ad 7 20 0)), (3, .int x3)] → W p l e (mm_rm 2 46) s m args below meth c H locs 0 0 (MQ below (mm_Q D ad cA (some (.int rv)) σ1) args s 0 0 (mm_AS ad)) (F0 m 66 ls []) := by
  have hx := X.1
  have hb := X.2.1
  have hI := X.2.2.2.2.2.2.2.2.2
  intro σ H locs ls hf hP hS hl
  rw [fx_X9_shortest_J66] at hf
  refine lv_aload_n hx hb dX9_shortest_66 rfl (lv_at hl 0 rfl) ?_
  refine gf_20_0 X hP  wd_216 dX9_shortest_67 ?_
  refine lv_iload_n hx hb dX9_shortest_70 rfl (lv_at hl 1 rfl) ?_
  obtain ⟨h_11, hf⟩ := mm_gd_ok hf
  refine al_21 X hP  h_11 dX9_shortest_71 ?_
  refine lv_iconst (v := (-1 : Int32)) hx hb dX9_shortest_72 (by decide) ?_
  refine lv_icmp_ne (tgt := 81) hx hb dX9_shortest_73 (by decide) (fun c_12 => ?_) (fun c_12 => ?_)
  · replace hf := mm_if c_12 hf
    refine lv_aload_n hx hb dX9_shortest_81 rfl (lv_at hl 0 rfl) ?_
    refine gf_20_0 X hP  wd_216 dX9_shortest_82 ?_
    refine lv_iload_n hx hb dX9_shortest_85 rfl (lv_at hl 1 rfl) ?_
    obtain ⟨h_13, hf⟩ := mm_gd_ok hf
    refine al_21 X hP  h_13 dX9_shortest_86 ?_
    obtain ⟨rfl, rfl⟩ := mm_ret hf
    exact mm_iret X hP hS dX9_shortest_87
  · replace hf := mm_it c_12 hf
    refine lv_ldc (v := (-1000004 : Int32)) hx hb X.2.2.2.2.2.1 (X.2.2.2.2.2.2.1 _ wd_720) dX9_shortest_76 ?_
    refine lv_goto (tgt := 87) hx hb dX9_shortest_78 (by decide) ?_
    obtain ⟨rfl, rfl⟩ := mm_ret hf
    exact mm_iret X hP hS dX9_shortest_87
def fx_X9_shortest_L22 (r1 : Nat) (x2 : Int32) (x3 : Int32)  : Nat → Int32 → mm_M → mm_R
  | 0, _, _ => none
  | fu + 1, v4, σ => if (64 : Int32) ≤ v4 then fx_X9_shortest_J66 r1 x2 x3 σ else if (σ 7 20 0 2) ≤ v4 then fx_X9_shortest_J66 r1 x2 x3 σ else mm_gd (mm_ix x3 64 = true) (if (σ 7 21 0 x3.toNatClampNeg) = (-1 : Int32) then mm_gd (mm_ix v4 64 = true) (mm_bd (fx_X9_reachAround r1 (σ 7 22 0 v4.toNatClampNeg) σ) fun _ s_9 => (mm_li (v4 + (1 : Int32)) fun y_10 => (fx_X9_shortest_L22 r1 x2 x3 fu y_10 s_9))) else fx_X9_shortest_J66 r1 x2 x3 σ)
set_option maxHeartbeats 4000000 in
set_option maxRecDepth 100000 in
theorem cx_X9_shortest_L22 {p : Program} {l : Launch} {e : Env} {s : State} {m : MethodId} {args : Array Value} {below : List Frame} {meth : Method} {c : Code} {D : va_G} {ad : mm_A} {cA : Nat → ClassId} (r1 : Nat) (x2 : Int32) (x3 : Int32) (hr1 : r1 < 6) (rv : Int32) (σ1 : mm_M)  (X : mm_X p s m args meth c cX9_shortest 5 (some .int) RX9 D ad cA) : ∀ (fu : Nat), ∀ (v4 : Int32) (σ : mm_M) (H : Heap) (locs : List Loc) (ls : Array Slot), fx_X9_shortest_L22 r1 x2 x3 fu v4 σ = some (rv, σ1) → va_P D vwCl (mm_wd ad cA σ) H → va_S (mm_AS ad) s.heap H locs → lv_has ls 5 [(0, .ref (ad 7 20 0)), (1, .ref (ad r1 1 0)), (3, .int x3), (4, .int v4)] → W p l e (mm_rm 2 46) s m args below meth c H locs 0 0 (MQ below (mm_Q D ad cA (some (.int rv)) σ1) args s 0 0 (mm_AS ad)) (F0 m 22 ls []) := by
  have hx := X.1
  have hb := X.2.1
  have hI := X.2.2.2.2.2.2.2.2.2
  intro fu
  induction fu with
  | zero =>
    intro v4 σ H locs ls hf
    exact mm_no hf
  | succ fu ih =>
    intro v4 σ H locs ls hf hP hS hl
    rw [fx_X9_shortest_L22] at hf
    refine lv_iload hx hb dX9_shortest_22 (lv_at hl 3 rfl) ?_
    refine lv_bipush (v := (64 : Int32)) hx hb dX9_shortest_24 (by decide) ?_
    refine lv_icmp_ge (tgt := 66) hx hb dX9_shortest_26 (by decide) (fun c_4 => ?_) (fun c_4 => ?_)
    · replace hf := mm_it c_4 hf
      exact cx_X9_shortest_J66 r1 x2 x3 hr1 rv σ1 X σ H locs ls hf hP hS (lv_sub hl [0, 2] rfl)
    · replace hf := mm_if c_4 hf
      refine lv_iload hx hb dX9_shortest_29 (lv_at hl 3 rfl) ?_
      refine lv_aload_n hx hb dX9_shortest_31 rfl (lv_at hl 0 rfl) ?_
      refine gf_20_2 X hP  wd_218 dX9_shortest_32 ?_
      refine lv_icmp_ge (tgt := 66) hx hb dX9_shortest_35 (by decide) (fun c_5 => ?_) (fun c_5 => ?_)
      · replace hf := mm_it c_5 hf
        exact cx_X9_shortest_J66 r1 x2 x3 hr1 rv σ1 X σ H locs ls hf hP hS (lv_sub hl [0, 2] rfl)
      · replace hf := mm_if c_5 hf
        refine lv_aload_n hx hb dX9_shortest_38 rfl (lv_at hl 0 rfl) ?_
        refine gf_20_0 X hP  wd_216 dX9_shortest_39 ?_
        refine lv_iload_n hx hb dX9_shortest_42 rfl (lv_at hl 2 rfl) ?_
        obtain ⟨h_6, hf⟩ := mm_gd_ok hf
        refine al_21 X hP  h_6 dX9_shortest_43 ?_
        refine lv_iconst (v := (-1 : Int32)) hx hb dX9_shortest_44 (by decide) ?_
        refine lv_icmp_ne (tgt := 66) hx hb dX9_shortest_45 (by decide) (fun c_7 => ?_) (fun c_7 => ?_)
        · replace hf := mm_if c_7 hf
          exact cx_X9_shortest_J66 r1 x2 x3 hr1 rv σ1 X σ H locs ls hf hP hS (lv_sub hl [0, 2] rfl)
        · replace hf := mm_it c_7 hf
          refine lv_aload_n hx hb dX9_shortest_48 rfl (lv_at hl 0 rfl) ?_
          refine lv_aload_n hx hb dX9_shortest_49 rfl (lv_at hl 1 rfl) ?_
          refine lv_aload_n hx hb dX9_shortest_50 rfl (lv_at hl 0 rfl) ?_
          refine gf_20_1 X hP  wd_217 dX9_shortest_51 ?_
          refine lv_iload hx hb dX9_shortest_54 (lv_at hl 3 rfl) ?_
          obtain ⟨h_8, hf⟩ := mm_gd_ok hf
          refine al_22 X hP  h_8 dX9_shortest_56 ?_
          obtain ⟨r_9, s_9, e_9, hf⟩ := mm_bd_ok hf
          refine mm_callV X hP hS hl.1 [.ref (ad r1 1 0), .int (σ 7 22 0 v4.toNatClampNeg)] [] (cx_X9_reachAround l D ad cA hI r1 (σ 7 22 0 v4.toNatClampNeg) hr1 σ r_9 s_9 e_9) kp_20 rfl rfl wd_713 wd_715 wp_12 wd_9 wd_716 hd_X9_reachAround ⟨Nat.le_of_ble_eq_true rfl, Nat.le_of_ble_eq_true rfl⟩ rfl (Nat.le_of_ble_eq_true rfl) dX9_shortest_57 (fun H locs hP hS => ?_)
          obtain ⟨y_10, e_10, hf⟩ := mm_li_ok hf
          refine lv_iinc (v := y_10) (lv' := [(4, .int y_10), (0, .ref (ad 7 20 0)), (1, .ref (ad r1 1 0)), (3, .int x3)]) hx hb dX9_shortest_60 hl (k := 3) rfl (by rw [e_10]; rfl) (by decide) rfl (fun ls hl => ?_)
          refine lv_goto (tgt := 22) hx hb dX9_shortest_63 (by decide) ?_
          exact ih y_10 s_9 H locs ls  hf hP hS (lv_sub hl [1, 2, 3, 0] rfl)
def fx_X9_shortest (r1 : Nat) (x2 : Int32) (x3 : Int32) (σ : mm_M) : mm_R := mm_bd (fx_J7_fill_53178_k21 (-1 : Int32) σ) fun _ s_1 => (mm_lt (mm_u s_1 7 20 0 2 (0 : Int32)) fun s_2 => (mm_bd (fx_X9_reach x2 (0 : Int32) s_2) fun _ s_3 => (fx_X9_shortest_L22 r1 x2 x3 mm_FU (0 : Int32) s_3)))
set_option maxHeartbeats 4000000 in
set_option maxRecDepth 100000 in
theorem cx_X9_shortest (l : Launch) (D : va_G) (ad : mm_A) (cA : Nat → ClassId) (hI : mm_Inj ad) (r1 : Nat) (x2 : Int32) (x3 : Int32) (hr1 : r1 < 6) (σ : mm_M) (rv : Int32) (σ1 : mm_M) (hf : fx_X9_shortest r1 x2 x3 σ = some (rv, σ1)) : Met l yX9_shortest (Cond.code yX9_shortest cX9_shortest 5 (some .int) :: tb) (mm_rm 2 46) (mm_pre D ad cA [.ref (ad 7 20 0), .ref (ad r1 1 0), .int x2, .int x3] σ) (mm_Q D ad cA (some (.int rv)) σ1) 0 0 (mm_AS ad) := by
  refine mm_start (by decide +kernel) hI (Nat.le_of_ble_eq_true rfl) ?_
  intro p e s m args below meth c X hP ls hl
  have hl : lv_has ls 5 [(0, .ref (ad 7 20 0)), (1, .ref (ad r1 1 0)), (2, .int x2), (3, .int x3)] := hl
  have hx := X.1
  have hb := X.2.1
  have hS : va_S (mm_AS ad) s.heap s.heap [] := va_S.rf
  have hgen : ∀ (H : Heap) (locs : List Loc), va_P D vwCl (mm_wd ad cA σ) H → va_S (mm_AS ad) s.heap H locs → W p l e (mm_rm 2 46) s m args below meth c H locs 0 0 (MQ below (mm_Q D ad cA (some (.int rv)) σ1) args s 0 0 (mm_AS ad)) (F0 m 0 ls []) := by
    intro H locs hP hS
    rw [fx_X9_shortest] at hf
    refine lv_aload_n hx hb dX9_shortest_0 rfl (lv_at hl 0 rfl) ?_
    refine gf_20_0 X hP  wd_216 dX9_shortest_1 ?_
    refine lv_iconst (v := (-1 : Int32)) hx hb dX9_shortest_4 (by decide) ?_
    obtain ⟨r_1, s_1, e_1, hf⟩ := mm_bd_ok hf
    refine mm_callS X hP hS hl.1 [.ref (ad 7 21 0), .int (-1 : Int32)] [] (cx_J7_fill_53178_k21 l D ad cA hI (-1 : Int32) σ r_1 s_1 e_1) wd_706 wd_707 wd_15 wd_708 hd_J7_fill_53178 ⟨Nat.le_of_ble_eq_true rfl, Nat.le_of_ble_eq_true rfl⟩ rfl (Nat.le_of_ble_eq_true rfl) dX9_shortest_5 (fun H locs hP hS => ?_)
    refine lv_aload_n hx hb dX9_shortest_8 rfl (lv_at hl 0 rfl) ?_
    refine lv_iconst (v := (0 : Int32)) hx hb dX9_shortest_9 (by decide) ?_
    refine pf_20_2 X hP hS  wd_218  dX9_shortest_10 (fun H locs hP hS => ?_)
    obtain ⟨s_2, e_2, hf⟩ := mm_lt_ok hf
    rw [← e_2] at hP
    refine lv_aload_n hx hb dX9_shortest_13 rfl (lv_at hl 0 rfl) ?_
    refine lv_iload_n hx hb dX9_shortest_14 rfl (lv_at hl 2 rfl) ?_
    refine lv_iconst (v := (0 : Int32)) hx hb dX9_shortest_15 (by decide) ?_
    obtain ⟨r_3, s_3, e_3, hf⟩ := mm_bd_ok hf
    refine mm_callV X hP hS hl.1 [.int x2, .int (0 : Int32)] [] (cx_X9_reach l D ad cA hI x2 (0 : Int32) s_2 r_3 s_3 e_3) kp_20 rfl rfl wd_709 wd_711 wp_11 wd_9 wd_712 hd_X9_reach ⟨Nat.le_of_ble_eq_true rfl, Nat.le_of_ble_eq_true rfl⟩ rfl (Nat.le_of_ble_eq_true rfl) dX9_shortest_16 (fun H locs hP hS => ?_)
    refine lv_iconst (v := (0 : Int32)) hx hb dX9_shortest_19 (by decide) ?_
    refine lv_istore (lv' := [(4, .int (0 : Int32)), (0, .ref (ad 7 20 0)), (1, .ref (ad r1 1 0)), (2, .int x2), (3, .int x3)]) hx hb dX9_shortest_20 hl (by decide) rfl (fun ls hl => ?_)
    exact cx_X9_shortest_L22 r1 x2 x3 hr1 rv σ1 X mm_FU (0 : Int32) s_3 H locs ls hf hP hS (lv_sub hl [1, 2, 4, 0] rfl)
  exact hgen _ _ hP hS
def fx_X10_steps (x1 : Int32) (x2 : Int32) (σ : mm_M) : mm_R := mm_bd (fx_X10_isCell x1 σ) fun r_1 s_1 => (if r_1 = (0 : Int32) then some ((-1000001 : Int32), s_1) else mm_bd (fx_X10_isCell x2 s_1) fun r_3 s_3 => (if r_3 = (0 : Int32) then some ((-1000001 : Int32), s_3) else mm_bd (fx_X9_shortest 0 x1 x2 s_3) fun r_5 s_5 => (some (r_5, s_5))))
set_option maxHeartbeats 4000000 in
set_option maxRecDepth 100000 in
theorem cx_X10_steps (l : Launch) (D : va_G) (ad : mm_A) (cA : Nat → ClassId) (hI : mm_Inj ad) (x1 : Int32) (x2 : Int32)  (σ : mm_M) (rv : Int32) (σ1 : mm_M) (hf : fx_X10_steps x1 x2 σ = some (rv, σ1)) : Met l yX10_steps (Cond.code yX10_steps cX10_steps 3 (some .int) :: tb) (mm_rm 3 70) (mm_pre D ad cA [.ref (ad 6 9 0), .int x1, .int x2] σ) (mm_Q D ad cA (some (.int rv)) σ1) 0 0 (mm_AS ad) := by
  refine mm_start (by decide +kernel) hI (Nat.le_of_ble_eq_true rfl) ?_
  intro p e s m args below meth c X hP ls hl
  have hl : lv_has ls 3 [(0, .ref (ad 6 9 0)), (1, .int x1), (2, .int x2)] := hl
  have hx := X.1
  have hb := X.2.1
  have hS : va_S (mm_AS ad) s.heap s.heap [] := va_S.rf
  have hgen : ∀ (H : Heap) (locs : List Loc), va_P D vwCl (mm_wd ad cA σ) H → va_S (mm_AS ad) s.heap H locs → W p l e (mm_rm 3 70) s m args below meth c H locs 0 0 (MQ below (mm_Q D ad cA (some (.int rv)) σ1) args s 0 0 (mm_AS ad)) (F0 m 0 ls []) := by
    intro H locs hP hS
    rw [fx_X10_steps] at hf
    refine lv_iload_n hx hb dX10_steps_0 rfl (lv_at hl 1 rfl) ?_
    obtain ⟨r_1, s_1, e_1, hf⟩ := mm_bd_ok hf
    refine mm_callS X hP hS hl.1 [.int x1] [] (cx_X10_isCell l D ad cA hI x1 σ r_1 s_1 e_1) wd_361 wd_362 wd_1 wd_363 hd_X10_isCell ⟨Nat.le_of_ble_eq_true rfl, Nat.le_of_ble_eq_true rfl⟩ rfl (Nat.le_of_ble_eq_true rfl) dX10_steps_1 (fun H locs hP hS => ?_)
    refine lv_if_eq (tgt := 14) hx hb dX10_steps_4 (by decide) (fun c_2 => ?_) (fun c_2 => ?_)
    · replace hf := mm_it c_2 hf
      refine lv_ldc (v := (-1000001 : Int32)) hx hb X.2.2.2.2.2.1 (X.2.2.2.2.2.2.1 _ wd_318) dX10_steps_14 ?_
      obtain ⟨rfl, rfl⟩ := mm_ret hf
      exact mm_iret X hP hS dX10_steps_16
    · replace hf := mm_if c_2 hf
      refine lv_iload_n hx hb dX10_steps_7 rfl (lv_at hl 2 rfl) ?_
      obtain ⟨r_3, s_3, e_3, hf⟩ := mm_bd_ok hf
      refine mm_callS X hP hS hl.1 [.int x2] [] (cx_X10_isCell l D ad cA hI x2 s_1 r_3 s_3 e_3) wd_361 wd_362 wd_1 wd_363 hd_X10_isCell ⟨Nat.le_of_ble_eq_true rfl, Nat.le_of_ble_eq_true rfl⟩ rfl (Nat.le_of_ble_eq_true rfl) dX10_steps_8 (fun H locs hP hS => ?_)
      refine lv_if_ne (tgt := 17) hx hb dX10_steps_11 (by decide) (fun c_4 => ?_) (fun c_4 => ?_)
      · replace hf := mm_if c_4 hf
        refine lv_aload_n hx hb dX10_steps_17 rfl (lv_at hl 0 rfl) ?_
        refine gf_9_4 X hP  wd_287 dX10_steps_18 ?_
        refine lv_aload_n hx hb dX10_steps_21 rfl (lv_at hl 0 rfl) ?_
        refine gf_9_0 X hP  wd_283 dX10_steps_22 ?_
        refine gf_0_0 X hP (by decide) wd_109 dX10_steps_25 ?_
        refine lv_iload_n hx hb dX10_steps_28 rfl (lv_at hl 1 rfl) ?_
        refine lv_iload_n hx hb dX10_steps_29 rfl (lv_at hl 2 rfl) ?_
        obtain ⟨r_5, s_5, e_5, hf⟩ := mm_bd_ok hf
        refine mm_callV X hP hS hl.1 [.ref (ad 0 1 0), .int x1, .int x2] [] (cx_X9_shortest l D ad cA hI 0 x1 x2 (by decide) s_3 r_5 s_5 e_5) kp_20 rfl rfl wd_702 wd_703 wd_704 wd_9 wd_705 hd_X9_shortest ⟨Nat.le_of_ble_eq_true rfl, Nat.le_of_ble_eq_true rfl⟩ rfl (Nat.le_of_ble_eq_true rfl) dX10_steps_30 (fun H locs hP hS => ?_)
        obtain ⟨rfl, rfl⟩ := mm_ret hf
        exact mm_iret X hP hS dX10_steps_33
      · replace hf := mm_it c_4 hf
        refine lv_ldc (v := (-1000001 : Int32)) hx hb X.2.2.2.2.2.1 (X.2.2.2.2.2.2.1 _ wd_318) dX10_steps_14 ?_
        obtain ⟨rfl, rfl⟩ := mm_ret hf
        exact mm_iret X hP hS dX10_steps_16
  exact hgen _ _ hP hS
def fx_X8_cartsOut_L4 (r0 : Nat)  : Nat → Int32 → Int32 → mm_M → mm_R
  | 0, _, _, _ => none
  | fu + 1, v1, v2, σ => if (σ r0 0 0 2) ≤ v2 then some (v1, σ) else mm_gd (mm_ix v2 4 = true) (mm_bd (fx_X3_isOut r0 v2.toNatClampNeg σ) fun r_3 s_3 => (if r_3 = (0 : Int32) then mm_li (v2 + (1 : Int32)) fun y_5 => (fx_X8_cartsOut_L4 r0 fu v1 y_5 s_3) else mm_li (v1 + (1 : Int32)) fun y_6 => (mm_li (v2 + (1 : Int32)) fun y_7 => (fx_X8_cartsOut_L4 r0 fu y_6 y_7 s_3))))
set_option maxHeartbeats 4000000 in
set_option maxRecDepth 100000 in
theorem cx_X8_cartsOut_L4 {p : Program} {l : Launch} {e : Env} {s : State} {m : MethodId} {args : Array Value} {below : List Frame} {meth : Method} {c : Code} {D : va_G} {ad : mm_A} {cA : Nat → ClassId} (r0 : Nat) (hr0 : r0 < 6) (rv : Int32) (σ1 : mm_M)  (X : mm_X p s m args meth c cX8_cartsOut 3 (some .int) RX8 D ad cA) : ∀ (fu : Nat), ∀ (v1 : Int32) (v2 : Int32) (σ : mm_M) (H : Heap) (locs : List Loc) (ls : Array Slot), fx_X8_cartsOut_L4 r0 fu v1 v2 σ = some (rv, σ1) → va_P D vwCl (mm_wd ad cA σ) H → va_S (mm_AS ad) s.heap H locs → lv_has ls 3 [(0, .ref (ad r0 0 0)), (1, .int v1), (2, .int v2)] → W p l e (mm_rm 1 20) s m args below meth c H locs 0 0 (MQ below (mm_Q D ad cA (some (.int rv)) σ1) args s 0 0 (mm_AS ad)) (F0 m 4 ls []) := by
  have hx := X.1
  have hb := X.2.1
  have hI := X.2.2.2.2.2.2.2.2.2
  intro fu
  induction fu with
  | zero =>
    intro v1 v2 σ H locs ls hf
    exact mm_no hf
  | succ fu ih =>
    intro v1 v2 σ H locs ls hf hP hS hl
    rw [fx_X8_cartsOut_L4] at hf
    refine lv_iload_n hx hb dX8_cartsOut_4 rfl (lv_at hl 2 rfl) ?_
    refine lv_aload_n hx hb dX8_cartsOut_5 rfl (lv_at hl 0 rfl) ?_
    refine gf_0_2 X hP hr0 wd_117 dX8_cartsOut_6 ?_
    refine lv_icmp_ge (tgt := 33) hx hb dX8_cartsOut_9 (by decide) (fun c_1 => ?_) (fun c_1 => ?_)
    · replace hf := mm_it c_1 hf
      refine lv_iload_n hx hb dX8_cartsOut_33 rfl (lv_at hl 1 rfl) ?_
      obtain ⟨rfl, rfl⟩ := mm_ret hf
      exact mm_iret X hP hS dX8_cartsOut_34
    · replace hf := mm_if c_1 hf
      refine lv_aload_n hx hb dX8_cartsOut_12 rfl (lv_at hl 0 rfl) ?_
      refine gf_0_1 X hP hr0 wd_110 dX8_cartsOut_13 ?_
      refine lv_iload_n hx hb dX8_cartsOut_16 rfl (lv_at hl 2 rfl) ?_
      obtain ⟨h_2, hf⟩ := mm_gd_ok hf
      refine mm_cart X hP hr0 h_2 dX8_cartsOut_17 ?_
      obtain ⟨r_3, s_3, e_3, hf⟩ := mm_bd_ok hf
      refine mm_callV X hP hS hl.1 [] [] (cx_X3_isOut l D ad cA hI r0 v2.toNatClampNeg hr0 (mm_ix_lt h_2) σ r_3 s_3 e_3) (mm_kc r0 hr0 v2.toNatClampNeg (mm_ix_lt h_2) 0 (by decide)) rfl rfl wd_313 wd_314 wd_315 wd_4 wd_316 hd_X3_isOut ⟨Nat.le_of_ble_eq_true rfl, Nat.le_of_ble_eq_true rfl⟩ rfl (Nat.le_of_ble_eq_true rfl) dX8_cartsOut_18 (fun H locs hP hS => ?_)
      refine lv_if_eq (tgt := 27) hx hb dX8_cartsOut_21 (by decide) (fun c_4 => ?_) (fun c_4 => ?_)
      · replace hf := mm_it c_4 hf
        obtain ⟨y_5, e_5, hf⟩ := mm_li_ok hf
        refine lv_iinc (v := y_5) (lv' := [(2, .int y_5), (0, .ref (ad r0 0 0)), (1, .int v1)]) hx hb dX8_cartsOut_27 hl (k := 2) rfl (by rw [e_5]; rfl) (by decide) rfl (fun ls hl => ?_)
        refine lv_goto (tgt := 4) hx hb dX8_cartsOut_30 (by decide) ?_
        exact ih v1 y_5 s_3 H locs ls  hf hP hS (lv_sub hl [1, 2, 0] rfl)
      · replace hf := mm_if c_4 hf
        obtain ⟨y_6, e_6, hf⟩ := mm_li_ok hf
        refine lv_iinc (v := y_6) (lv' := [(1, .int y_6), (0, .ref (ad r0 0 0)), (2, .int v2)]) hx hb dX8_cartsOut_24 hl (k := 1) rfl (by rw [e_6]; rfl) (by decide) rfl (fun ls hl => ?_)
        obtain ⟨y_7, e_7, hf⟩ := mm_li_ok hf
        refine lv_iinc (v := y_7) (lv' := [(2, .int y_7), (1, .int y_6), (0, .ref (ad r0 0 0))]) hx hb dX8_cartsOut_27 hl (k := 2) rfl (by rw [e_7]; rfl) (by decide) rfl (fun ls hl => ?_)
        refine lv_goto (tgt := 4) hx hb dX8_cartsOut_30 (by decide) ?_
        exact ih y_6 y_7 s_3 H locs ls  hf hP hS (lv_sub hl [2, 1, 0] rfl)
def fx_X8_cartsOut (r0 : Nat) (σ : mm_M) : mm_R := fx_X8_cartsOut_L4 r0 mm_FU (0 : Int32) (0 : Int32) σ
set_option maxHeartbeats 4000000 in
set_option maxRecDepth 100000 in
theorem cx_X8_cartsOut (l : Launch) (D : va_G) (ad : mm_A) (cA : Nat → ClassId) (hI : mm_Inj ad) (r0 : Nat) (hr0 : r0 < 6) (σ : mm_M) (rv : Int32) (σ1 : mm_M) (hf : fx_X8_cartsOut r0 σ = some (rv, σ1)) : Met l yX8_cartsOut (Cond.code yX8_cartsOut cX8_cartsOut 3 (some .int) :: tb) (mm_rm 1 20) (mm_pre D ad cA [.ref (ad r0 0 0)] σ) (mm_Q D ad cA (some (.int rv)) σ1) 0 0 (mm_AS ad) := by
  refine mm_start (by decide +kernel) hI (Nat.le_of_ble_eq_true rfl) ?_
  intro p e s m args below meth c X hP ls hl
  have hl : lv_has ls 3 [(0, .ref (ad r0 0 0))] := hl
  have hx := X.1
  have hb := X.2.1
  have hS : va_S (mm_AS ad) s.heap s.heap [] := va_S.rf
  have hgen : ∀ (H : Heap) (locs : List Loc), va_P D vwCl (mm_wd ad cA σ) H → va_S (mm_AS ad) s.heap H locs → W p l e (mm_rm 1 20) s m args below meth c H locs 0 0 (MQ below (mm_Q D ad cA (some (.int rv)) σ1) args s 0 0 (mm_AS ad)) (F0 m 0 ls []) := by
    intro H locs hP hS
    rw [fx_X8_cartsOut] at hf
    refine lv_iconst (v := (0 : Int32)) hx hb dX8_cartsOut_0 (by decide) ?_
    refine lv_istore_n (lv' := [(1, .int (0 : Int32)), (0, .ref (ad r0 0 0))]) hx hb dX8_cartsOut_1 rfl hl (by decide) rfl (fun ls hl => ?_)
    refine lv_iconst (v := (0 : Int32)) hx hb dX8_cartsOut_2 (by decide) ?_
    refine lv_istore_n (lv' := [(2, .int (0 : Int32)), (1, .int (0 : Int32)), (0, .ref (ad r0 0 0))]) hx hb dX8_cartsOut_3 rfl hl (by decide) rfl (fun ls hl => ?_)
    exact cx_X8_cartsOut_L4 r0 hr0 rv σ1 X mm_FU (0 : Int32) (0 : Int32) σ H locs ls hf hP hS (lv_sub hl [2, 1, 0] rfl)
  exact hgen _ _ hP hS
