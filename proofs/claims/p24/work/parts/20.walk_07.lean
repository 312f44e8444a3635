def fx_X10_fault (x1 : Int32) (σ : mm_M) : mm_R := mm_bd (fx_X10_isWithin x1 (0 : Int32) (2 : Int32) σ) fun r_1 s_1 => (if r_1 = (0 : Int32) then some ((-1000001 : Int32), s_1) else mm_bd (fx_X10_freshTrial  s_1) fun _ s_3 => (mm_bd (fx_X5_doAll 1 s_3) fun _ s_4 => (mm_bd (fx_X5_isFaulty  s_4) fun r_5 s_5 => (if r_5 = (0 : Int32) then some ((-1000004 : Int32), s_5) else if x1 = (0 : Int32) then some (s_5 9 26 0 3, s_5) else if x1 = (1 : Int32) then some (s_5 9 26 0 4, s_5) else some (s_5 9 26 0 5, s_5)))))
set_option maxHeartbeats 4000000 in
set_option maxRecDepth 100000 in
theorem cx_X10_fault (l : Launch) (D : va_G) (ad : mm_A) (cA : Nat → ClassId) (hI : mm_Inj ad) (x1 : Int32)  (σ : mm_M) (rv : Int32) (σ1 : mm_M) (hf : fx_X10_fault x1 σ = some (rv, σ1)) : Met l yX10_fault (Cond.code yX10_fault cX10_fault 2 (some .int) :: tb) (mm_rm 7 160) (mm_pre D ad cA [.ref (ad 6 9 0), .int x1] σ) (mm_Q D ad cA (some (.int rv)) σ1) 0 0 (mm_AS ad) := by
  refine mm_start (by decide +kernel) hI (Nat.le_of_ble_eq_true rfl) ?_
  intro p e s m args below meth c X hP ls hl
  have hl : lv_has ls 2 [(0, .ref (ad 6 9 0)), (1, .int x1)] := hl
  have hx := X.1
  have hb := X.2.1
  have hS : va_S (mm_AS ad) s.heap s.heap [] := va_S.rf
  have hgen : ∀ (H : Heap) (locs : List Loc), va_P D vwCl (mm_wd ad cA σ) H → va_S (mm_AS ad) s.heap H locs → W p l e (mm_rm 7 160) s m args below meth c H locs 0 0 (MQ below (mm_Q D ad cA (some (.int rv)) σ1) args s 0 0 (mm_AS ad)) (F0 m 0 ls []) := by
    intro H locs hP hS
    rw [fx_X10_fault] at hf
    refine lv_iload_n hx hb dX10_fault_0 rfl (lv_at hl 1 rfl) ?_
    refine lv_iconst (v := (0 : Int32)) hx hb dX10_fault_1 (by decide) ?_
    refine lv_iconst (v := (2 : Int32)) hx hb dX10_fault_2 (by decide) ?_
    obtain ⟨r_1, s_1, e_1, hf⟩ := mm_bd_ok hf
    refine mm_callS X hP hS hl.1 [.int x1, .int (0 : Int32), .int (2 : Int32)] [] (cx_X10_isWithin l D ad cA hI x1 (0 : Int32) (2 : Int32) σ r_1 s_1 e_1) wd_364 wd_365 wd_1 wd_366 hd_X10_isWithin ⟨Nat.le_of_ble_eq_true rfl, Nat.le_of_ble_eq_true rfl⟩ rfl (Nat.le_of_ble_eq_true rfl) dX10_fault_3 (fun H locs hP hS => ?_)
    refine lv_if_ne (tgt := 12) hx hb dX10_fault_6 (by decide) (fun c_2 => ?_) (fun c_2 => ?_)
    · replace hf := mm_if c_2 hf
      refine lv_aload_n hx hb dX10_fault_12 rfl (lv_at hl 0 rfl) ?_
      refine gf_9_6 X hP  wd_289 dX10_fault_13 ?_
      refine lv_aload_n hx hb dX10_fault_16 rfl (lv_at hl 0 rfl) ?_
      obtain ⟨r_3, s_3, e_3, hf⟩ := mm_bd_ok hf
      refine mm_callV X hP hS hl.1 [] [.ref (ad 9 26 0)] (cx_X10_freshTrial l D ad cA hI  s_1 r_3 s_3 e_3) kp_9 rfl rfl wd_441 wd_443 wp_0 wd_1 wd_444 hd_X10_freshTrial ⟨Nat.le_of_ble_eq_true rfl, Nat.le_of_ble_eq_true rfl⟩ rfl (Nat.le_of_ble_eq_true rfl) dX10_fault_17 (fun H locs hP hS => ?_)
      obtain ⟨r_4, s_4, e_4, hf⟩ := mm_bd_ok hf
      refine mm_callV X hP hS hl.1 [.ref (ad 1 0 0)] [] (cx_X5_doAll l D ad cA hI 1 (by decide) s_3 r_4 s_4 e_4) kp_26 rfl rfl wd_747 wd_748 wd_749 wd_11 wd_750 hd_X5_doAll ⟨Nat.le_of_ble_eq_true rfl, Nat.le_of_ble_eq_true rfl⟩ rfl (Nat.le_of_ble_eq_true rfl) dX10_fault_20 (fun H locs hP hS => ?_)
      refine lv_aload_n hx hb dX10_fault_23 rfl (lv_at hl 0 rfl) ?_
      refine gf_9_6 X hP  wd_289 dX10_fault_24 ?_
      obtain ⟨r_5, s_5, e_5, hf⟩ := mm_bd_ok hf
      refine mm_callV X hP hS hl.1 [] [] (cx_X5_isFaulty l D ad cA hI  s_4 r_5 s_5 e_5) kp_26 rfl rfl wd_780 wd_752 wd_753 wd_11 wd_754 hd_X5_isFaulty ⟨Nat.le_of_ble_eq_true rfl, Nat.le_of_ble_eq_true rfl⟩ rfl (Nat.le_of_ble_eq_true rfl) dX10_fault_27 (fun H locs hP hS => ?_)
      refine lv_if_ne (tgt := 36) hx hb dX10_fault_30 (by decide) (fun c_6 => ?_) (fun c_6 => ?_)
      · replace hf := mm_if c_6 hf
        refine lv_iload_n hx hb dX10_fault_36 rfl (lv_at hl 1 rfl) ?_
        by_cases c_7 : x1 = (0 : Int32)
        · replace hf := mm_it c_7 hf
          refine lv_lookup (off := 27) (tgt := 64) hx hb dX10_fault_37 (by decide +kernel) (by rw [c_7]; decide +kernel) (by decide) ?_
          refine lv_aload_n hx hb dX10_fault_64 rfl (lv_at hl 0 rfl) ?_
          refine gf_9_6 X hP  wd_289 dX10_fault_65 ?_
          refine gf_26_3 X hP  wd_265 dX10_fault_68 ?_
          obtain ⟨rfl, rfl⟩ := mm_ret hf
          exact mm_iret X hP hS dX10_fault_71
        replace hf := mm_if c_7 hf
        by_cases c_8 : x1 = (1 : Int32)
        · replace hf := mm_it c_8 hf
          refine lv_lookup (off := 35) (tgt := 72) hx hb dX10_fault_37 (by decide +kernel) (by rw [c_8]; decide +kernel) (by decide) ?_
          refine lv_aload_n hx hb dX10_fault_72 rfl (lv_at hl 0 rfl) ?_
          refine gf_9_6 X hP  wd_289 dX10_fault_73 ?_
          refine gf_26_4 X hP  wd_267 dX10_fault_76 ?_
          obtain ⟨rfl, rfl⟩ := mm_ret hf
          exact mm_iret X hP hS dX10_fault_79
        replace hf := mm_if c_8 hf
        refine lv_lookup (off := 43) (tgt := 80) hx hb dX10_fault_37 (by decide +kernel) (by show Op.lookupswitch.offset [(0, 27), (1, 35)] _ _ = _; rw [lv_osw c_7 (by decide), lv_osw c_8 (by decide)]; rfl) (by decide) ?_
        refine lv_aload_n hx hb dX10_fault_80 rfl (lv_at hl 0 rfl) ?_
        refine gf_9_6 X hP  wd_289 dX10_fault_81 ?_
        refine gf_26_5 X hP  wd_269 dX10_fault_84 ?_
        obtain ⟨rfl, rfl⟩ := mm_ret hf
        exact mm_iret X hP hS dX10_fault_87
      · replace hf := mm_it c_6 hf
        refine lv_ldc (v := (-1000004 : Int32)) hx hb X.2.2.2.2.2.1 (X.2.2.2.2.2.2.1 _ wd_317) dX10_fault_33 ?_
        obtain ⟨rfl, rfl⟩ := mm_ret hf
        exact mm_iret X hP hS dX10_fault_35
    · replace hf := mm_it c_2 hf
      refine lv_ldc (v := (-1000001 : Int32)) hx hb X.2.2.2.2.2.1 (X.2.2.2.2.2.2.1 _ wd_318) dX10_fault_9 ?_
      obtain ⟨rfl, rfl⟩ := mm_ret hf
      exact mm_iret X hP hS dX10_fault_11
  exact hgen _ _ hP hS
def fx_X10_play_J34   (w1 : Int32) (σ : mm_M) : mm_R := mm_bd (fx_X10_keep w1 σ) fun r_5 s_5 => (some (r_5, s_5))
set_option maxHeartbeats 4000000 in
set_option maxRecDepth 100000 in
theorem cx_X10_play_J34 {p : Program} {l : Launch} {e : Env} {s : State} {m : MethodId} {args : Array Value} {below : List Frame} {meth : Method} {c : Code} {D : va_G} {ad : mm_A} {cA : Nat → ClassId}   (rv : Int32) (σ1 : mm_M)  (X : mm_X p s m args meth c cX10_play 1 (some .int) RX10 D ad cA) : ∀ (w1 : Int32) (σ : mm_M) (H : Heap) (locs : List Loc) (ls : Array Slot), fx_X10_play_J34  w1 σ = some (rv, σ1) → va_P D vwCl (mm_wd ad cA σ) H → va_S (mm_AS ad) s.heap H locs → lv_has ls 1 [] → W p l e (mm_rm 7 160) s m args below meth c H locs 0 0 (MQ below (mm_Q D ad cA (some (.int rv)) σ1) args s 0 0 (mm_AS ad)) (F0 m 34 ls [.int w1, .ref (ad 6 9 0)]) := by
  have hx := X.1
  have hb := X.2.1
  have hI := X.2.2.2.2.2.2.2.2.2
  intro w1 σ H locs ls hf hP hS hl
  rw [fx_X10_play_J34] at hf
  obtain ⟨r_5, s_5, e_5, hf⟩ := mm_bd_ok hf
  refine mm_callV X hP hS hl.1 [.int w1] [] (cx_X10_keep l D ad cA hI w1 σ r_5 s_5 e_5) kp_9 rfl rfl wd_465 wd_467 wp_1 wd_1 wd_468 hd_X10_keep ⟨Nat.le_of_ble_eq_true rfl, Nat.le_of_ble_eq_true rfl⟩ rfl (Nat.le_of_ble_eq_true rfl) dX10_play_34 (fun H locs hP hS => ?_)
  obtain ⟨rfl, rfl⟩ := mm_ret hf
  exact mm_iret X hP hS dX10_play_37
def fx_X10_play  (σ : mm_M) : mm_R := mm_bd (fx_X10_freshTrial  σ) fun _ s_1 => (mm_bd (fx_X5_doAll 1 s_1) fun _ s_2 => (mm_bd (fx_X5_isFaulty  s_2) fun r_3 s_3 => (if r_3 = (0 : Int32) then fx_X10_play_J34 (s_3 9 26 0 2) s_3 else fx_X10_play_J34 (-1000002 : Int32) s_3)))
set_option maxHeartbeats 4000000 in
set_option maxRecDepth 100000 in
theorem cx_X10_play (l : Launch) (D : va_G) (ad : mm_A) (cA : Nat → ClassId) (hI : mm_Inj ad)   (σ : mm_M) (rv : Int32) (σ1 : mm_M) (hf : fx_X10_play  σ = some (rv, σ1)) : Met l yX10_play (Cond.code yX10_play cX10_play 1 (some .int) :: tb) (mm_rm 7 160) (mm_pre D ad cA [.ref (ad 6 9 0)] σ) (mm_Q D ad cA (some (.int rv)) σ1) 0 0 (mm_AS ad) := by
  refine mm_start (by decide +kernel) hI (Nat.le_of_ble_eq_true rfl) ?_
  intro p e s m args below meth c X hP ls hl
  have hl : lv_has ls 1 [(0, .ref (ad 6 9 0))] := hl
  have hx := X.1
  have hb := X.2.1
  have hS : va_S (mm_AS ad) s.heap s.heap [] := va_S.rf
  have hgen : ∀ (H : Heap) (locs : List Loc), va_P D vwCl (mm_wd ad cA σ) H → va_S (mm_AS ad) s.heap H locs → W p l e (mm_rm 7 160) s m args below meth c H locs 0 0 (MQ below (mm_Q D ad cA (some (.int rv)) σ1) args s 0 0 (mm_AS ad)) (F0 m 0 ls []) := by
    intro H locs hP hS
    rw [fx_X10_play] at hf
    refine lv_aload_n hx hb dX10_play_0 rfl (lv_at hl 0 rfl) ?_
    refine gf_9_6 X hP  wd_289 dX10_play_1 ?_
    refine lv_aload_n hx hb dX10_play_4 rfl (lv_at hl 0 rfl) ?_
    obtain ⟨r_1, s_1, e_1, hf⟩ := mm_bd_ok hf
    refine mm_callV X hP hS hl.1 [] [.ref (ad 9 26 0)] (cx_X10_freshTrial l D ad cA hI  σ r_1 s_1 e_1) kp_9 rfl rfl wd_441 wd_443 wp_0 wd_1 wd_444 hd_X10_freshTrial ⟨Nat.le_of_ble_eq_true rfl, Nat.le_of_ble_eq_true rfl⟩ rfl (Nat.le_of_ble_eq_true rfl) dX10_play_5 (fun H locs hP hS => ?_)
    obtain ⟨r_2, s_2, e_2, hf⟩ := mm_bd_ok hf
    refine mm_callV X hP hS hl.1 [.ref (ad 1 0 0)] [] (cx_X5_doAll l D ad cA hI 1 (by decide) s_1 r_2 s_2 e_2) kp_26 rfl rfl wd_747 wd_748 wd_749 wd_11 wd_750 hd_X5_doAll ⟨Nat.le_of_ble_eq_true rfl, Nat.le_of_ble_eq_true rfl⟩ rfl (Nat.le_of_ble_eq_true rfl) dX10_play_8 (fun H locs hP hS => ?_)
    refine lv_aload_n hx hb dX10_play_11 rfl (lv_at hl 0 rfl) ?_
    refine lv_aload_n hx hb dX10_play_12 rfl (lv_at hl 0 rfl) ?_
    refine gf_9_6 X hP  wd_289 dX10_play_13 ?_
    obtain ⟨r_3, s_3, e_3, hf⟩ := mm_bd_ok hf
    refine mm_callV X hP hS hl.1 [] [.ref (ad 6 9 0)] (cx_X5_isFaulty l D ad cA hI  s_2 r_3 s_3 e_3) kp_26 rfl rfl wd_780 wd_752 wd_753 wd_11 wd_754 hd_X5_isFaulty ⟨Nat.le_of_ble_eq_true rfl, Nat.le_of_ble_eq_true rfl⟩ rfl (Nat.le_of_ble_eq_true rfl) dX10_play_16 (fun H locs hP hS => ?_)
    refine lv_if_eq (tgt := 27) hx hb dX10_play_19 (by decide) (fun c_4 => ?_) (fun c_4 => ?_)
    · replace hf := mm_it c_4 hf
      refine lv_aload_n hx hb dX10_play_27 rfl (lv_at hl 0 rfl) ?_
      refine gf_9_6 X hP  wd_289 dX10_play_28 ?_
      refine gf_26_2 X hP  wd_263 dX10_play_31 ?_
      exact cx_X10_play_J34 rv σ1 X (s_3 9 26 0 2) s_3 H locs ls hf hP hS (lv_sub hl [] rfl)
    · replace hf := mm_if c_4 hf
      refine lv_ldc (v := (-1000002 : Int32)) hx hb X.2.2.2.2.2.1 (X.2.2.2.2.2.2.1 _ wd_323) dX10_play_22 ?_
      refine lv_goto (tgt := 34) hx hb dX10_play_24 (by decide) ?_
      exact cx_X10_play_J34 rv σ1 X (-1000002 : Int32) s_3 H locs ls hf hP hS (lv_sub hl [] rfl)
  exact hgen _ _ hP hS
def fx_L_low (x0 : Int32) (x1 : Int32) (σ : mm_M) : mm_R := mm_gd (¬ x1 = 0) (some ((x0 &&& (2147483647 : Int32)) - (x0 &&& (2147483647 : Int32)) / x1 * x1, σ))
set_option maxHeartbeats 4000000 in
set_option maxRecDepth 100000 in
theorem cx_L_low (l : Launch) (D : va_G) (ad : mm_A) (cA : Nat → ClassId) (hI : mm_Inj ad) (x0 : Int32) (x1 : Int32)  (σ : mm_M) (rv : Int32) (σ1 : mm_M) (hf : fx_L_low x0 x1 σ = some (rv, σ1)) : Met l yL_low (Cond.code yL_low cL_low 2 (some .int) :: tb) (mm_rm 0 0) (mm_pre D ad cA [.int x0, .int x1] σ) (mm_Q D ad cA (some (.int rv)) σ1) 0 0 (mm_AS ad) := by
  refine mm_start (by decide +kernel) hI (Nat.le_of_ble_eq_true rfl) ?_
  intro p e s m args below meth c X hP ls hl
  have hl : lv_has ls 2 [(0, .int x0), (1, .int x1)] := hl
  have hx := X.1
  have hb := X.2.1
  have hS : va_S (mm_AS ad) s.heap s.heap [] := va_S.rf
  have hgen : ∀ (H : Heap) (locs : List Loc), va_P D vwCl (mm_wd ad cA σ) H → va_S (mm_AS ad) s.heap H locs → W p l e (mm_rm 0 0) s m args below meth c H locs 0 0 (MQ below (mm_Q D ad cA (some (.int rv)) σ1) args s 0 0 (mm_AS ad)) (F0 m 0 ls []) := by
    intro H locs hP hS
    rw [fx_L_low] at hf
    refine lv_iload_n hx hb dL_low_0 rfl (lv_at hl 0 rfl) ?_
    refine lv_ldc (v := (2147483647 : Int32)) hx hb X.2.2.2.2.2.1 (X.2.2.2.2.2.2.1 _ wd_351) dL_low_1 ?_
    refine lv_iand hx hb dL_low_3 ?_
    refine lv_iload_n hx hb dL_low_4 rfl (lv_at hl 1 rfl) ?_
    obtain ⟨h_1, hf⟩ := mm_gd_ok hf
    refine lv_irem hx hb dL_low_5 h_1 ?_
    obtain ⟨rfl, rfl⟩ := mm_ret hf
    exact mm_iret X hP hS dL_low_6
  exact hgen _ _ hP hS
def fx_L_digest_J38  (k6 : Int64 → Int32 → mm_M → mm_RL) (v3 : Int32) (w0 : Int64) (w1 : Int32) (σ : mm_M) : mm_RL := mm_liL (v3 + (1 : Int32)) fun y_8 => (k6 (w0 + w1.toInt64) y_8 σ)
set_option maxHeartbeats 4000000 in
set_option maxRecDepth 100000 in
theorem cx_L_digest_J38 {p : Program} {l : Launch} {e : Env} {s : State} {m : MethodId} {args : Array Value} {below : List Frame} {meth : Method} {c : Code} {D : va_G} {ad : mm_A} {cA : Nat → ClassId}   (rv : Int64) (σ1 : mm_M) (k6 : Int64 → Int32 → mm_M → mm_RL) (hk6 : ∀ (v1 : Int64) (v3 : Int32) (σ : mm_M) (H : Heap) (locs : List Loc) (ls : Array Slot), k6 v1 v3 σ = some (rv, σ1) → va_P D vwCl (mm_wd ad cA σ) H → va_S (mm_AS ad) s.heap H locs → lv_has ls 4 [(0, .ref (ad 6 9 0)), (1, .long v1), (3, .int v3)] → W p l e (mm_rm 5 106) s m args below meth c H locs 0 0 (MQ below (mm_Q D ad cA (some (.long rv)) σ1) args s 0 0 (mm_AS ad)) (F0 m 6 ls [])) (X : mm_X p s m args meth c cL_digest 4 (some .long) RL D ad cA) : ∀ (v3 : Int32) (w0 : Int64) (w1 : Int32) (σ : mm_M) (H : Heap) (locs : List Loc) (ls : Array Slot), fx_L_digest_J38 k6 v3 w0 w1 σ = some (rv, σ1) → va_P D vwCl (mm_wd ad cA σ) H → va_S (mm_AS ad) s.heap H locs → lv_has ls 4 [(0, .ref (ad 6 9 0)), (3, .int v3)] → W p l e (mm_rm 5 106) s m args below meth c H locs 0 0 (MQ below (mm_Q D ad cA (some (.long rv)) σ1) args s 0 0 (mm_AS ad)) (F0 m 38 ls [.int w1, .long w0]) := by
  have hx := X.1
  have hb := X.2.1
  have hI := X.2.2.2.2.2.2.2.2.2
  intro v3 w0 w1 σ H locs ls hf hP hS hl
  rw [fx_L_digest_J38] at hf
  refine lv_i2l hx hb dL_digest_38 rfl ?_
  refine lv_ladd hx hb dL_digest_39 ?_
  refine lv_lstore_n (lv' := [(1, .long (w0 + w1.toInt64)), (0, .ref (ad 6 9 0)), (3, .int v3)]) hx hb dL_digest_40 rfl hl (by decide) rfl (fun ls hl => ?_)
  obtain ⟨y_8, e_8, hf⟩ := mm_liL_ok hf
  refine lv_iinc (v := y_8) (lv' := [(3, .int y_8), (1, .long (w0 + w1.toInt64)), (0, .ref (ad 6 9 0))]) hx hb dL_digest_41 hl (k := 2) rfl (by rw [e_8]; rfl) (by decide) rfl (fun ls hl => ?_)
  refine lv_goto (tgt := 6) hx hb dL_digest_44 (by decide) ?_
  exact hk6 (w0 + w1.toInt64) y_8 σ H locs ls  hf hP hS (lv_sub hl [2, 1, 0] rfl)
def fx_L_digest_L122   : Nat → Int64 → Int32 → mm_M → mm_RL
  | 0, _, _, _ => none
  | fu + 1, v1, v3, σ => mm_bdL (fx_X10_count (0 : Int32) σ) fun r_13 s_13 => (if (r_13 * (10 : Int32)) ≤ v3 then some (v1, s_13) else mm_bdL (fx_X10_cardOf (v3 / (10 : Int32)) ((v3 / (2 : Int32)) - (v3 / (2 : Int32)) / (5 : Int32) * (5 : Int32)) (v3 - v3 / (2 : Int32) * (2 : Int32)) s_13) fun r_15 s_15 => (mm_liL (v3 + (1 : Int32)) fun y_16 => (fx_L_digest_L122 fu (((31 : Int64) * v1) + r_15.toInt64) y_16 s_15)))
set_option maxHeartbeats 4000000 in
set_option maxRecDepth 100000 in
theorem cx_L_digest_L122 {p : Program} {l : Launch} {e : Env} {s : State} {m : MethodId} {args : Array Value} {below : List Frame} {meth : Method} {c : Code} {D : va_G} {ad : mm_A} {cA : Nat → ClassId}   (rv : Int64) (σ1 : mm_M)  (X : mm_X p s m args meth c cL_digest 4 (some .long) RL D ad cA) : ∀ (fu : Nat), ∀ (v1 : Int64) (v3 : Int32) (σ : mm_M) (H : Heap) (locs : List Loc) (ls : Array Slot), fx_L_digest_L122  fu v1 v3 σ = some (rv, σ1) → va_P D vwCl (mm_wd ad cA σ) H → va_S (mm_AS ad) s.heap H locs → lv_has ls 4 [(0, .ref (ad 6 9 0)), (1, .long v1), (3, .int v3)] → W p l e (mm_rm 5 106) s m args below meth c H locs 0 0 (MQ below (mm_Q D ad cA (some (.long rv)) σ1) args s 0 0 (mm_AS ad)) (F0 m 122 ls []) := by
  have hx := X.1
  have hb := X.2.1
  have hI := X.2.2.2.2.2.2.2.2.2
  intro fu
  induction fu with
  | zero =>
    intro v1 v3 σ H locs ls hf
    exact mm_noL hf
  | succ fu ih =>
    intro v1 v3 σ H locs ls hf hP hS hl
    rw [fx_L_digest_L122] at hf
    refine lv_iload_n hx hb dL_digest_122 rfl (lv_at hl 2 rfl) ?_
    refine lv_aload_n hx hb dL_digest_123 rfl (lv_at hl 0 rfl) ?_
    refine lv_iconst (v := (0 : Int32)) hx hb dL_digest_124 (by decide) ?_
    obtain ⟨r_13, s_13, e_13, hf⟩ := mm_bdL_ok hf
    refine mm_callV X hP hS hl.1 [.int (0 : Int32)] [.int v3] (cx_X10_count l D ad cA hI (0 : Int32) σ r_13 s_13 e_13) kp_9 rfl rfl wd_305 wd_306 wd_307 wd_1 wd_308 hd_X10_count ⟨Nat.le_of_ble_eq_true rfl, Nat.le_of_ble_eq_true rfl⟩ rfl (Nat.le_of_ble_eq_true rfl) dL_digest_125 (fun H locs hP hS => ?_)
    refine lv_bipush (v := (10 : Int32)) hx hb dL_digest_128 (by decide) ?_
    refine lv_imul hx hb dL_digest_130 ?_
    refine lv_icmp_ge (tgt := 164) hx hb dL_digest_131 (by decide) (fun c_14 => ?_) (fun c_14 => ?_)
    · replace hf := mm_itL c_14 hf
      refine lv_lload_n hx hb dL_digest_164 rfl (lv_at hl 1 rfl) ?_
      obtain ⟨rfl, rfl⟩ := mm_retL hf
      exact mm_lret X hP hS dL_digest_165
    · replace hf := mm_ifL c_14 hf
      refine lv_ldc2 (v := (31 : Int64)) hx hb X.2.2.2.2.2.1 (X.2.2.2.2.2.2.1 _ wd_356) dL_digest_134 ?_
      refine lv_lload_n hx hb dL_digest_137 rfl (lv_at hl 1 rfl) ?_
      refine lv_lmul hx hb dL_digest_138 ?_
      refine lv_aload_n hx hb dL_digest_139 rfl (lv_at hl 0 rfl) ?_
      refine lv_iload_n hx hb dL_digest_140 rfl (lv_at hl 2 rfl) ?_
      refine lv_bipush (v := (10 : Int32)) hx hb dL_digest_141 (by decide) ?_
      refine lv_idiv hx hb dL_digest_143 (by decide) ?_
      refine lv_iload_n hx hb dL_digest_144 rfl (lv_at hl 2 rfl) ?_
      refine lv_iconst (v := (2 : Int32)) hx hb dL_digest_145 (by decide) ?_
      refine lv_idiv hx hb dL_digest_146 (by decide) ?_
      refine lv_iconst (v := (5 : Int32)) hx hb dL_digest_147 (by decide) ?_
      refine lv_irem hx hb dL_digest_148 (by decide) ?_
      refine lv_iload_n hx hb dL_digest_149 rfl (lv_at hl 2 rfl) ?_
      refine lv_iconst (v := (2 : Int32)) hx hb dL_digest_150 (by decide) ?_
      refine lv_irem hx hb dL_digest_151 (by decide) ?_
      obtain ⟨r_15, s_15, e_15, hf⟩ := mm_bdL_ok hf
      refine mm_callV X hP hS hl.1 [.int (v3 / (10 : Int32)), .int ((v3 / (2 : Int32)) - (v3 / (2 : Int32)) / (5 : Int32) * (5 : Int32)), .int (v3 - v3 / (2 : Int32) * (2 : Int32))] [.long ((31 : Int64) * v1)] (cx_X10_cardOf l D ad cA hI (v3 / (10 : Int32)) ((v3 / (2 : Int32)) - (v3 / (2 : Int32)) / (5 : Int32) * (5 : Int32)) (v3 - v3 / (2 : Int32) * (2 : Int32)) s_13 r_15 s_15 e_15) kp_9 rfl rfl wd_419 wd_420 wd_421 wd_1 wd_422 hd_X10_cardOf ⟨Nat.le_of_ble_eq_true rfl, Nat.le_of_ble_eq_true rfl⟩ rfl (Nat.le_of_ble_eq_true rfl) dL_digest_152 (fun H locs hP hS => ?_)
      refine lv_i2l hx hb dL_digest_155 rfl ?_
      refine lv_ladd hx hb dL_digest_156 ?_
      refine lv_lstore_n (lv' := [(1, .long (((31 : Int64) * v1) + r_15.toInt64)), (0, .ref (ad 6 9 0)), (3, .int v3)]) hx hb dL_digest_157 rfl hl (by decide) rfl (fun ls hl => ?_)
      obtain ⟨y_16, e_16, hf⟩ := mm_liL_ok hf
      refine lv_iinc (v := y_16) (lv' := [(3, .int y_16), (1, .long (((31 : Int64) * v1) + r_15.toInt64)), (0, .ref (ad 6 9 0))]) hx hb dL_digest_158 hl (k := 2) rfl (by rw [e_16]; rfl) (by decide) rfl (fun ls hl => ?_)
      refine lv_goto (tgt := 122) hx hb dL_digest_161 (by decide) ?_
      exact ih (((31 : Int64) * v1) + r_15.toInt64) y_16 s_15 H locs ls  hf hP hS (lv_sub hl [2, 1, 0] rfl)
def fx_L_digest_L82   : Nat → Int64 → Int32 → mm_M → mm_RL
  | 0, _, _, _ => none
  | fu + 1, v1, v3, σ => mm_bdL (fx_X10_count (0 : Int32) σ) fun r_9 s_9 => (if (r_9 * (9 : Int32)) ≤ v3 then fx_L_digest_L122 mm_FU v1 (0 : Int32) s_9 else mm_bdL (fx_X10_cartOf (v3 / (9 : Int32)) (v3 - v3 / (9 : Int32) * (9 : Int32)) s_9) fun r_11 s_11 => (mm_liL (v3 + (1 : Int32)) fun y_12 => (fx_L_digest_L82 fu (((31 : Int64) * v1) + r_11.toInt64) y_12 s_11)))
set_option maxHeartbeats 4000000 in
set_option maxRecDepth 100000 in
theorem cx_L_digest_L82 {p : Program} {l : Launch} {e : Env} {s : State} {m : MethodId} {args : Array Value} {below : List Frame} {meth : Method} {c : Code} {D : va_G} {ad : mm_A} {cA : Nat → ClassId}   (rv : Int64) (σ1 : mm_M)  (X : mm_X p s m args meth c cL_digest 4 (some .long) RL D ad cA) : ∀ (fu : Nat), ∀ (v1 : Int64) (v3 : Int32) (σ : mm_M) (H : Heap) (locs : List Loc) (ls : Array Slot), fx_L_digest_L82  fu v1 v3 σ = some (rv, σ1) → va_P D vwCl (mm_wd ad cA σ) H → va_S (mm_AS ad) s.heap H locs → lv_has ls 4 [(0, .ref (ad 6 9 0)), (1, .long v1), (3, .int v3)] → W p l e (mm_rm 5 106) s m args below meth c H locs 0 0 (MQ below (mm_Q D ad cA (some (.long rv)) σ1) args s 0 0 (mm_AS ad)) (F0 m 82 ls []) := by
  have hx := X.1
  have hb := X.2.1
  have hI := X.2.2.2.2.2.2.2.2.2
  intro fu
  induction fu with
  | zero =>
    intro v1 v3 σ H locs ls hf
    exact mm_noL hf
  | succ fu ih =>
    intro v1 v3 σ H locs ls hf hP hS hl
    rw [fx_L_digest_L82] at hf
    refine lv_iload_n hx hb dL_digest_82 rfl (lv_at hl 2 rfl) ?_
    refine lv_aload_n hx hb dL_digest_83 rfl (lv_at hl 0 rfl) ?_
    refine lv_iconst (v := (0 : Int32)) hx hb dL_digest_84 (by decide) ?_
    obtain ⟨r_9, s_9, e_9, hf⟩ := mm_bdL_ok hf
    refine mm_callV X hP hS hl.1 [.int (0 : Int32)] [.int v3] (cx_X10_count l D ad cA hI (0 : Int32) σ r_9 s_9 e_9) kp_9 rfl rfl wd_305 wd_306 wd_307 wd_1 wd_308 hd_X10_count ⟨Nat.le_of_ble_eq_true rfl, Nat.le_of_ble_eq_true rfl⟩ rfl (Nat.le_of_ble_eq_true rfl) dL_digest_85 (fun H locs hP hS => ?_)
    refine lv_bipush (v := (9 : Int32)) hx hb dL_digest_88 (by decide) ?_
    refine lv_imul hx hb dL_digest_90 ?_
    refine lv_icmp_ge (tgt := 120) hx hb dL_digest_91 (by decide) (fun c_10 => ?_) (fun c_10 => ?_)
    · replace hf := mm_itL c_10 hf
      refine lv_iconst (v := (0 : Int32)) hx hb dL_digest_120 (by decide) ?_
      refine lv_istore_n (lv' := [(3, .int (0 : Int32)), (0, .ref (ad 6 9 0)), (1, .long v1)]) hx hb dL_digest_121 rfl hl (by decide) rfl (fun ls hl => ?_)
      exact cx_L_digest_L122 rv σ1 X mm_FU v1 (0 : Int32) s_9 H locs ls hf hP hS (lv_sub hl [1, 2, 0] rfl)
    · replace hf := mm_ifL c_10 hf
      refine lv_ldc2 (v := (31 : Int64)) hx hb X.2.2.2.2.2.1 (X.2.2.2.2.2.2.1 _ wd_356) dL_digest_94 ?_
      refine lv_lload_n hx hb dL_digest_97 rfl (lv_at hl 1 rfl) ?_
      refine lv_lmul hx hb dL_digest_98 ?_
      refine lv_aload_n hx hb dL_digest_99 rfl (lv_at hl 0 rfl) ?_
      refine lv_iload_n hx hb dL_digest_100 rfl (lv_at hl 2 rfl) ?_
      refine lv_bipush (v := (9 : Int32)) hx hb dL_digest_101 (by decide) ?_
      refine lv_idiv hx hb dL_digest_103 (by decide) ?_
      refine lv_iload_n hx hb dL_digest_104 rfl (lv_at hl 2 rfl) ?_
      refine lv_bipush (v := (9 : Int32)) hx hb dL_digest_105 (by decide) ?_
      refine lv_irem hx hb dL_digest_107 (by decide) ?_
      obtain ⟨r_11, s_11, e_11, hf⟩ := mm_bdL_ok hf
      refine mm_callV X hP hS hl.1 [.int (v3 / (9 : Int32)), .int (v3 - v3 / (9 : Int32) * (9 : Int32))] [.long ((31 : Int64) * v1)] (cx_X10_cartOf l D ad cA hI (v3 / (9 : Int32)) (v3 - v3 / (9 : Int32) * (9 : Int32)) s_9 r_11 s_11 e_11) kp_9 rfl rfl wd_389 wd_390 wd_391 wd_1 wd_392 hd_X10_cartOf ⟨Nat.le_of_ble_eq_true rfl, Nat.le_of_ble_eq_true rfl⟩ rfl (Nat.le_of_ble_eq_true rfl) dL_digest_108 (fun H locs hP hS => ?_)
      refine lv_i2l hx hb dL_digest_111 rfl ?_
      refine lv_ladd hx hb dL_digest_112 ?_
      refine lv_lstore_n (lv' := [(1, .long (((31 : Int64) * v1) + r_11.toInt64)), (0, .ref (ad 6 9 0)), (3, .int v3)]) hx hb dL_digest_113 rfl hl (by decide) rfl (fun ls hl => ?_)
      obtain ⟨y_12, e_12, hf⟩ := mm_liL_ok hf
      refine lv_iinc (v := y_12) (lv' := [(3, .int y_12), (1, .long (((31 : Int64) * v1) + r_11.toInt64)), (0, .ref (ad 6 9 0))]) hx hb dL_digest_114 hl (k := 2) rfl (by rw [e_12]; rfl) (by decide) rfl (fun ls hl => ?_)
      refine lv_goto (tgt := 82) hx hb dL_digest_117 (by decide) ?_
      exact ih (((31 : Int64) * v1) + r_11.toInt64) y_12 s_11 H locs ls  hf hP hS (lv_sub hl [2, 1, 0] rfl)
def fx_L_digest_L49   : Nat → Int64 → Int32 → mm_M → mm_RL
  | 0, _, _, _ => none
  | fu + 1, v1, v3, σ => if (256 : Int32) ≤ v3 then fx_L_digest_L82 mm_FU v1 (0 : Int32) σ else mm_bdL (fx_X10_cellOf (v3 / (4 : Int32)) (v3 - v3 / (4 : Int32) * (4 : Int32)) σ) fun r_6 s_6 => (mm_liL (v3 + (1 : Int32)) fun y_7 => (fx_L_digest_L49 fu (((31 : Int64) * v1) + r_6.toInt64) y_7 s_6))
set_option maxHeartbeats 4000000 in
set_option maxRecDepth 100000 in
theorem cx_L_digest_L49 {p : Program} {l : Launch} {e : Env} {s : State} {m : MethodId} {args : Array Value} {below : List Frame} {meth : Method} {c : Code} {D : va_G} {ad : mm_A} {cA : Nat → ClassId}   (rv : Int64) (σ1 : mm_M)  (X : mm_X p s m args meth c cL_digest 4 (some .long) RL D ad cA) : ∀ (fu : Nat), ∀ (v1 : Int64) (v3 : Int32) (σ : mm_M) (H : Heap) (locs : List Loc) (ls : Array Slot), fx_L_digest_L49  fu v1 v3 σ = some (rv, σ1) → va_P D vwCl (mm_wd ad cA σ) H → va_S (mm_AS ad) s.heap H locs → lv_has ls 4 [(0, .ref (ad 6 9 0)), (1, .long v1), (3, .int v3)] → W p l e (mm_rm 5 106) s m args below meth c H locs 0 0 (MQ below (mm_Q D ad cA (some (.long rv)) σ1) args s 0 0 (mm_AS ad)) (F0 m 49 ls []) := by
  have hx := X.1
  have hb := X.2.1
  have hI := X.2.2.2.2.2.2.2.2.2
  intro fu
  induction fu with
  | zero =>
    intro v1 v3 σ H locs ls hf
    exact mm_noL hf
  | succ fu ih =>
    intro v1 v3 σ H locs ls hf hP hS hl
    rw [fx_L_digest_L49] at hf
    refine lv_iload_n hx hb dL_digest_49 rfl (lv_at hl 2 rfl) ?_
    refine lv_sipush (v := (256 : Int32)) hx hb dL_digest_50 (by decide) ?_
    refine lv_icmp_ge (tgt := 80) hx hb dL_digest_53 (by decide) (fun c_5 => ?_) (fun c_5 => ?_)
    · replace hf := mm_itL c_5 hf
      refine lv_iconst (v := (0 : Int32)) hx hb dL_digest_80 (by decide) ?_
      refine lv_istore_n (lv' := [(3, .int (0 : Int32)), (0, .ref (ad 6 9 0)), (1, .long v1)]) hx hb dL_digest_81 rfl hl (by decide) rfl (fun ls hl => ?_)
      exact cx_L_digest_L82 rv σ1 X mm_FU v1 (0 : Int32) σ H locs ls hf hP hS (lv_sub hl [1, 2, 0] rfl)
    · replace hf := mm_ifL c_5 hf
      refine lv_ldc2 (v := (31 : Int64)) hx hb X.2.2.2.2.2.1 (X.2.2.2.2.2.2.1 _ wd_356) dL_digest_56 ?_
      refine lv_lload_n hx hb dL_digest_59 rfl (lv_at hl 1 rfl) ?_
      refine lv_lmul hx hb dL_digest_60 ?_
      refine lv_aload_n hx hb dL_digest_61 rfl (lv_at hl 0 rfl) ?_
      refine lv_iload_n hx hb dL_digest_62 rfl (lv_at hl 2 rfl) ?_
      refine lv_iconst (v := (4 : Int32)) hx hb dL_digest_63 (by decide) ?_
      refine lv_idiv hx hb dL_digest_64 (by decide) ?_
      refine lv_iload_n hx hb dL_digest_65 rfl (lv_at hl 2 rfl) ?_
      refine lv_iconst (v := (4 : Int32)) hx hb dL_digest_66 (by decide) ?_
      refine lv_irem hx hb dL_digest_67 (by decide) ?_
      obtain ⟨r_6, s_6, e_6, hf⟩ := mm_bdL_ok hf
      refine mm_callV X hP hS hl.1 [.int (v3 / (4 : Int32)), .int (v3 - v3 / (4 : Int32) * (4 : Int32))] [.long ((31 : Int64) * v1)] (cx_X10_cellOf l D ad cA hI (v3 / (4 : Int32)) (v3 - v3 / (4 : Int32) * (4 : Int32)) σ r_6 s_6 e_6) kp_9 rfl rfl wd_357 wd_358 wd_359 wd_1 wd_360 hd_X10_cellOf ⟨Nat.le_of_ble_eq_true rfl, Nat.le_of_ble_eq_true rfl⟩ rfl (Nat.le_of_ble_eq_true rfl) dL_digest_68 (fun H locs hP hS => ?_)
      refine lv_i2l hx hb dL_digest_71 rfl ?_
      refine lv_ladd hx hb dL_digest_72 ?_
      refine lv_lstore_n (lv' := [(1, .long (((31 : Int64) * v1) + r_6.toInt64)), (0, .ref (ad 6 9 0)), (3, .int v3)]) hx hb dL_digest_73 rfl hl (by decide) rfl (fun ls hl => ?_)
      obtain ⟨y_7, e_7, hf⟩ := mm_liL_ok hf
      refine lv_iinc (v := y_7) (lv' := [(3, .int y_7), (1, .long (((31 : Int64) * v1) + r_6.toInt64)), (0, .ref (ad 6 9 0))]) hx hb dL_digest_74 hl (k := 2) rfl (by rw [e_7]; rfl) (by decide) rfl (fun ls hl => ?_)
      refine lv_goto (tgt := 49) hx hb dL_digest_77 (by decide) ?_
      exact ih (((31 : Int64) * v1) + r_6.toInt64) y_7 s_6 H locs ls  hf hP hS (lv_sub hl [2, 1, 0] rfl)
def fx_L_digest_L6   : Nat → Int64 → Int32 → mm_M → mm_RL
  | 0, _, _, _ => none
  | fu + 1, v1, v3, σ => if (10 : Int32) ≤ v3 then fx_L_digest_L49 mm_FU v1 (0 : Int32) σ else if v3 = (7 : Int32) then fx_L_digest_J38 (fun z0 z1 z => fx_L_digest_L6 fu z0 z1 z) v3 ((31 : Int64) * v1) (0 : Int32) σ else if v3 = (8 : Int32) then fx_L_digest_J38 (fun z0 z1 z => fx_L_digest_L6 fu z0 z1 z) v3 ((31 : Int64) * v1) (0 : Int32) σ else mm_bdL (fx_X10_count v3 σ) fun r_4 s_4 => (fx_L_digest_J38 (fun z0 z1 z => fx_L_digest_L6 fu z0 z1 z) v3 ((31 : Int64) * v1) r_4 s_4)
set_option maxHeartbeats 4000000 in
set_option maxRecDepth 100000 in
theorem cx_L_digest_L6 {p : Program} {l : Launch} {e : Env} {s : State} {m : MethodId} {args : Array Value} {below : List Frame} {meth : Method} {c : Code} {D : va_G} {ad : mm_A} {cA : Nat → ClassId}   (rv : Int64) (σ1 : mm_M)  (X : mm_X p s m args meth c cL_digest 4 (some .long) RL D ad cA) : ∀ (fu : Nat), ∀ (v1 : Int64) (v3 : Int32) (σ : mm_M) (H : Heap) (locs : List Loc) (ls : Array Slot), fx_L_digest_L6  fu v1 v3 σ = some (rv, σ1) → va_P D vwCl (mm_wd ad cA σ) H → va_S (mm_AS ad) s.heap H locs → lv_has ls 4 [(0, .ref (ad 6 9 0)), (1, .long v1), (3, .int v3)] → W p l e (mm_rm 5 106) s m args below meth c H locs 0 0 (MQ below (mm_Q D ad cA (some (.long rv)) σ1) args s 0 0 (mm_AS ad)) (F0 m 6 ls []) := by
  have hx := X.1
  have hb := X.2.1
  have hI := X.2.2.2.2.2.2.2.2.2
  intro fu
  induction fu with
  | zero =>
    intro v1 v3 σ H locs ls hf
    exact mm_noL hf
  | succ fu ih =>
    intro v1 v3 σ H locs ls hf hP hS hl
    rw [fx_L_digest_L6] at hf
    refine lv_iload_n hx hb dL_digest_6 rfl (lv_at hl 2 rfl) ?_
    refine lv_bipush (v := (10 : Int32)) hx hb dL_digest_7 (by decide) ?_
    refine lv_icmp_ge (tgt := 47) hx hb dL_digest_9 (by decide) (fun c_1 => ?_) (fun c_1 => ?_)
    · replace hf := mm_itL c_1 hf
      refine lv_iconst (v := (0 : Int32)) hx hb dL_digest_47 (by decide) ?_
      refine lv_istore_n (lv' := [(3, .int (0 : Int32)), (0, .ref (ad 6 9 0)), (1, .long v1)]) hx hb dL_digest_48 rfl hl (by decide) rfl (fun ls hl => ?_)
      exact cx_L_digest_L49 rv σ1 X mm_FU v1 (0 : Int32) σ H locs ls hf hP hS (lv_sub hl [1, 2, 0] rfl)
    · replace hf := mm_ifL c_1 hf
      refine lv_ldc2 (v := (31 : Int64)) hx hb X.2.2.2.2.2.1 (X.2.2.2.2.2.2.1 _ wd_356) dL_digest_12 ?_
      refine lv_lload_n hx hb dL_digest_15 rfl (lv_at hl 1 rfl) ?_
      refine lv_lmul hx hb dL_digest_16 ?_
      refine lv_iload_n hx hb dL_digest_17 rfl (lv_at hl 2 rfl) ?_
      refine lv_bipush (v := (7 : Int32)) hx hb dL_digest_18 (by decide) ?_
      refine lv_icmp_eq (tgt := 29) hx hb dL_digest_20 (by decide) (fun c_2 => ?_) (fun c_2 => ?_)
      · replace hf := mm_itL c_2 hf
        refine lv_iconst (v := (0 : Int32)) hx hb dL_digest_29 (by decide) ?_
        refine lv_goto (tgt := 38) hx hb dL_digest_30 (by decide) ?_
        exact cx_L_digest_J38 rv σ1 (fun z0 z1 z => fx_L_digest_L6 fu z0 z1 z) ih X v3 ((31 : Int64) * v1) (0 : Int32) σ H locs ls hf hP hS (lv_sub hl [0, 2] rfl)
      · replace hf := mm_ifL c_2 hf
        refine lv_iload_n hx hb dL_digest_23 rfl (lv_at hl 2 rfl) ?_
        refine lv_bipush (v := (8 : Int32)) hx hb dL_digest_24 (by decide) ?_
        refine lv_icmp_ne (tgt := 33) hx hb dL_digest_26 (by decide) (fun c_3 => ?_) (fun c_3 => ?_)
        · replace hf := mm_ifL c_3 hf
          refine lv_aload_n hx hb dL_digest_33 rfl (lv_at hl 0 rfl) ?_
          refine lv_iload_n hx hb dL_digest_34 rfl (lv_at hl 2 rfl) ?_
          obtain ⟨r_4, s_4, e_4, hf⟩ := mm_bdL_ok hf
          refine mm_callV X hP hS hl.1 [.int v3] [.long ((31 : Int64) * v1)] (cx_X10_count l D ad cA hI v3 σ r_4 s_4 e_4) kp_9 rfl rfl wd_305 wd_306 wd_307 wd_1 wd_308 hd_X10_count ⟨Nat.le_of_ble_eq_true rfl, Nat.le_of_ble_eq_true rfl⟩ rfl (Nat.le_of_ble_eq_true rfl) dL_digest_35 (fun H locs hP hS => ?_)
          exact cx_L_digest_J38 rv σ1 (fun z0 z1 z => fx_L_digest_L6 fu z0 z1 z) ih X v3 ((31 : Int64) * v1) r_4 s_4 H locs ls hf hP hS (lv_sub hl [0, 2] rfl)
        · replace hf := mm_itL c_3 hf
          refine lv_iconst (v := (0 : Int32)) hx hb dL_digest_29 (by decide) ?_
          refine lv_goto (tgt := 38) hx hb dL_digest_30 (by decide) ?_
          exact cx_L_digest_J38 rv σ1 (fun z0 z1 z => fx_L_digest_L6 fu z0 z1 z) ih X v3 ((31 : Int64) * v1) (0 : Int32) σ H locs ls hf hP hS (lv_sub hl [0, 2] rfl)
def fx_L_digest  (σ : mm_M) : mm_RL := fx_L_digest_L6 mm_FU (101 : Int64) (0 : Int32) σ
set_option maxHeartbeats 4000000 in
set_option maxRecDepth 100000 in
theorem cx_L_digest (l : Launch) (D : va_G) (ad : mm_A) (cA : Nat → ClassId) (hI : mm_Inj ad)   (σ : mm_M) (rv : Int64) (σ1 : mm_M) (hf : fx_L_digest  σ = some (rv, σ1)) : Met l yL_digest (Cond.code yL_digest cL_digest 4 (some .long) :: tb) (mm_rm 5 106) (mm_pre D ad cA [.ref (ad 6 9 0)] σ) (mm_Q D ad cA (some (.long rv)) σ1) 0 0 (mm_AS ad) := by
  refine mm_start (by decide +kernel) hI (Nat.le_of_ble_eq_true rfl) ?_
  intro p e s m args below meth c X hP ls hl
  have hl : lv_has ls 4 [(0, .ref (ad 6 9 0))] := hl
  have hx := X.1
  have hb := X.2.1
  have hS : va_S (mm_AS ad) s.heap s.heap [] := va_S.rf
  have hgen : ∀ (H : Heap) (locs : List Loc), va_P D vwCl (mm_wd ad cA σ) H → va_S (mm_AS ad) s.heap H locs → W p l e (mm_rm 5 106) s m args below meth c H locs 0 0 (MQ below (mm_Q D ad cA (some (.long rv)) σ1) args s 0 0 (mm_AS ad)) (F0 m 0 ls []) := by
    intro H locs hP hS
    rw [fx_L_digest] at hf
    refine lv_ldc2 (v := (101 : Int64)) hx hb X.2.2.2.2.2.1 (X.2.2.2.2.2.2.1 _ wd_355) dL_digest_0 ?_
    refine lv_lstore_n (lv' := [(1, .long (101 : Int64)), (0, .ref (ad 6 9 0))]) hx hb dL_digest_3 rfl hl (by decide) rfl (fun ls hl => ?_)
    refine lv_iconst (v := (0 : Int32)) hx hb dL_digest_4 (by decide) ?_
    refine lv_istore_n (lv' := [(3, .int (0 : Int32)), (1, .long (101 : Int64)), (0, .ref (ad 6 9 0))]) hx hb dL_digest_5 rfl hl (by decide) rfl (fun ls hl => ?_)
    exact cx_L_digest_L6 rv σ1 X mm_FU (101 : Int64) (0 : Int32) σ H locs ls hf hP hS (lv_sub hl [2, 1, 0] rfl)
  exact hgen _ _ hP hS
def fx_L_holds_J33  (k6 : Int32 → Int32 → Int32 → mm_M → mm_R) (v1 : Int32) (v3 : Int32) (v4 : Int32) (w0 : Int32) (w1 : Int32) (σ : mm_M) : mm_R := mm_li (w0 + w1) fun y_27 => (if v4 = (-1000004 : Int32) then mm_li (v3 + (1 : Int32)) fun y_29 => (k6 v1 y_27 y_29 σ) else mm_bd (fx_X10_cartOf v4 (0 : Int32) σ) fun r_30 s_30 => (if r_30 = v3 then mm_bd (fx_X10_cellOf v3 (0 : Int32) s_30) fun r_32 s_32 => (if r_32 = (7 : Int32) then some ((0 : Int32), s_32) else mm_li (v3 + (1 : Int32)) fun y_34 => (k6 v1 y_27 y_34 s_32)) else some ((0 : Int32), s_30)))
set_option maxHeartbeats 4000000 in
set_option maxRecDepth 100000 in
theorem cx_L_holds_J33 {p : Program} {l : Launch} {e : Env} {s : State} {m : MethodId} {args : Array Value} {below : List Frame} {meth : Method} {c : Code} {D : va_G} {ad : mm_A} {cA : Nat → ClassId}   (rv : Int32) (σ1 : mm_M) (k6 : Int32 → Int32 → Int32 → mm_M → mm_R) (hk6 : ∀ (v1 : Int32) (v2 : Int32) (v3 : Int32) (σ : mm_M) (H : Heap) (locs : List Loc) (ls : Array Slot), k6 v1 v2 v3 σ = some (rv, σ1) → va_P D vwCl (mm_wd ad cA σ) H → va_S (mm_AS ad) s.heap H locs → lv_has ls 11 [(0, .ref (ad 6 9 0)), (1, .int v1), (2, .int v2), (3, .int v3)] → W p l e (mm_rm 5 106) s m args below meth c H locs 0 0 (MQ below (mm_Q D ad cA (some (.int rv)) σ1) args s 0 0 (mm_AS ad)) (F0 m 6 ls [])) (X : mm_X p s m args meth c cL_holds 11 (some .boolean) RL D ad cA) : ∀ (v1 : Int32) (v3 : Int32) (v4 : Int32) (w0 : Int32) (w1 : Int32) (σ : mm_M) (H : Heap) (locs : List Loc) (ls : Array Slot), fx_L_holds_J33 k6 v1 v3 v4 w0 w1 σ = some (rv, σ1) → va_P D vwCl (mm_wd ad cA σ) H → va_S (mm_AS ad) s.heap H locs → lv_has ls 11 [(0, .ref (ad 6 9 0)), (1, .int v1), (3, .int v3), (4, .int v4)] → W p l e (mm_rm 5 106) s m args below meth c H locs 0 0 (MQ below (mm_Q D ad cA (some (.int rv)) σ1) args s 0 0 (mm_AS ad)) (F0 m 33 ls [.int w1, .int w0]) := by
  have hx := X.1
  have hb := X.2.1
  have hI := X.2.2.2.2.2.2.2.2.2
  intro v1 v3 v4 w0 w1 σ H locs ls hf hP hS hl
  rw [fx_L_holds_J33] at hf
  refine lv_iadd hx hb dL_holds_33 ?_
  obtain ⟨y_27, e_27, hf⟩ := mm_li_ok hf
  rw [← e_27]
  refine lv_istore_n (lv' := [(2, .int y_27), (0, .ref (ad 6 9 0)), (1, .int v1), (3, .int v3), (4, .int v4)]) hx hb dL_holds_34 rfl hl (by decide) rfl (fun ls hl => ?_)
  refine lv_iload hx hb dL_holds_35 (lv_at hl 4 rfl) ?_
  refine lv_ldc (v := (-1000004 : Int32)) hx hb X.2.2.2.2.2.1 (X.2.2.2.2.2.2.1 _ wd_433) dL_holds_37 ?_
  refine lv_icmp_eq (tgt := 66) hx hb dL_holds_39 (by decide) (fun c_28 => ?_) (fun c_28 => ?_)
  · replace hf := mm_it c_28 hf
    obtain ⟨y_29, e_29, hf⟩ := mm_li_ok hf
    refine lv_iinc (v := y_29) (lv' := [(3, .int y_29), (2, .int y_27), (0, .ref (ad 6 9 0)), (1, .int v1), (4, .int v4)]) hx hb dL_holds_66 hl (k := 3) rfl (by rw [e_29]; rfl) (by decide) rfl (fun ls hl => ?_)
    refine lv_goto (tgt := 6) hx hb dL_holds_69 (by decide) ?_
    exact hk6 v1 y_27 y_29 σ H locs ls  hf hP hS (lv_sub hl [2, 3, 1, 0] rfl)
  · replace hf := mm_if c_28 hf
    refine lv_aload_n hx hb dL_holds_42 rfl (lv_at hl 1 rfl) ?_
    refine lv_iload hx hb dL_holds_43 (lv_at hl 4 rfl) ?_
    refine lv_iconst (v := (0 : Int32)) hx hb dL_holds_45 (by decide) ?_
    obtain ⟨r_30, s_30, e_30, hf⟩ := mm_bd_ok hf
    refine mm_callV X hP hS hl.1 [.int v4, .int (0 : Int32)] [] (cx_X10_cartOf l D ad cA hI v4 (0 : Int32) σ r_30 s_30 e_30) kp_9 rfl rfl wd_389 wd_390 wd_391 wd_1 wd_392 hd_X10_cartOf ⟨Nat.le_of_ble_eq_true rfl, Nat.le_of_ble_eq_true rfl⟩ rfl (Nat.le_of_ble_eq_true rfl) dL_holds_46 (fun H locs hP hS => ?_)
    refine lv_iload_n hx hb dL_holds_49 rfl (lv_at hl 3 rfl) ?_
    refine lv_icmp_ne (tgt := 64) hx hb dL_holds_50 (by decide) (fun c_31 => ?_) (fun c_31 => ?_)
    · replace hf := mm_if c_31 hf
      refine lv_iconst (v := (0 : Int32)) hx hb dL_holds_64 (by decide) ?_
      obtain ⟨rfl, rfl⟩ := mm_ret hf
      exact mm_zret (Or.inl rfl) X hP hS dL_holds_65
    · replace hf := mm_it c_31 hf
      refine lv_aload_n hx hb dL_holds_53 rfl (lv_at hl 1 rfl) ?_
      refine lv_iload_n hx hb dL_holds_54 rfl (lv_at hl 3 rfl) ?_
      refine lv_iconst (v := (0 : Int32)) hx hb dL_holds_55 (by decide) ?_
      obtain ⟨r_32, s_32, e_32, hf⟩ := mm_bd_ok hf
      refine mm_callV X hP hS hl.1 [.int v3, .int (0 : Int32)] [] (cx_X10_cellOf l D ad cA hI v3 (0 : Int32) s_30 r_32 s_32 e_32) kp_9 rfl rfl wd_357 wd_358 wd_359 wd_1 wd_360 hd_X10_cellOf ⟨Nat.le_of_ble_eq_true rfl, Nat.le_of_ble_eq_true rfl⟩ rfl (Nat.le_of_ble_eq_true rfl) dL_holds_56 (fun H locs hP hS => ?_)
      refine lv_bipush (v := (7 : Int32)) hx hb dL_holds_59 (by decide) ?_
      refine lv_icmp_ne (tgt := 66) hx hb dL_holds_61 (by decide) (fun c_33 => ?_) (fun c_33 => ?_)
      · replace hf := mm_if c_33 hf
        obtain ⟨y_34, e_34, hf⟩ := mm_li_ok hf
        refine lv_iinc (v := y_34) (lv' := [(3, .int y_34), (2, .int y_27), (0, .ref (ad 6 9 0)), (1, .int v1), (4, .int v4)]) hx hb dL_holds_66 hl (k := 3) rfl (by rw [e_34]; rfl) (by decide) rfl (fun ls hl => ?_)
        refine lv_goto (tgt := 6) hx hb dL_holds_69 (by decide) ?_
        exact hk6 v1 y_27 y_34 s_32 H locs ls  hf hP hS (lv_sub hl [2, 3, 1, 0] rfl)
      · replace hf := mm_it c_33 hf
        refine lv_iconst (v := (0 : Int32)) hx hb dL_holds_64 (by decide) ?_
        obtain ⟨rfl, rfl⟩ := mm_ret hf
        exact mm_zret (Or.inl rfl) X hP hS dL_holds_65
def fx_L_holds_J325  (k74 : Int32 → Int32 → Int32 → mm_M → mm_R) (k177 : Int32 → Int32 → Int32 → Int32 → Int32 → Int32 → mm_M → mm_R) (v1 : Int32) (v2 : Int32) (v3 : Int32) (v4 : Int32) (v6 : Int32) (w0 : Int32) (σ : mm_M) : mm_R := mm_li (v6 + (1 : Int32)) fun y_66 => (k177 v1 v2 v3 v4 w0 y_66 σ)
set_option maxHeartbeats 4000000 in
set_option maxRecDepth 100000 in
theorem cx_L_holds_J325 {p : Program} {l : Launch} {e : Env} {s : State} {m : MethodId} {args : Array Value} {below : List Frame} {meth : Method} {c : Code} {D : va_G} {ad : mm_A} {cA : Nat → ClassId}   (rv : Int32) (σ1 : mm_M) (k74 : Int32 → Int32 → Int32 → mm_M → mm_R) (hk74 : ∀ (v1 : Int32) (v2 : Int32) (v3 : Int32) (σ : mm_M) (H : Heap) (locs : List Loc) (ls : Array Slot), k74 v1 v2 v3 σ = some (rv, σ1) → va_P D vwCl (mm_wd ad cA σ) H → va_S (mm_AS ad) s.heap H locs → lv_has ls 11 [(0, .ref (ad 6 9 0)), (1, .int v1), (2, .int v2), (3, .int v3)] → W p l e (mm_rm 5 106) s m args below meth c H locs 0 0 (MQ below (mm_Q D ad cA (some (.int rv)) σ1) args s 0 0 (mm_AS ad)) (F0 m 74 ls [])) (k177 : Int32 → Int32 → Int32 → Int32 → Int32 → Int32 → mm_M → mm_R) (hk177 : ∀ (v1 : Int32) (v2 : Int32) (v3 : Int32) (v4 : Int32) (v5 : Int32) (v6 : Int32) (σ : mm_M) (H : Heap) (locs : List Loc) (ls : Array Slot), k177 v1 v2 v3 v4 v5 v6 σ = some (rv, σ1) → va_P D vwCl (mm_wd ad cA σ) H → va_S (mm_AS ad) s.heap H locs → lv_has ls 11 [(0, .ref (ad 6 9 0)), (1, .int v1), (2, .int v2), (3, .int v3), (4, .int v4), (5, .int v5), (6, .int v6)] → W p l e (mm_rm 5 106) s m args below meth c H locs 0 0 (MQ below (mm_Q D ad cA (some (.int rv)) σ1) args s 0 0 (mm_AS ad)) (F0 m 177 ls [])) (X : mm_X p s m args meth c cL_holds 11 (some .boolean) RL D ad cA) : ∀ (v1 : Int32) (v2 : Int32) (v3 : Int32) (v4 : Int32) (v6 : Int32) (w0 : Int32) (σ : mm_M) (H : Heap) (locs : List Loc) (ls : Array Slot), fx_L_holds_J325 k74 k177 v1 v2 v3 v4 v6 w0 σ = some (rv, σ1) → va_P D vwCl (mm_wd ad cA σ) H → va_S (mm_AS ad) s.heap H locs → lv_has ls 11 [(0, .ref (ad 6 9 0)), (1, .int v1), (2, .int v2), (3, .int v3), (4, .int v4), (6, .int v6)] → W p l e (mm_rm 5 106) s m args below meth c H locs 0 0 (MQ below (mm_Q D ad cA (some (.int rv)) σ1) args s 0 0 (mm_AS ad)) (F0 m 325 ls [.int w0]) := by
  have hx := X.1
  have hb := X.2.1
  have hI := X.2.2.2.2.2.2.2.2.2
  intro v1 v2 v3 v4 v6 w0 σ H locs ls hf hP hS hl
  rw [fx_L_holds_J325] at hf
  refine lv_istore (lv' := [(5, .int w0), (0, .ref (ad 6 9 0)), (1, .int v1), (2, .int v2), (3, .int v3), (4, .int v4), (6, .int v6)]) hx hb dL_holds_325 hl (by decide) rfl (fun ls hl => ?_)
  obtain ⟨y_66, e_66, hf⟩ := mm_li_ok hf
  refine lv_iinc (v := y_66) (lv' := [(6, .int y_66), (5, .int w0), (0, .ref (ad 6 9 0)), (1, .int v1), (2, .int v2), (3, .int v3), (4, .int v4)]) hx hb dL_holds_327 hl (k := 6) rfl (by rw [e_66]; rfl) (by decide) rfl (fun ls hl => ?_)
  refine lv_goto (tgt := 177) hx hb dL_holds_330 (by decide) ?_
  exact hk177 v1 v2 v3 v4 w0 y_66 σ H locs ls  hf hP hS (lv_sub hl [2, 3, 4, 5, 6, 1, 0] rfl)
def fx_L_holds_J324  (k74 : Int32 → Int32 → Int32 → mm_M → mm_R) (k177 : Int32 → Int32 → Int32 → Int32 → Int32 → Int32 → mm_M → mm_R) (v1 : Int32) (v2 : Int32) (v3 : Int32) (v4 : Int32) (v6 : Int32) (σ : mm_M) : mm_R := fx_L_holds_J325 k74 k177 v1 v2 v3 v4 v6 (0 : Int32) σ
set_option maxHeartbeats 4000000 in
set_option maxRecDepth 100000 in
theorem cx_L_holds_J324 {p : Program} {l : Launch} {e : Env} {s : State} {m : MethodId} {args : Array Value} {below : List Frame} {meth : Method} {c : Code} {D : va_G} {ad : mm_A} {cA : Nat → ClassId}   (rv : Int32) (σ1 : mm_M) (k74 : Int32 → Int32 → Int32 → mm_M → mm_R) (hk74 : ∀ (v1 : Int32) (v2 : Int32) (v3 : Int32) (σ : mm_M) (H : Heap) (locs : List Loc) (ls : Array Slot), k74 v1 v2 v3 σ = some (rv, σ1) → va_P D vwCl (mm_wd ad cA σ) H → va_S (mm_AS ad) s.heap H locs → lv_has ls 11 [(0, .ref (ad 6 9 0)), (1, .int v1), (2, .int v2), (3, .int v3)] → W p l e (mm_rm 5 106) s m args below meth c H locs 0 0 (MQ below (mm_Q D ad cA (some (.int rv)) σ1) args s 0 0 (mm_AS ad)) (F0 m 74 ls [])) (k177 : Int32 → Int32 → Int32 → Int32 → Int32 → Int32 → mm_M → mm_R) (hk177 : ∀ (v1 : Int32) (v2 : Int32) (v3 : Int32) (v4 : Int32) (v5 : Int32) (v6 : Int32) (σ : mm_M) (H : Heap) (locs : List Loc) (ls : Array Slot), k177 v1 v2 v3 v4 v5 v6 σ = some (rv, σ1) → va_P D vwCl (mm_wd ad cA σ) H → va_S (mm_AS ad) s.heap H locs → lv_has ls 11 [(0, .ref (ad 6 9 0)), (1, .int v1), (2, .int v2), (3, .int v3), (4, .int v4), (5, .int v5), (6, .int v6)] → W p l e (mm_rm 5 106) s m args below meth c H locs 0 0 (MQ below (mm_Q D ad cA (some (.int rv)) σ1) args s 0 0 (mm_AS ad)) (F0 m 177 ls [])) (X : mm_X p s m args meth c cL_holds 11 (some .boolean) RL D ad cA) : ∀ (v1 : Int32) (v2 : Int32) (v3 : Int32) (v4 : Int32) (v6 : Int32) (σ : mm_M) (H : Heap) (locs : List Loc) (ls : Array Slot), fx_L_holds_J324 k74 k177 v1 v2 v3 v4 v6 σ = some (rv, σ1) → va_P D vwCl (mm_wd ad cA σ) H → va_S (mm_AS ad) s.heap H locs → lv_has ls 11 [(0, .ref (ad 6 9 0)), (1, .int v1), (2, .int v2), (3, .int v3), (4, .int v4), (6, .int v6)] → W p l e (mm_rm 5 106) s m args below meth c H locs 0 0 (MQ below (mm_Q D ad cA (some (.int rv)) σ1) args s 0 0 (mm_AS ad)) (F0 m 324 ls []) := by
  have hx := X.1
  have hb := X.2.1
  have hI := X.2.2.2.2.2.2.2.2.2
  intro v1 v2 v3 v4 v6 σ H locs ls hf hP hS hl
  rw [fx_L_holds_J324] at hf
  refine lv_iconst (v := (0 : Int32)) hx hb dL_holds_324 (by decide) ?_
  exact cx_L_holds_J325 rv σ1 k74 hk74 k177 hk177 X v1 v2 v3 v4 v6 (0 : Int32) σ H locs ls hf hP hS (lv_sub hl [0, 1, 2, 3, 4, 5] rfl)
def fx_L_holds_J270  (k74 : Int32 → Int32 → Int32 → mm_M → mm_R) (k177 : Int32 → Int32 → Int32 → Int32 → Int32 → Int32 → mm_M → mm_R) (v1 : Int32) (v2 : Int32) (v3 : Int32) (v4 : Int32) (v6 : Int32) (v7 : Int32) (v8 : Int32) (v9 : Int32) (w0 : Int32) (w1 : Int32) (σ : mm_M) : mm_R := if w0 = w1 then if v9 = (0 : Int32) then if v7 = (-1000004 : Int32) then if v8 = (-1000004 : Int32) then fx_L_holds_J325 k74 k177 v1 v2 v3 v4 v6 (1 : Int32) σ else fx_L_holds_J324 k74 k177 v1 v2 v3 v4 v6 σ else fx_L_holds_J324 k74 k177 v1 v2 v3 v4 v6 σ else if v7 < (0 : Int32) then fx_L_holds_J324 k74 k177 v1 v2 v3 v4 v6 σ else if (7 : Int32) ≤ v7 then fx_L_holds_J324 k74 k177 v1 v2 v3 v4 v6 σ else if v8 ≤ (0 : Int32) then fx_L_holds_J324 k74 k177 v1 v2 v3 v4 v6 σ else if (1000 : Int32) ≤ v8 then fx_L_holds_J324 k74 k177 v1 v2 v3 v4 v6 σ else fx_L_holds_J325 k74 k177 v1 v2 v3 v4 v6 (1 : Int32) σ else fx_L_holds_J324 k74 k177 v1 v2 v3 v4 v6 σ
set_option maxHeartbeats 4000000 in
set_option maxRecDepth 100000 in
theorem cx_L_holds_J270 {p : Program} {l : Launch} {e : Env} {s : State} {m : MethodId} {args : Array Value} {below : List Frame} {meth : Method} {c : Code} {D : va_G} {ad : mm_A} {cA : Nat → ClassId}   (rv : Int32) (σ1 : mm_M) (k74 : Int32 → Int32 → Int32 → mm_M → mm_R) (hk74 : ∀ (v1 : Int32) (v2 : Int32) (v3 : Int32) (σ : mm_M) (H : Heap) (locs : List Loc) (ls : Array Slot), k74 v1 v2 v3 σ = some (rv, σ1) → va_P D vwCl (mm_wd ad cA σ) H → va_S (mm_AS ad) s.heap H locs → lv_has ls 11 [(0, .ref (ad 6 9 0)), (1, .int v1), (2, .int v2), (3, .int v3)] → W p l e (mm_rm 5 106) s m args below meth c H locs 0 0 (MQ below (mm_Q D ad cA (some (.int rv)) σ1) args s 0 0 (mm_AS ad)) (F0 m 74 ls [])) (k177 : Int32 → Int32 → Int32 → Int32 → Int32 → Int32 → mm_M → mm_R) (hk177 : ∀ (v1 : Int32) (v2 : Int32) (v3 : Int32) (v4 : Int32) (v5 : Int32) (v6 : Int32) (σ : mm_M) (H : Heap) (locs : List Loc) (ls : Array Slot), k177 v1 v2 v3 v4 v5 v6 σ = some (rv, σ1) → va_P D vwCl (mm_wd ad cA σ) H → va_S (mm_AS ad) s.heap H locs → lv_has ls 11 [(0, .ref (ad 6 9 0)), (1, .int v1), (2, .int v2), (3, .int v3), (4, .int v4), (5, .int v5), (6, .int v6)] → W p l e (mm_rm 5 106) s m args below meth c H locs 0 0 (MQ below (mm_Q D ad cA (some (.int rv)) σ1) args s 0 0 (mm_AS ad)) (F0 m 177 ls [])) (X : mm_X p s m args meth c cL_holds 11 (some .boolean) RL D ad cA) : ∀ (v1 : Int32) (v2 : Int32) (v3 : Int32) (v4 : Int32) (v6 : Int32) (v7 : Int32) (v8 : Int32) (v9 : Int32) (w0 : Int32) (w1 : Int32) (σ : mm_M) (H : Heap) (locs : List Loc) (ls : Array Slot), fx_L_holds_J270 k74 k177 v1 v2 v3 v4 v6 v7 v8 v9 w0 w1 σ = some (rv, σ1) → va_P D vwCl (mm_wd ad cA σ) H → va_S (mm_AS ad) s.heap H locs → lv_has ls 11 [(0, .ref (ad 6 9 0)), (1, .int v1), (2, .int v2), (3, .int v3), (4, .int v4), (6, .int v6), (7, .int v7), (8, .int v8), (9, .int v9)] → W p l e (mm_rm 5 106) s m args below meth c H locs 0 0 (MQ below (mm_Q D ad cA (some (.int rv)) σ1) args s 0 0 (mm_AS ad)) (F0 m 270 ls [.int w1, .int w0]) := by
  have hx := X.1
  have hb := X.2.1
  have hI := X.2.2.2.2.2.2.2.2.2
  intro v1 v2 v3 v4 v6 v7 v8 v9 w0 w1 σ H locs ls hf hP hS hl
  rw [fx_L_holds_J270] at hf
  refine lv_icmp_ne (tgt := 324) hx hb dL_holds_270 (by decide) (fun c_58 => ?_) (fun c_58 => ?_)
  · replace hf := mm_if c_58 hf
    exact cx_L_holds_J324 rv σ1 k74 hk74 k177 hk177 X v1 v2 v3 v4 v6 σ H locs ls hf hP hS (lv_sub hl [0, 1, 2, 3, 4, 5] rfl)
  · replace hf := mm_it c_58 hf
    refine lv_iload hx hb dL_holds_273 (lv_at hl 8 rfl) ?_
    refine lv_if_eq (tgt := 306) hx hb dL_holds_275 (by decide) (fun c_59 => ?_) (fun c_59 => ?_)
    · replace hf := mm_it c_59 hf
      refine lv_iload hx hb dL_holds_306 (lv_at hl 6 rfl) ?_
      refine lv_ldc (v := (-1000004 : Int32)) hx hb X.2.2.2.2.2.1 (X.2.2.2.2.2.2.1 _ wd_433) dL_holds_308 ?_
      refine lv_icmp_ne (tgt := 324) hx hb dL_holds_310 (by decide) (fun c_60 => ?_) (fun c_60 => ?_)
      · replace hf := mm_if c_60 hf
        exact cx_L_holds_J324 rv σ1 k74 hk74 k177 hk177 X v1 v2 v3 v4 v6 σ H locs ls hf hP hS (lv_sub hl [0, 1, 2, 3, 4, 5] rfl)
      · replace hf := mm_it c_60 hf
        refine lv_iload hx hb dL_holds_313 (lv_at hl 7 rfl) ?_
        refine lv_ldc (v := (-1000004 : Int32)) hx hb X.2.2.2.2.2.1 (X.2.2.2.2.2.2.1 _ wd_433) dL_holds_315 ?_
        refine lv_icmp_ne (tgt := 324) hx hb dL_holds_317 (by decide) (fun c_61 => ?_) (fun c_61 => ?_)
        · replace hf := mm_if c_61 hf
          exact cx_L_holds_J324 rv σ1 k74 hk74 k177 hk177 X v1 v2 v3 v4 v6 σ H locs ls hf hP hS (lv_sub hl [0, 1, 2, 3, 4, 5] rfl)
        · replace hf := mm_it c_61 hf
          refine lv_iconst (v := (1 : Int32)) hx hb dL_holds_320 (by decide) ?_
          refine lv_goto (tgt := 325) hx hb dL_holds_321 (by decide) ?_
          exact cx_L_holds_J325 rv σ1 k74 hk74 k177 hk177 X v1 v2 v3 v4 v6 (1 : Int32) σ H locs ls hf hP hS (lv_sub hl [0, 1, 2, 3, 4, 5] rfl)
    · replace hf := mm_if c_59 hf
      refine lv_iload hx hb dL_holds_278 (lv_at hl 6 rfl) ?_
      refine lv_if_lt (tgt := 324) hx hb dL_holds_280 (by decide) (fun c_62 => ?_) (fun c_62 => ?_)
      · replace hf := mm_it c_62 hf
        exact cx_L_holds_J324 rv σ1 k74 hk74 k177 hk177 X v1 v2 v3 v4 v6 σ H locs ls hf hP hS (lv_sub hl [0, 1, 2, 3, 4, 5] rfl)
      · replace hf := mm_if c_62 hf
        refine lv_iload hx hb dL_holds_283 (lv_at hl 6 rfl) ?_
        refine lv_bipush (v := (7 : Int32)) hx hb dL_holds_285 (by decide) ?_
        refine lv_icmp_ge (tgt := 324) hx hb dL_holds_287 (by decide) (fun c_63 => ?_) (fun c_63 => ?_)
        · replace hf := mm_it c_63 hf
          exact cx_L_holds_J324 rv σ1 k74 hk74 k177 hk177 X v1 v2 v3 v4 v6 σ H locs ls hf hP hS (lv_sub hl [0, 1, 2, 3, 4, 5] rfl)
        · replace hf := mm_if c_63 hf
          refine lv_iload hx hb dL_holds_290 (lv_at hl 7 rfl) ?_
          refine lv_if_le (tgt := 324) hx hb dL_holds_292 (by decide) (fun c_64 => ?_) (fun c_64 => ?_)
          · replace hf := mm_it c_64 hf
            exact cx_L_holds_J324 rv σ1 k74 hk74 k177 hk177 X v1 v2 v3 v4 v6 σ H locs ls hf hP hS (lv_sub hl [0, 1, 2, 3, 4, 5] rfl)
          · replace hf := mm_if c_64 hf
            refine lv_iload hx hb dL_holds_295 (lv_at hl 7 rfl) ?_
            refine lv_sipush (v := (1000 : Int32)) hx hb dL_holds_297 (by decide) ?_
            refine lv_icmp_ge (tgt := 324) hx hb dL_holds_300 (by decide) (fun c_65 => ?_) (fun c_65 => ?_)
            · replace hf := mm_it c_65 hf
              exact cx_L_holds_J324 rv σ1 k74 hk74 k177 hk177 X v1 v2 v3 v4 v6 σ H locs ls hf hP hS (lv_sub hl [0, 1, 2, 3, 4, 5] rfl)
            · replace hf := mm_if c_65 hf
              refine lv_goto (tgt := 320) hx hb dL_holds_303 (by decide) ?_
              refine lv_iconst (v := (1 : Int32)) hx hb dL_holds_320 (by decide) ?_
              refine lv_goto (tgt := 325) hx hb dL_holds_321 (by decide) ?_
              exact cx_L_holds_J325 rv σ1 k74 hk74 k177 hk177 X v1 v2 v3 v4 v6 (1 : Int32) σ H locs ls hf hP hS (lv_sub hl [0, 1, 2, 3, 4, 5] rfl)
def fx_L_holds_J246  (k74 : Int32 → Int32 → Int32 → mm_M → mm_R) (k177 : Int32 → Int32 → Int32 → Int32 → Int32 → Int32 → mm_M → mm_R) (v1 : Int32) (v2 : Int32) (v3 : Int32) (v4 : Int32) (v5 : Int32) (v6 : Int32) (v7 : Int32) (v8 : Int32) (v9 : Int32) (w0 : Int32) (σ : mm_M) : mm_R := if v5 = (0 : Int32) then fx_L_holds_J324 k74 k177 v1 v2 v3 v4 v6 σ else if (v6 + v4) ≤ (8 : Int32) then fx_L_holds_J270 k74 k177 v1 v2 v3 v4 v6 v7 v8 v9 w0 (0 : Int32) σ else fx_L_holds_J270 k74 k177 v1 v2 v3 v4 v6 v7 v8 v9 w0 (1 : Int32) σ
set_option maxHeartbeats 4000000 in
set_option maxRecDepth 100000 in
theorem cx_L_holds_J246 {p : Program} {l : Launch} {e : Env} {s : State} {m : MethodId} {args : Array Value} {below : List Frame} {meth : Method} {c : Code} {D : va_G} {ad : mm_A} {cA : Nat → ClassId}   (rv : Int32) (σ1 : mm_M) (k74 : Int32 → Int32 → Int32 → mm_M → mm_R) (hk74 : ∀ (v1 : Int32) (v2 : Int32) (v3 : Int32) (σ : mm_M) (H : Heap) (locs : List Loc) (ls : Array Slot), k74 v1 v2 v3 σ = some (rv, σ1) → va_P D vwCl (mm_wd ad cA σ) H → va_S (mm_AS ad) s.heap H locs → lv_has ls 11 [(0, .ref (ad 6 9 0)), (1, .int v1), (2, .int v2), (3, .int v3)] → W p l e (mm_rm 5 106) s m args below meth c H locs 0 0 (MQ below (mm_Q D ad cA (some (.int rv)) σ1) args s 0 0 (mm_AS ad)) (F0 m 74 ls [])) (k177 : Int32 → Int32 → Int32 → Int32 → Int32 → Int32 → mm_M → mm_R) (hk177 : ∀ (v1 : Int32) (v2 : Int32) (v3 : Int32) (v4 : Int32) (v5 : Int32) (v6 : Int32) (σ : mm_M) (H : Heap) (locs : List Loc) (ls : Array Slot), k177 v1 v2 v3 v4 v5 v6 σ = some (rv, σ1) → va_P D vwCl (mm_wd ad cA σ) H → va_S (mm_AS ad) s.heap H locs → lv_has ls 11 [(0, .ref (ad 6 9 0)), (1, .int v1), (2, .int v2), (3, .int v3), (4, .int v4), (5, .int v5), (6, .int v6)] → W p l e (mm_rm 5 106) s m args below meth c H locs 0 0 (MQ below (mm_Q D ad cA (some (.int rv)) σ1) args s 0 0 (mm_AS ad)) (F0 m 177 ls [])) (X : mm_X p s m args meth c cL_holds 11 (some .boolean) RL D ad cA) : ∀ (v1 : Int32) (v2 : Int32) (v3 : Int32) (v4 : Int32) (v5 : Int32) (v6 : Int32) (v7 : Int32) (v8 : Int32) (v9 : Int32) (w0 : Int32) (σ : mm_M) (H : Heap) (locs : List Loc) (ls : Array Slot), fx_L_holds_J246 k74 k177 v1 v2 v3 v4 v5 v6 v7 v8 v9 w0 σ = some (rv, σ1) → va_P D vwCl (mm_wd ad cA σ) H → va_S (mm_AS ad) s.heap H locs → lv_has ls 11 [(0, .ref (ad 6 9 0)), (1, .int v1), (2, .int v2), (3, .int v3), (4, .int v4), (5, .int v5), (6, .int v6), (7, .int v7), (8, .int v8), (9, .int v9)] → W p l e (mm_rm 5 106) s m args below meth c H locs 0 0 (MQ below (mm_Q D ad cA (some (.int rv)) σ1) args s 0 0 (mm_AS ad)) (F0 m 246 ls [.int w0]) := by
  have hx := X.1
  have hb := X.2.1
  have hI := X.2.2.2.2.2.2.2.2.2
  intro v1 v2 v3 v4 v5 v6 v7 v8 v9 w0 σ H locs ls hf hP hS hl
  rw [fx_L_holds_J246] at hf
  refine lv_istore (lv' := [(10, .int w0), (0, .ref (ad 6 9 0)), (1, .int v1), (2, .int v2), (3, .int v3), (4, .int v4), (5, .int v5), (6, .int v6), (7, .int v7), (8, .int v8), (9, .int v9)]) hx hb dL_holds_246 hl (by decide) rfl (fun ls hl => ?_)
  refine lv_iload hx hb dL_holds_248 (lv_at hl 6 rfl) ?_
  refine lv_if_eq (tgt := 324) hx hb dL_holds_250 (by decide) (fun c_56 => ?_) (fun c_56 => ?_)
  · replace hf := mm_it c_56 hf
    exact cx_L_holds_J324 rv σ1 k74 hk74 k177 hk177 X v1 v2 v3 v4 v6 σ H locs ls hf hP hS (lv_sub hl [1, 2, 3, 4, 5, 7] rfl)
  · replace hf := mm_if c_56 hf
    refine lv_iload hx hb dL_holds_253 (lv_at hl 0 rfl) ?_
    refine lv_iload hx hb dL_holds_255 (lv_at hl 7 rfl) ?_
    refine lv_iload hx hb dL_holds_257 (lv_at hl 5 rfl) ?_
    refine lv_iadd hx hb dL_holds_259 ?_
    refine lv_bipush (v := (8 : Int32)) hx hb dL_holds_260 (by decide) ?_
    refine lv_icmp_le (tgt := 269) hx hb dL_holds_262 (by decide) (fun c_57 => ?_) (fun c_57 => ?_)
    · replace hf := mm_it c_57 hf
      refine lv_iconst (v := (0 : Int32)) hx hb dL_holds_269 (by decide) ?_
      exact cx_L_holds_J270 rv σ1 k74 hk74 k177 hk177 X v1 v2 v3 v4 v6 v7 v8 v9 w0 (0 : Int32) σ H locs ls hf hP hS (lv_sub hl [1, 2, 3, 4, 5, 7, 8, 9, 10] rfl)
    · replace hf := mm_if c_57 hf
      refine lv_iconst (v := (1 : Int32)) hx hb dL_holds_265 (by decide) ?_
      refine lv_goto (tgt := 270) hx hb dL_holds_266 (by decide) ?_
      exact cx_L_holds_J270 rv σ1 k74 hk74 k177 hk177 X v1 v2 v3 v4 v6 v7 v8 v9 w0 (1 : Int32) σ H locs ls hf hP hS (lv_sub hl [1, 2, 3, 4, 5, 7, 8, 9, 10] rfl)
def fx_L_holds_J224  (k74 : Int32 → Int32 → Int32 → mm_M → mm_R) (k177 : Int32 → Int32 → Int32 → Int32 → Int32 → Int32 → mm_M → mm_R) (v1 : Int32) (v2 : Int32) (v3 : Int32) (v4 : Int32) (v5 : Int32) (v6 : Int32) (v7 : Int32) (v8 : Int32) (w0 : Int32) (σ : mm_M) : mm_R := mm_bd (fx_X10_cartOf v3 (5 : Int32) σ) fun r_54 s_54 => (if ((r_54 >>> (v6 &&& 31)) &&& (1 : Int32)) = (1 : Int32) then fx_L_holds_J246 k74 k177 v1 v2 v3 v4 v5 v6 v7 v8 w0 (1 : Int32) s_54 else fx_L_holds_J246 k74 k177 v1 v2 v3 v4 v5 v6 v7 v8 w0 (0 : Int32) s_54)
set_option maxHeartbeats 4000000 in
set_option maxRecDepth 100000 in
theorem cx_L_holds_J224 {p : Program} {l : Launch} {e : Env} {s : State} {m : MethodId} {args : Array Value} {below : List Frame} {meth : Method} {c : Code} {D : va_G} {ad : mm_A} {cA : Nat → ClassId}   (rv : Int32) (σ1 : mm_M) (k74 : Int32 → Int32 → Int32 → mm_M → mm_R) (hk74 : ∀ (v1 : Int32) (v2 : Int32) (v3 : Int32) (σ : mm_M) (H : Heap) (locs : List Loc) (ls : Array Slot), k74 v1 v2 v3 σ = some (rv, σ1) → va_P D vwCl (mm_wd ad cA σ) H → va_S (mm_AS ad) s.heap H locs → lv_has ls 11 [(0, .ref (ad 6 9 0)), (1, .int v1), (2, .int v2), (3, .int v3)] → W p l e (mm_rm 5 106) s m args below meth c H locs 0 0 (MQ below (mm_Q D ad cA (some (.int rv)) σ1) args s 0 0 (mm_AS ad)) (F0 m 74 ls [])) (k177 : Int32 → Int32 → Int32 → Int32 → Int32 → Int32 → mm_M → mm_R) (hk177 : ∀ (v1 : Int32) (v2 : Int32) (v3 : Int32) (v4 : Int32) (v5 : Int32) (v6 : Int32) (σ : mm_M) (H : Heap) (locs : List Loc) (ls : Array Slot), k177 v1 v2 v3 v4 v5 v6 σ = some (rv, σ1) → va_P D vwCl (mm_wd ad cA σ) H → va_S (mm_AS ad) s.heap H locs → lv_has ls 11 [(0, .ref (ad 6 9 0)), (1, .int v1), (2, .int v2), (3, .int v3), (4, .int v4), (5, .int v5), (6, .int v6)] → W p l e (mm_rm 5 106) s m args below meth c H locs 0 0 (MQ below (mm_Q D ad cA (some (.int rv)) σ1) args s 0 0 (mm_AS ad)) (F0 m 177 ls [])) (X : mm_X p s m args meth c cL_holds 11 (some .boolean) RL D ad cA) : ∀ (v1 : Int32) (v2 : Int32) (v3 : Int32) (v4 : Int32) (v5 : Int32) (v6 : Int32) (v7 : Int32) (v8 : Int32) (w0 : Int32) (σ : mm_M) (H : Heap) (locs : List Loc) (ls : Array Slot), fx_L_holds_J224 k74 k177 v1 v2 v3 v4 v5 v6 v7 v8 w0 σ = some (rv, σ1) → va_P D vwCl (mm_wd ad cA σ) H → va_S (mm_AS ad) s.heap H locs → lv_has ls 11 [(0, .ref (ad 6 9 0)), (1, .int v1), (2, .int v2), (3, .int v3), (4, .int v4), (5, .int v5), (6, .int v6), (7, .int v7), (8, .int v8)] → W p l e (mm_rm 5 106) s m args below meth c H locs 0 0 (MQ below (mm_Q D ad cA (some (.int rv)) σ1) args s 0 0 (mm_AS ad)) (F0 m 224 ls [.int w0]) := by
  have hx := X.1
  have hb := X.2.1
  have hI := X.2.2.2.2.2.2.2.2.2
  intro v1 v2 v3 v4 v5 v6 v7 v8 w0 σ H locs ls hf hP hS hl
  rw [fx_L_holds_J224] at hf
  refine lv_istore (lv' := [(9, .int w0), (0, .ref (ad 6 9 0)), (1, .int v1), (2, .int v2), (3, .int v3), (4, .int v4), (5, .int v5), (6, .int v6), (7, .int v7), (8, .int v8)]) hx hb dL_holds_224 hl (by decide) rfl (fun ls hl => ?_)
  refine lv_aload_n hx hb dL_holds_226 rfl (lv_at hl 1 rfl) ?_
  refine lv_iload_n hx hb dL_holds_227 rfl (lv_at hl 4 rfl) ?_
  refine lv_iconst (v := (5 : Int32)) hx hb dL_holds_228 (by decide) ?_
  obtain ⟨r_54, s_54, e_54, hf⟩ := mm_bd_ok hf
  refine mm_callV X hP hS hl.1 [.int v3, .int (5 : Int32)] [] (cx_X10_cartOf l D ad cA hI v3 (5 : Int32) σ r_54 s_54 e_54) kp_9 rfl rfl wd_389 wd_390 wd_391 wd_1 wd_392 hd_X10_cartOf ⟨Nat.le_of_ble_eq_true rfl, Nat.le_of_ble_eq_true rfl⟩ rfl (Nat.le_of_ble_eq_true rfl) dL_holds_229 (fun H locs hP hS => ?_)
  refine lv_iload hx hb dL_holds_232 (lv_at hl 7 rfl) ?_
  refine lv_ishr hx hb dL_holds_234 ?_
  refine lv_iconst (v := (1 : Int32)) hx hb dL_holds_235 (by decide) ?_
  refine lv_iand hx hb dL_holds_236 ?_
  refine lv_iconst (v := (1 : Int32)) hx hb dL_holds_237 (by decide) ?_
  refine lv_icmp_ne (tgt := 245) hx hb dL_holds_238 (by decide) (fun c_55 => ?_) (fun c_55 => ?_)
  · replace hf := mm_if c_55 hf
    refine lv_iconst (v := (0 : Int32)) hx hb dL_holds_245 (by decide) ?_
    exact cx_L_holds_J246 rv σ1 k74 hk74 k177 hk177 X v1 v2 v3 v4 v5 v6 v7 v8 w0 (0 : Int32) s_54 H locs ls hf hP hS (lv_sub hl [1, 2, 3, 4, 5, 6, 7, 8, 9, 0] rfl)
  · replace hf := mm_it c_55 hf
    refine lv_iconst (v := (1 : Int32)) hx hb dL_holds_241 (by decide) ?_
    refine lv_goto (tgt := 246) hx hb dL_holds_242 (by decide) ?_
    exact cx_L_holds_J246 rv σ1 k74 hk74 k177 hk177 X v1 v2 v3 v4 v5 v6 v7 v8 w0 (1 : Int32) s_54 H locs ls hf hP hS (lv_sub hl [1, 2, 3, 4, 5, 6, 7, 8, 9, 0] rfl)
def fx_L_holds_L177  (k74 : Int32 → Int32 → Int32 → mm_M → mm_R) : Nat → Int32 → Int32 → Int32 → Int32 → Int32 → Int32 → mm_M → mm_R
  | 0, _, _, _, _, _, _, _ => none
  | fu + 1, v1, v2, v3, v4, v5, v6, σ => if (5 : Int32) ≤ v6 then if v5 = (0 : Int32) then some ((0 : Int32), σ) else mm_li (v3 + (1 : Int32)) fun y_49 => (k74 v1 v2 y_49 σ) else mm_bd (fx_X10_cardOf v3 v6 (0 : Int32) σ) fun r_50 s_50 => (mm_bd (fx_X10_cardOf v3 v6 (1 : Int32) s_50) fun r_51 s_51 => (mm_bd (fx_X10_cartOf v3 (6 : Int32) s_51) fun r_52 s_52 => (if ((r_52 >>> (v6 &&& 31)) &&& (1 : Int32)) = (1 : Int32) then fx_L_holds_J224 k74 (fun z0 z1 z2 z3 z4 z5 z => fx_L_holds_L177 k74 fu z0 z1 z2 z3 z4 z5 z) v1 v2 v3 v4 v5 v6 r_50 r_51 (1 : Int32) s_52 else fx_L_holds_J224 k74 (fun z0 z1 z2 z3 z4 z5 z => fx_L_holds_L177 k74 fu z0 z1 z2 z3 z4 z5 z) v1 v2 v3 v4 v5 v6 r_50 r_51 (0 : Int32) s_52)))
set_option maxHeartbeats 4000000 in
set_option maxRecDepth 100000 in
theorem cx_L_holds_L177 {p : Program} {l : Launch} {e : Env} {s : State} {m : MethodId} {args : Array Value} {below : List Frame} {meth : Method} {c : Code} {D : va_G} {ad : mm_A} {cA : Nat → ClassId}   (rv : Int32) (σ1 : mm_M) (k74 : Int32 → Int32 → Int32 → mm_M → mm_R) (hk74 : ∀ (v1 : Int32) (v2 : Int32) (v3 : Int32) (σ : mm_M) (H : Heap) (locs : List Loc) (ls : Array Slot), k74 v1 v2 v3 σ = some (rv, σ1) → va_P D vwCl (mm_wd ad cA σ) H → va_S (mm_AS ad) s.heap H locs → lv_has ls 11 [(0, .ref (ad 6 9 0)), (1, .int v1), (2, .int v2), (3, .int v3)] → W p l e (mm_rm 5 106) s m args below meth c H locs 0 0 (MQ below (mm_Q D ad cA (some (.int rv)) σ1) args s 0 0 (mm_AS ad)) (F0 m 74 ls [])) (X : mm_X p s m args meth c cL_holds 11 (some .boolean) RL D ad cA) : ∀ (fu : Nat), ∀ (v1 : Int32) (v2 : Int32) (v3 : Int32) (v4 : Int32) (v5 : Int32) (v6 : Int32) (σ : mm_M) (H : Heap) (locs : List Loc) (ls : Array Slot), fx_L_holds_L177 k74 fu v1 v2 v3 v4 v5 v6 σ = some (rv, σ1) → va_P D vwCl (mm_wd ad cA σ) H → va_S (mm_AS ad) s.heap H locs → lv_has ls 11 [(0, .ref (ad 6 9 0)), (1, .int v1), (2, .int v2), (3, .int v3), (4, .int v4), (5, .int v5), (6, .int v6)] → W p l e (mm_rm 5 106) s m args below meth c H locs 0 0 (MQ below (mm_Q D ad cA (some (.int rv)) σ1) args s 0 0 (mm_AS ad)) (F0 m 177 ls []) := by
  have hx := X.1
  have hb := X.2.1
  have hI := X.2.2.2.2.2.2.2.2.2
  intro fu
  induction fu with
  | zero =>
    intro v1 v2 v3 v4 v5 v6 σ H locs ls hf
    exact mm_no hf
  | succ fu ih =>
    intro v1 v2 v3 v4 v5 v6 σ H locs ls hf hP hS hl
    rw [fx_L_holds_L177] at hf
    refine lv_iload hx hb dL_holds_177 (lv_at hl 6 rfl) ?_
    refine lv_iconst (v := (5 : Int32)) hx hb dL_holds_179 (by decide) ?_
    refine lv_icmp_ge (tgt := 333) hx hb dL_holds_180 (by decide) (fun c_47 => ?_) (fun c_47 => ?_)
    · replace hf := mm_it c_47 hf
      refine lv_iload hx hb dL_holds_333 (lv_at hl 5 rfl) ?_
      refine lv_if_ne (tgt := 340) hx hb dL_holds_335 (by decide) (fun c_48 => ?_) (fun c_48 => ?_)
      · replace hf := mm_if c_48 hf
        obtain ⟨y_49, e_49, hf⟩ := mm_li_ok hf
        refine lv_iinc (v := y_49) (lv' := [(3, .int y_49), (0, .ref (ad 6 9 0)), (1, .int v1), (2, .int v2), (4, .int v4), (5, .int v5), (6, .int v6)]) hx hb dL_holds_340 hl (k := 3) rfl (by rw [e_49]; rfl) (by decide) rfl (fun ls hl => ?_)
        refine lv_goto (tgt := 74) hx hb dL_holds_343 (by decide) ?_
        exact hk74 v1 v2 y_49 σ H locs ls  hf hP hS (lv_sub hl [1, 2, 3, 0] rfl)
      · replace hf := mm_it c_48 hf
        refine lv_iconst (v := (0 : Int32)) hx hb dL_holds_338 (by decide) ?_
        obtain ⟨rfl, rfl⟩ := mm_ret hf
        exact mm_zret (Or.inl rfl) X hP hS dL_holds_339
    · replace hf := mm_if c_47 hf
      refine lv_aload_n hx hb dL_holds_183 rfl (lv_at hl 0 rfl) ?_
      refine lv_iload_n hx hb dL_holds_184 rfl (lv_at hl 3 rfl) ?_
      refine lv_iload hx hb dL_holds_185 (lv_at hl 6 rfl) ?_
      refine lv_iconst (v := (0 : Int32)) hx hb dL_holds_187 (by decide) ?_
      obtain ⟨r_50, s_50, e_50, hf⟩ := mm_bd_ok hf
      refine mm_callV X hP hS hl.1 [.int v3, .int v6, .int (0 : Int32)] [] (cx_X10_cardOf l D ad cA hI v3 v6 (0 : Int32) σ r_50 s_50 e_50) kp_9 rfl rfl wd_419 wd_420 wd_421 wd_1 wd_422 hd_X10_cardOf ⟨Nat.le_of_ble_eq_true rfl, Nat.le_of_ble_eq_true rfl⟩ rfl (Nat.le_of_ble_eq_true rfl) dL_holds_188 (fun H locs hP hS => ?_)
      refine lv_istore (lv' := [(7, .int r_50), (0, .ref (ad 6 9 0)), (1, .int v1), (2, .int v2), (3, .int v3), (4, .int v4), (5, .int v5), (6, .int v6)]) hx hb dL_holds_191 hl (by decide) rfl (fun ls hl => ?_)
      refine lv_aload_n hx hb dL_holds_193 rfl (lv_at hl 1 rfl) ?_
      refine lv_iload_n hx hb dL_holds_194 rfl (lv_at hl 4 rfl) ?_
      refine lv_iload hx hb dL_holds_195 (lv_at hl 7 rfl) ?_
      refine lv_iconst (v := (1 : Int32)) hx hb dL_holds_197 (by decide) ?_
      obtain ⟨r_51, s_51, e_51, hf⟩ := mm_bd_ok hf
      refine mm_callV X hP hS hl.1 [.int v3, .int v6, .int (1 : Int32)] [] (cx_X10_cardOf l D ad cA hI v3 v6 (1 : Int32) s_50 r_51 s_51 e_51) kp_9 rfl rfl wd_419 wd_420 wd_421 wd_1 wd_422 hd_X10_cardOf ⟨Nat.le_of_ble_eq_true rfl, Nat.le_of_ble_eq_true rfl⟩ rfl (Nat.le_of_ble_eq_true rfl) dL_holds_198 (fun H locs hP hS => ?_)
      refine lv_istore (lv' := [(8, .int r_51), (7, .int r_50), (0, .ref (ad 6 9 0)), (1, .int v1), (2, .int v2), (3, .int v3), (4, .int v4), (5, .int v5), (6, .int v6)]) hx hb dL_holds_201 hl (by decide) rfl (fun ls hl => ?_)
      refine lv_aload_n hx hb dL_holds_203 rfl (lv_at hl 2 rfl) ?_
      refine lv_iload_n hx hb dL_holds_204 rfl (lv_at hl 5 rfl) ?_
      refine lv_bipush (v := (6 : Int32)) hx hb dL_holds_205 (by decide) ?_
      obtain ⟨r_52, s_52, e_52, hf⟩ := mm_bd_ok hf
      refine mm_callV X hP hS hl.1 [.int v3, .int (6 : Int32)] [] (cx_X10_cartOf l D ad cA hI v3 (6 : Int32) s_51 r_52 s_52 e_52) kp_9 rfl rfl wd_389 wd_390 wd_391 wd_1 wd_392 hd_X10_cartOf ⟨Nat.le_of_ble_eq_true rfl, Nat.le_of_ble_eq_true rfl⟩ rfl (Nat.le_of_ble_eq_true rfl) dL_holds_207 (fun H locs hP hS => ?_)
      refine lv_iload hx hb dL_holds_210 (lv_at hl 8 rfl) ?_
      refine lv_ishr hx hb dL_holds_212 ?_
      refine lv_iconst (v := (1 : Int32)) hx hb dL_holds_213 (by decide) ?_
      refine lv_iand hx hb dL_holds_214 ?_
      refine lv_iconst (v := (1 : Int32)) hx hb dL_holds_215 (by decide) ?_
      refine lv_icmp_ne (tgt := 223) hx hb dL_holds_216 (by decide) (fun c_53 => ?_) (fun c_53 => ?_)
      · replace hf := mm_if c_53 hf
        refine lv_iconst (v := (0 : Int32)) hx hb dL_holds_223 (by decide) ?_
        exact cx_L_holds_J224 rv σ1 k74 hk74 (fun z0 z1 z2 z3 z4 z5 z => fx_L_holds_L177 k74 fu z0 z1 z2 z3 z4 z5 z) ih X v1 v2 v3 v4 v5 v6 r_50 r_51 (0 : Int32) s_52 H locs ls hf hP hS (lv_sub hl [2, 3, 4, 5, 6, 7, 8, 1, 0] rfl)
      · replace hf := mm_it c_53 hf
        refine lv_iconst (v := (1 : Int32)) hx hb dL_holds_219 (by decide) ?_
        refine lv_goto (tgt := 224) hx hb dL_holds_220 (by decide) ?_
        exact cx_L_holds_J224 rv σ1 k74 hk74 (fun z0 z1 z2 z3 z4 z5 z => fx_L_holds_L177 k74 fu z0 z1 z2 z3 z4 z5 z) ih X v1 v2 v3 v4 v5 v6 r_50 r_51 (1 : Int32) s_52 H locs ls hf hP hS (lv_sub hl [2, 3, 4, 5, 6, 7, 8, 1, 0] rfl)
def fx_L_holds_J172  (k74 : Int32 → Int32 → Int32 → mm_M → mm_R) (v1 : Int32) (v2 : Int32) (v3 : Int32) (v4 : Int32) (w0 : Int32) (σ : mm_M) : mm_R := fx_L_holds_L177 k74 mm_FU v1 v2 v3 v4 w0 (0 : Int32) σ
set_option maxHeartbeats 4000000 in
set_option maxRecDepth 100000 in
theorem cx_L_holds_J172 {p : Program} {l : Launch} {e : Env} {s : State} {m : MethodId} {args : Array Value} {below : List Frame} {meth : Method} {c : Code} {D : va_G} {ad : mm_A} {cA : Nat → ClassId}   (rv : Int32) (σ1 : mm_M) (k74 : Int32 → Int32 → Int32 → mm_M → mm_R) (hk74 : ∀ (v1 : Int32) (v2 : Int32) (v3 : Int32) (σ : mm_M) (H : Heap) (locs : List Loc) (ls : Array Slot), k74 v1 v2 v3 σ = some (rv, σ1) → va_P D vwCl (mm_wd ad cA σ) H → va_S (mm_AS ad) s.heap H locs → lv_has ls 11 [(0, .ref (ad 6 9 0)), (1, .int v1), (2, .int v2), (3, .int v3)] → W p l e (mm_rm 5 106) s m args below meth c H locs 0 0 (MQ below (mm_Q D ad cA (some (.int rv)) σ1) args s 0 0 (mm_AS ad)) (F0 m 74 ls [])) (X : mm_X p s m args meth c cL_holds 11 (some .boolean) RL D ad cA) : ∀ (v1 : Int32) (v2 : Int32) (v3 : Int32) (v4 : Int32) (w0 : Int32) (σ : mm_M) (H : Heap) (locs : List Loc) (ls : Array Slot), fx_L_holds_J172 k74 v1 v2 v3 v4 w0 σ = some (rv, σ1) → va_P D vwCl (mm_wd ad cA σ) H → va_S (mm_AS ad) s.heap H locs → lv_has ls 11 [(0, .ref (ad 6 9 0)), (1, .int v1), (2, .int v2), (3, .int v3), (4, .int v4)] → W p l e (mm_rm 5 106) s m args below meth c H locs 0 0 (MQ below (mm_Q D ad cA (some (.int rv)) σ1) args s 0 0 (mm_AS ad)) (F0 m 172 ls [.int w0]) := by
  have hx := X.1
  have hb := X.2.1
  have hI := X.2.2.2.2.2.2.2.2.2
  intro v1 v2 v3 v4 w0 σ H locs ls hf hP hS hl
  rw [fx_L_holds_J172] at hf
  refine lv_istore (lv' := [(5, .int w0), (0, .ref (ad 6 9 0)), (1, .int v1), (2, .int v2), (3, .int v3), (4, .int v4)]) hx hb dL_holds_172 hl (by decide) rfl (fun ls hl => ?_)
  refine lv_iconst (v := (0 : Int32)) hx hb dL_holds_174 (by decide) ?_
  refine lv_istore (lv' := [(6, .int (0 : Int32)), (5, .int w0), (0, .ref (ad 6 9 0)), (1, .int v1), (2, .int v2), (3, .int v3), (4, .int v4)]) hx hb dL_holds_175 hl (by decide) rfl (fun ls hl => ?_)
  exact cx_L_holds_L177 rv σ1 k74 hk74 X mm_FU v1 v2 v3 v4 w0 (0 : Int32) σ H locs ls hf hP hS (lv_sub hl [2, 3, 4, 5, 6, 1, 0] rfl)
def fx_L_holds_J171  (k74 : Int32 → Int32 → Int32 → mm_M → mm_R) (v1 : Int32) (v2 : Int32) (v3 : Int32) (v4 : Int32) (σ : mm_M) : mm_R := fx_L_holds_J172 k74 v1 v2 v3 v4 (0 : Int32) σ
set_option maxHeartbeats 4000000 in
set_option maxRecDepth 100000 in
theorem cx_L_holds_J171 {p : Program} {l : Launch} {e : Env} {s : State} {m : MethodId} {args : Array Value} {below : List Frame} {meth : Method} {c : Code} {D : va_G} {ad : mm_A} {cA : Nat → ClassId}   (rv : Int32) (σ1 : mm_M) (k74 : Int32 → Int32 → Int32 → mm_M → mm_R) (hk74 : ∀ (v1 : Int32) (v2 : Int32) (v3 : Int32) (σ : mm_M) (H : Heap) (locs : List Loc) (ls : Array Slot), k74 v1 v2 v3 σ = some (rv, σ1) → va_P D vwCl (mm_wd ad cA σ) H → va_S (mm_AS ad) s.heap H locs → lv_has ls 11 [(0, .ref (ad 6 9 0)), (1, .int v1), (2, .int v2), (3, .int v3)] → W p l e (mm_rm 5 106) s m args below meth c H locs 0 0 (MQ below (mm_Q D ad cA (some (.int rv)) σ1) args s 0 0 (mm_AS ad)) (F0 m 74 ls [])) (X : mm_X p s m args meth c cL_holds 11 (some .boolean) RL D ad cA) : ∀ (v1 : Int32) (v2 : Int32) (v3 : Int32) (v4 : Int32) (σ : mm_M) (H : Heap) (locs : List Loc) (ls : Array Slot), fx_L_holds_J171 k74 v1 v2 v3 v4 σ = some (rv, σ1) → va_P D vwCl (mm_wd ad cA σ) H → va_S (mm_AS ad) s.heap H locs → lv_has ls 11 [(0, .ref (ad 6 9 0)), (1, .int v1), (2, .int v2), (3, .int v3), (4, .int v4)] → W p l e (mm_rm 5 106) s m args below meth c H locs 0 0 (MQ below (mm_Q D ad cA (some (.int rv)) σ1) args s 0 0 (mm_AS ad)) (F0 m 171 ls []) := by
  have hx := X.1
  have hb := X.2.1
  have hI := X.2.2.2.2.2.2.2.2.2
  intro v1 v2 v3 v4 σ H locs ls hf hP hS hl
  rw [fx_L_holds_J171] at hf
  refine lv_iconst (v := (0 : Int32)) hx hb dL_holds_171 (by decide) ?_
  exact cx_L_holds_J172 rv σ1 k74 hk74 X v1 v2 v3 v4 (0 : Int32) σ H locs ls hf hP hS (lv_sub hl [0, 1, 2, 3, 4] rfl)
def fx_L_holds_J108  (k74 : Int32 → Int32 → Int32 → mm_M → mm_R) (v2 : Int32) (v3 : Int32) (v4 : Int32) (w0 : Int32) (w1 : Int32) (σ : mm_M) : mm_R := mm_li (w0 + w1) fun y_35 => (if v4 < (0 : Int32) then fx_L_holds_J171 k74 y_35 v2 v3 v4 σ else if (10 : Int32) ≤ v4 then fx_L_holds_J171 k74 y_35 v2 v3 v4 σ else mm_bd (fx_X10_cartOf v3 (3 : Int32) σ) fun r_38 s_38 => (if r_38 < (0 : Int32) then fx_L_holds_J171 k74 y_35 v2 v3 v4 s_38 else mm_bd (fx_X10_cartOf v3 (3 : Int32) s_38) fun r_40 s_40 => (mm_bd (fx_X10_count (3 : Int32) s_40) fun r_41 s_41 => (if r_41 < r_40 then fx_L_holds_J171 k74 y_35 v2 v3 v4 s_41 else mm_bd (fx_X10_cartOf v3 (6 : Int32) s_41) fun r_43 s_43 => (if r_43 < (0 : Int32) then fx_L_holds_J171 k74 y_35 v2 v3 v4 s_43 else mm_bd (fx_X10_cartOf v3 (6 : Int32) s_43) fun r_45 s_45 => (if (32 : Int32) ≤ r_45 then fx_L_holds_J171 k74 y_35 v2 v3 v4 s_45 else fx_L_holds_J172 k74 y_35 v2 v3 v4 (1 : Int32) s_45))))))
set_option maxHeartbeats 4000000 in
set_option maxRecDepth 100000 in
theorem cx_L_holds_J108 {p : Program} {l : Launch} {e : Env} {s : State} {m : MethodId} {args : Array Value} {below : List Frame} {meth : Method} {c : Code} {D : va_G} {ad : mm_A} {cA : Nat → ClassId}   (rv : Int32) (σ1 : mm_M) (k74 : Int32 → Int32 → Int32 → mm_M → mm_R) (hk74 : ∀ (v1 : Int32) (v2 : Int32) (v3 : Int32) (σ : mm_M) (H : Heap) (locs : List Loc) (ls : Array Slot), k74 v1 v2 v3 σ = some (rv, σ1) → va_P D vwCl (mm_wd ad cA σ) H → va_S (mm_AS ad) s.heap H locs → lv_has ls 11 [(0, .ref (ad 6 9 0)), (1, .int v1), (2, .int v2), (3, .int v3)] → W p l e (mm_rm 5 106) s m args below meth c H locs 0 0 (MQ below (mm_Q D ad cA (some (.int rv)) σ1) args s 0 0 (mm_AS ad)) (F0 m 74 ls [])) (X : mm_X p s m args meth c cL_holds 11 (some .boolean) RL D ad cA) : ∀ (v2 : Int32) (v3 : Int32) (v4 : Int32) (w0 : Int32) (w1 : Int32) (σ : mm_M) (H : Heap) (locs : List Loc) (ls : Array Slot), fx_L_holds_J108 k74 v2 v3 v4 w0 w1 σ = some (rv, σ1) → va_P D vwCl (mm_wd ad cA σ) H → va_S (mm_AS ad) s.heap H locs → lv_has ls 11 [(0, .ref (ad 6 9 0)), (2, .int v2), (3, .int v3), (4, .int v4)] → W p l e (mm_rm 5 106) s m args below meth c H locs 0 0 (MQ below (mm_Q D ad cA (some (.int rv)) σ1) args s 0 0 (mm_AS ad)) (F0 m 108 ls [.int w1, .int w0]) := by
  have hx := X.1
  have hb := X.2.1
  have hI := X.2.2.2.2.2.2.2.2.2
  intro v2 v3 v4 w0 w1 σ H locs ls hf hP hS hl
  rw [fx_L_holds_J108] at hf
  refine lv_iadd hx hb dL_holds_108 ?_
  obtain ⟨y_35, e_35, hf⟩ := mm_li_ok hf
  rw [← e_35]
  refine lv_istore_n (lv' := [(1, .int y_35), (0, .ref (ad 6 9 0)), (2, .int v2), (3, .int v3), (4, .int v4)]) hx hb dL_holds_109 rfl hl (by decide) rfl (fun ls hl => ?_)
  refine lv_iload hx hb dL_holds_110 (lv_at hl 4 rfl) ?_
  refine lv_if_lt (tgt := 171) hx hb dL_holds_112 (by decide) (fun c_36 => ?_) (fun c_36 => ?_)
  · replace hf := mm_it c_36 hf
    exact cx_L_holds_J171 rv σ1 k74 hk74 X y_35 v2 v3 v4 σ H locs ls hf hP hS (lv_sub hl [1, 0, 2, 3, 4] rfl)
  · replace hf := mm_if c_36 hf
    refine lv_iload hx hb dL_holds_115 (lv_at hl 4 rfl) ?_
    refine lv_bipush (v := (10 : Int32)) hx hb dL_holds_117 (by decide) ?_
    refine lv_icmp_ge (tgt := 171) hx hb dL_holds_119 (by decide) (fun c_37 => ?_) (fun c_37 => ?_)
    · replace hf := mm_it c_37 hf
      exact cx_L_holds_J171 rv σ1 k74 hk74 X y_35 v2 v3 v4 σ H locs ls hf hP hS (lv_sub hl [1, 0, 2, 3, 4] rfl)
    · replace hf := mm_if c_37 hf
      refine lv_aload_n hx hb dL_holds_122 rfl (lv_at hl 1 rfl) ?_
      refine lv_iload_n hx hb dL_holds_123 rfl (lv_at hl 3 rfl) ?_
      refine lv_iconst (v := (3 : Int32)) hx hb dL_holds_124 (by decide) ?_
      obtain ⟨r_38, s_38, e_38, hf⟩ := mm_bd_ok hf
      refine mm_callV X hP hS hl.1 [.int v3, .int (3 : Int32)] [] (cx_X10_cartOf l D ad cA hI v3 (3 : Int32) σ r_38 s_38 e_38) kp_9 rfl rfl wd_389 wd_390 wd_391 wd_1 wd_392 hd_X10_cartOf ⟨Nat.le_of_ble_eq_true rfl, Nat.le_of_ble_eq_true rfl⟩ rfl (Nat.le_of_ble_eq_true rfl) dL_holds_125 (fun H locs hP hS => ?_)
      refine lv_if_lt (tgt := 171) hx hb dL_holds_128 (by decide) (fun c_39 => ?_) (fun c_39 => ?_)
      · replace hf := mm_it c_39 hf
        exact cx_L_holds_J171 rv σ1 k74 hk74 X y_35 v2 v3 v4 s_38 H locs ls hf hP hS (lv_sub hl [1, 0, 2, 3, 4] rfl)
      · replace hf := mm_if c_39 hf
        refine lv_aload_n hx hb dL_holds_131 rfl (lv_at hl 1 rfl) ?_
        refine lv_iload_n hx hb dL_holds_132 rfl (lv_at hl 3 rfl) ?_
        refine lv_iconst (v := (3 : Int32)) hx hb dL_holds_133 (by decide) ?_
        obtain ⟨r_40, s_40, e_40, hf⟩ := mm_bd_ok hf
        refine mm_callV X hP hS hl.1 [.int v3, .int (3 : Int32)] [] (cx_X10_cartOf l D ad cA hI v3 (3 : Int32) s_38 r_40 s_40 e_40) kp_9 rfl rfl wd_389 wd_390 wd_391 wd_1 wd_392 hd_X10_cartOf ⟨Nat.le_of_ble_eq_true rfl, Nat.le_of_ble_eq_true rfl⟩ rfl (Nat.le_of_ble_eq_true rfl) dL_holds_134 (fun H locs hP hS => ?_)
        refine lv_aload_n hx hb dL_holds_137 rfl (lv_at hl 1 rfl) ?_
        refine lv_iconst (v := (3 : Int32)) hx hb dL_holds_138 (by decide) ?_
        obtain ⟨r_41, s_41, e_41, hf⟩ := mm_bd_ok hf
        refine mm_callV X hP hS hl.1 [.int (3 : Int32)] [.int r_40] (cx_X10_count l D ad cA hI (3 : Int32) s_40 r_41 s_41 e_41) kp_9 rfl rfl wd_305 wd_306 wd_307 wd_1 wd_308 hd_X10_count ⟨Nat.le_of_ble_eq_true rfl, Nat.le_of_ble_eq_true rfl⟩ rfl (Nat.le_of_ble_eq_true rfl) dL_holds_139 (fun H locs hP hS => ?_)
        refine lv_icmp_gt (tgt := 171) hx hb dL_holds_142 (by decide) (fun c_42 => ?_) (fun c_42 => ?_)
        · replace hf := mm_it c_42 hf
          exact cx_L_holds_J171 rv σ1 k74 hk74 X y_35 v2 v3 v4 s_41 H locs ls hf hP hS (lv_sub hl [1, 0, 2, 3, 4] rfl)
        · replace hf := mm_if c_42 hf
          refine lv_aload_n hx hb dL_holds_145 rfl (lv_at hl 1 rfl) ?_
          refine lv_iload_n hx hb dL_holds_146 rfl (lv_at hl 3 rfl) ?_
          refine lv_bipush (v := (6 : Int32)) hx hb dL_holds_147 (by decide) ?_
          obtain ⟨r_43, s_43, e_43, hf⟩ := mm_bd_ok hf
          refine mm_callV X hP hS hl.1 [.int v3, .int (6 : Int32)] [] (cx_X10_cartOf l D ad cA hI v3 (6 : Int32) s_41 r_43 s_43 e_43) kp_9 rfl rfl wd_389 wd_390 wd_391 wd_1 wd_392 hd_X10_cartOf ⟨Nat.le_of_ble_eq_true rfl, Nat.le_of_ble_eq_true rfl⟩ rfl (Nat.le_of_ble_eq_true rfl) dL_holds_149 (fun H locs hP hS => ?_)
          refine lv_if_lt (tgt := 171) hx hb dL_holds_152 (by decide) (fun c_44 => ?_) (fun c_44 => ?_)
          · replace hf := mm_it c_44 hf
            exact cx_L_holds_J171 rv σ1 k74 hk74 X y_35 v2 v3 v4 s_43 H locs ls hf hP hS (lv_sub hl [1, 0, 2, 3, 4] rfl)
          · replace hf := mm_if c_44 hf
            refine lv_aload_n hx hb dL_holds_155 rfl (lv_at hl 1 rfl) ?_
            refine lv_iload_n hx hb dL_holds_156 rfl (lv_at hl 3 rfl) ?_
            refine lv_bipush (v := (6 : Int32)) hx hb dL_holds_157 (by decide) ?_
            obtain ⟨r_45, s_45, e_45, hf⟩ := mm_bd_ok hf
            refine mm_callV X hP hS hl.1 [.int v3, .int (6 : Int32)] [] (cx_X10_cartOf l D ad cA hI v3 (6 : Int32) s_43 r_45 s_45 e_45) kp_9 rfl rfl wd_389 wd_390 wd_391 wd_1 wd_392 hd_X10_cartOf ⟨Nat.le_of_ble_eq_true rfl, Nat.le_of_ble_eq_true rfl⟩ rfl (Nat.le_of_ble_eq_true rfl) dL_holds_159 (fun H locs hP hS => ?_)
            refine lv_bipush (v := (32 : Int32)) hx hb dL_holds_162 (by decide) ?_
            refine lv_icmp_ge (tgt := 171) hx hb dL_holds_164 (by decide) (fun c_46 => ?_) (fun c_46 => ?_)
            · replace hf := mm_it c_46 hf
              exact cx_L_holds_J171 rv σ1 k74 hk74 X y_35 v2 v3 v4 s_45 H locs ls hf hP hS (lv_sub hl [1, 0, 2, 3, 4] rfl)
            · replace hf := mm_if c_46 hf
              refine lv_iconst (v := (1 : Int32)) hx hb dL_holds_167 (by decide) ?_
              refine lv_goto (tgt := 172) hx hb dL_holds_168 (by decide) ?_
              exact cx_L_holds_J172 rv σ1 k74 hk74 X y_35 v2 v3 v4 (1 : Int32) s_45 H locs ls hf hP hS (lv_sub hl [1, 0, 2, 3, 4] rfl)
def fx_L_holds_L74   : Nat → Int32 → Int32 → Int32 → mm_M → mm_R
  | 0, _, _, _, _ => none
  | fu + 1, v1, v2, v3, σ => mm_bd (fx_X10_count (0 : Int32) σ) fun r_4 s_4 => (if r_4 ≤ v3 then mm_bd (fx_X10_count (5 : Int32) s_4) fun r_6 s_6 => (mm_bd (fx_X10_count (4 : Int32) s_6) fun r_7 s_7 => (if v1 = r_7 then mm_bd (fx_X10_count (0 : Int32) s_7) fun r_9 s_9 => (if (v2 + v1) = r_9 then mm_bd (fx_X10_count (6 : Int32) s_9) fun r_11 s_11 => (mm_bd (fx_X10_count (2 : Int32) s_11) fun r_12 s_12 => (if r_11 < ((5 : Int32) * r_12) then some ((0 : Int32), s_12) else mm_bd (fx_X10_count (6 : Int32) s_12) fun r_14 s_14 => (mm_bd (fx_X10_count (2 : Int32) s_14) fun r_15 s_15 => (mm_bd (fx_X10_count (1 : Int32) s_15) fun r_16 s_16 => (if r_14 = (((5 : Int32) * r_15) + r_16) then if r_6 = (-1000004 : Int32) then some ((1 : Int32), s_16) else if r_6 < (0 : Int32) then some ((0 : Int32), s_16) else mm_bd (fx_X10_count (0 : Int32) s_16) fun r_20 s_20 => (if r_20 ≤ r_6 then some ((0 : Int32), s_20) else mm_bd (fx_X10_cartOf r_6 (3 : Int32) s_20) fun r_22 s_22 => (if r_22 ≤ (0 : Int32) then some ((0 : Int32), s_22) else some ((1 : Int32), s_22))) else some ((0 : Int32), s_16)))))) else some ((0 : Int32), s_9)) else some ((0 : Int32), s_7))) else mm_bd (fx_X10_cartOf v3 (2 : Int32) s_4) fun r_24 s_24 => (mm_bd (fx_X10_cartOf v3 (0 : Int32) s_24) fun r_25 s_25 => (if r_25 = (-1000004 : Int32) then fx_L_holds_J108 (fun z0 z1 z2 z => fx_L_holds_L74 fu z0 z1 z2 z) v2 v3 r_24 v1 (1 : Int32) s_25 else fx_L_holds_J108 (fun z0 z1 z2 z => fx_L_holds_L74 fu z0 z1 z2 z) v2 v3 r_24 v1 (0 : Int32) s_25)))
set_option maxHeartbeats 4000000 in
set_option maxRecDepth 100000 in
theorem cx_L_holds_L74 {p : Program} {l : Launch} {e : Env} {s : State} {m : MethodId} {args : Array Value} {below : List Frame} {meth : Method} {c : Code} {D : va_G} {ad : mm_A} {cA : Nat → ClassId}   (rv : Int32) (σ1 : mm_M)  (X : mm_X p s m args meth c cL_holds 11 (some .boolean) RL D ad cA) : ∀ (fu : Nat), ∀ (v1 : Int32) (v2 : Int32) (v3 : Int32) (σ : mm_M) (H : Heap) (locs : List Loc) (ls : Array Slot), fx_L_holds_L74  fu v1 v2 v3 σ = some (rv, σ1) → va_P D vwCl (mm_wd ad cA σ) H → va_S (mm_AS ad) s.heap H locs → lv_has ls 11 [(0, .ref (ad 6 9 0)), (1, .int v1), (2, .int v2), (3, .int v3)] → W p l e (mm_rm 5 106) s m args below meth c H locs 0 0 (MQ below (mm_Q D ad cA (some (.int rv)) σ1) args s 0 0 (mm_AS ad)) (F0 m 74 ls []) := by
  have hx := X.1
  have hb := X.2.1
  have hI := X.2.2.2.2.2.2.2.2.2
  intro fu
  induction fu with
  | zero =>
    intro v1 v2 v3 σ H locs ls hf
    exact mm_no hf
  | succ fu ih =>
    intro v1 v2 v3 σ H locs ls hf hP hS hl
    rw [fx_L_holds_L74] at hf
    refine lv_iload_n hx hb dL_holds_74 rfl (lv_at hl 3 rfl) ?_
    refine lv_aload_n hx hb dL_holds_75 rfl (lv_at hl 0 rfl) ?_
    refine lv_iconst (v := (0 : Int32)) hx hb dL_holds_76 (by decide) ?_
    obtain ⟨r_4, s_4, e_4, hf⟩ := mm_bd_ok hf
    refine mm_callV X hP hS hl.1 [.int (0 : Int32)] [.int v3] (cx_X10_count l D ad cA hI (0 : Int32) σ r_4 s_4 e_4) kp_9 rfl rfl wd_305 wd_306 wd_307 wd_1 wd_308 hd_X10_count ⟨Nat.le_of_ble_eq_true rfl, Nat.le_of_ble_eq_true rfl⟩ rfl (Nat.le_of_ble_eq_true rfl) dL_holds_77 (fun H locs hP hS => ?_)
    refine lv_icmp_ge (tgt := 346) hx hb dL_holds_80 (by decide) (fun c_5 => ?_) (fun c_5 => ?_)
    · replace hf := mm_it c_5 hf
      refine lv_aload_n hx hb dL_holds_346 rfl (lv_at hl 0 rfl) ?_
      refine lv_iconst (v := (5 : Int32)) hx hb dL_holds_347 (by decide) ?_
      obtain ⟨r_6, s_6, e_6, hf⟩ := mm_bd_ok hf
      refine mm_callV X hP hS hl.1 [.int (5 : Int32)] [] (cx_X10_count l D ad cA hI (5 : Int32) s_4 r_6 s_6 e_6) kp_9 rfl rfl wd_305 wd_306 wd_307 wd_1 wd_308 hd_X10_count ⟨Nat.le_of_ble_eq_true rfl, Nat.le_of_ble_eq_true rfl⟩ rfl (Nat.le_of_ble_eq_true rfl) dL_holds_348 (fun H locs hP hS => ?_)
      refine lv_istore_n (lv' := [(3, .int r_6), (0, .ref (ad 6 9 0)), (1, .int v1), (2, .int v2)]) hx hb dL_holds_351 rfl hl (by decide) rfl (fun ls hl => ?_)
      refine lv_iload_n hx hb dL_holds_352 rfl (lv_at hl 2 rfl) ?_
      refine lv_aload_n hx hb dL_holds_353 rfl (lv_at hl 1 rfl) ?_
      refine lv_iconst (v := (4 : Int32)) hx hb dL_holds_354 (by decide) ?_
      obtain ⟨r_7, s_7, e_7, hf⟩ := mm_bd_ok hf
      refine mm_callV X hP hS hl.1 [.int (4 : Int32)] [.int v1] (cx_X10_count l D ad cA hI (4 : Int32) s_6 r_7 s_7 e_7) kp_9 rfl rfl wd_305 wd_306 wd_307 wd_1 wd_308 hd_X10_count ⟨Nat.le_of_ble_eq_true rfl, Nat.le_of_ble_eq_true rfl⟩ rfl (Nat.le_of_ble_eq_true rfl) dL_holds_355 (fun H locs hP hS => ?_)
      refine lv_icmp_ne (tgt := 442) hx hb dL_holds_358 (by decide) (fun c_8 => ?_) (fun c_8 => ?_)
      · replace hf := mm_if c_8 hf
        refine lv_iconst (v := (0 : Int32)) hx hb dL_holds_442 (by decide) ?_
        obtain ⟨rfl, rfl⟩ := mm_ret hf
        exact mm_zret (Or.inl rfl) X hP hS dL_holds_443
      · replace hf := mm_it c_8 hf
        refine lv_iload_n hx hb dL_holds_361 rfl (lv_at hl 3 rfl) ?_
        refine lv_iload_n hx hb dL_holds_362 rfl (lv_at hl 2 rfl) ?_
        refine lv_iadd hx hb dL_holds_363 ?_
        refine lv_aload_n hx hb dL_holds_364 rfl (lv_at hl 1 rfl) ?_
        refine lv_iconst (v := (0 : Int32)) hx hb dL_holds_365 (by decide) ?_
        obtain ⟨r_9, s_9, e_9, hf⟩ := mm_bd_ok hf
        refine mm_callV X hP hS hl.1 [.int (0 : Int32)] [.int (v2 + v1)] (cx_X10_count l D ad cA hI (0 : Int32) s_7 r_9 s_9 e_9) kp_9 rfl rfl wd_305 wd_306 wd_307 wd_1 wd_308 hd_X10_count ⟨Nat.le_of_ble_eq_true rfl, Nat.le_of_ble_eq_true rfl⟩ rfl (Nat.le_of_ble_eq_true rfl) dL_holds_366 (fun H locs hP hS => ?_)
        refine lv_icmp_ne (tgt := 442) hx hb dL_holds_369 (by decide) (fun c_10 => ?_) (fun c_10 => ?_)
        · replace hf := mm_if c_10 hf
          refine lv_iconst (v := (0 : Int32)) hx hb dL_holds_442 (by decide) ?_
          obtain ⟨rfl, rfl⟩ := mm_ret hf
          exact mm_zret (Or.inl rfl) X hP hS dL_holds_443
        · replace hf := mm_it c_10 hf
          refine lv_aload_n hx hb dL_holds_372 rfl (lv_at hl 1 rfl) ?_
          refine lv_bipush (v := (6 : Int32)) hx hb dL_holds_373 (by decide) ?_
          obtain ⟨r_11, s_11, e_11, hf⟩ := mm_bd_ok hf
          refine mm_callV X hP hS hl.1 [.int (6 : Int32)] [] (cx_X10_count l D ad cA hI (6 : Int32) s_9 r_11 s_11 e_11) kp_9 rfl rfl wd_305 wd_306 wd_307 wd_1 wd_308 hd_X10_count ⟨Nat.le_of_ble_eq_true rfl, Nat.le_of_ble_eq_true rfl⟩ rfl (Nat.le_of_ble_eq_true rfl) dL_holds_375 (fun H locs hP hS => ?_)
          refine lv_iconst (v := (5 : Int32)) hx hb dL_holds_378 (by decide) ?_
          refine lv_aload_n hx hb dL_holds_379 rfl (lv_at hl 1 rfl) ?_
          refine lv_iconst (v := (2 : Int32)) hx hb dL_holds_380 (by decide) ?_
          obtain ⟨r_12, s_12, e_12, hf⟩ := mm_bd_ok hf
          refine mm_callV X hP hS hl.1 [.int (2 : Int32)] [.int (5 : Int32), .int r_11] (cx_X10_count l D ad cA hI (2 : Int32) s_11 r_12 s_12 e_12) kp_9 rfl rfl wd_305 wd_306 wd_307 wd_1 wd_308 hd_X10_count ⟨Nat.le_of_ble_eq_true rfl, Nat.le_of_ble_eq_true rfl⟩ rfl (Nat.le_of_ble_eq_true rfl) dL_holds_381 (fun H locs hP hS => ?_)
          refine lv_imul hx hb dL_holds_384 ?_
          refine lv_icmp_lt (tgt := 442) hx hb dL_holds_385 (by decide) (fun c_13 => ?_) (fun c_13 => ?_)
          · replace hf := mm_it c_13 hf
            refine lv_iconst (v := (0 : Int32)) hx hb dL_holds_442 (by decide) ?_
            obtain ⟨rfl, rfl⟩ := mm_ret hf
            exact mm_zret (Or.inl rfl) X hP hS dL_holds_443
          · replace hf := mm_if c_13 hf
            refine lv_aload_n hx hb dL_holds_388 rfl (lv_at hl 1 rfl) ?_
            refine lv_bipush (v := (6 : Int32)) hx hb dL_holds_389 (by decide) ?_
            obtain ⟨r_14, s_14, e_14, hf⟩ := mm_bd_ok hf
            refine mm_callV X hP hS hl.1 [.int (6 : Int32)] [] (cx_X10_count l D ad cA hI (6 : Int32) s_12 r_14 s_14 e_14) kp_9 rfl rfl wd_305 wd_306 wd_307 wd_1 wd_308 hd_X10_count ⟨Nat.le_of_ble_eq_true rfl, Nat.le_of_ble_eq_true rfl⟩ rfl (Nat.le_of_ble_eq_true rfl) dL_holds_391 (fun H locs hP hS => ?_)
            refine lv_iconst (v := (5 : Int32)) hx hb dL_holds_394 (by decide) ?_
            refine lv_aload_n hx hb dL_holds_395 rfl (lv_at hl 1 rfl) ?_
            refine lv_iconst (v := (2 : Int32)) hx hb dL_holds_396 (by decide) ?_
            obtain ⟨r_15, s_15, e_15, hf⟩ := mm_bd_ok hf
            refine mm_callV X hP hS hl.1 [.int (2 : Int32)] [.int (5 : Int32), .int r_14] (cx_X10_count l D ad cA hI (2 : Int32) s_14 r_15 s_15 e_15) kp_9 rfl rfl wd_305 wd_306 wd_307 wd_1 wd_308 hd_X10_count ⟨Nat.le_of_ble_eq_true rfl, Nat.le_of_ble_eq_true rfl⟩ rfl (Nat.le_of_ble_eq_true rfl) dL_holds_397 (fun H locs hP hS => ?_)
            refine lv_imul hx hb dL_holds_400 ?_
            refine lv_aload_n hx hb dL_holds_401 rfl (lv_at hl 1 rfl) ?_
            refine lv_iconst (v := (1 : Int32)) hx hb dL_holds_402 (by decide) ?_
            obtain ⟨r_16, s_16, e_16, hf⟩ := mm_bd_ok hf
            refine mm_callV X hP hS hl.1 [.int (1 : Int32)] [.int ((5 : Int32) * r_15), .int r_14] (cx_X10_count l D ad cA hI (1 : Int32) s_15 r_16 s_16 e_16) kp_9 rfl rfl wd_305 wd_306 wd_307 wd_1 wd_308 hd_X10_count ⟨Nat.le_of_ble_eq_true rfl, Nat.le_of_ble_eq_true rfl⟩ rfl (Nat.le_of_ble_eq_true rfl) dL_holds_403 (fun H locs hP hS => ?_)
            refine lv_iadd hx hb dL_holds_406 ?_
            refine lv_icmp_ne (tgt := 442) hx hb dL_holds_407 (by decide) (fun c_17 => ?_) (fun c_17 => ?_)
            · replace hf := mm_if c_17 hf
              refine lv_iconst (v := (0 : Int32)) hx hb dL_holds_442 (by decide) ?_
              obtain ⟨rfl, rfl⟩ := mm_ret hf
              exact mm_zret (Or.inl rfl) X hP hS dL_holds_443
            · replace hf := mm_it c_17 hf
              refine lv_iload_n hx hb dL_holds_410 rfl (lv_at hl 0 rfl) ?_
              refine lv_ldc (v := (-1000004 : Int32)) hx hb X.2.2.2.2.2.1 (X.2.2.2.2.2.2.1 _ wd_433) dL_holds_411 ?_
              refine lv_icmp_eq (tgt := 438) hx hb dL_holds_413 (by decide) (fun c_18 => ?_) (fun c_18 => ?_)
              · replace hf := mm_it c_18 hf
                refine lv_iconst (v := (1 : Int32)) hx hb dL_holds_438 (by decide) ?_
                refine lv_goto (tgt := 443) hx hb dL_holds_439 (by decide) ?_
                obtain ⟨rfl, rfl⟩ := mm_ret hf
                exact mm_zret (Or.inr rfl) X hP hS dL_holds_443
              · replace hf := mm_if c_18 hf
                refine lv_iload_n hx hb dL_holds_416 rfl (lv_at hl 0 rfl) ?_
                refine lv_if_lt (tgt := 442) hx hb dL_holds_417 (by decide) (fun c_19 => ?_) (fun c_19 => ?_)
                · replace hf := mm_it c_19 hf
                  refine lv_iconst (v := (0 : Int32)) hx hb dL_holds_442 (by decide) ?_
                  obtain ⟨rfl, rfl⟩ := mm_ret hf
                  exact mm_zret (Or.inl rfl) X hP hS dL_holds_443
                · replace hf := mm_if c_19 hf
                  refine lv_iload_n hx hb dL_holds_420 rfl (lv_at hl 0 rfl) ?_
                  refine lv_aload_n hx hb dL_holds_421 rfl (lv_at hl 1 rfl) ?_
                  refine lv_iconst (v := (0 : Int32)) hx hb dL_holds_422 (by decide) ?_
                  obtain ⟨r_20, s_20, e_20, hf⟩ := mm_bd_ok hf
                  refine mm_callV X hP hS hl.1 [.int (0 : Int32)] [.int r_6] (cx_X10_count l D ad cA hI (0 : Int32) s_16 r_20 s_20 e_20) kp_9 rfl rfl wd_305 wd_306 wd_307 wd_1 wd_308 hd_X10_count ⟨Nat.le_of_ble_eq_true rfl, Nat.le_of_ble_eq_true rfl⟩ rfl (Nat.le_of_ble_eq_true rfl) dL_holds_423 (fun H locs hP hS => ?_)
                  refine lv_icmp_ge (tgt := 442) hx hb dL_holds_426 (by decide) (fun c_21 => ?_) (fun c_21 => ?_)
                  · replace hf := mm_it c_21 hf
                    refine lv_iconst (v := (0 : Int32)) hx hb dL_holds_442 (by decide) ?_
                    obtain ⟨rfl, rfl⟩ := mm_ret hf
                    exact mm_zret (Or.inl rfl) X hP hS dL_holds_443
                  · replace hf := mm_if c_21 hf
                    refine lv_aload_n hx hb dL_holds_429 rfl (lv_at hl 1 rfl) ?_
                    refine lv_iload_n hx hb dL_holds_430 rfl (lv_at hl 0 rfl) ?_
                    refine lv_iconst (v := (3 : Int32)) hx hb dL_holds_431 (by decide) ?_
                    obtain ⟨r_22, s_22, e_22, hf⟩ := mm_bd_ok hf
                    refine mm_callV X hP hS hl.1 [.int r_6, .int (3 : Int32)] [] (cx_X10_cartOf l D ad cA hI r_6 (3 : Int32) s_20 r_22 s_22 e_22) kp_9 rfl rfl wd_389 wd_390 wd_391 wd_1 wd_392 hd_X10_cartOf ⟨Nat.le_of_ble_eq_true rfl, Nat.le_of_ble_eq_true rfl⟩ rfl (Nat.le_of_ble_eq_true rfl) dL_holds_432 (fun H locs hP hS => ?_)
                    refine lv_if_le (tgt := 442) hx hb dL_holds_435 (by decide) (fun c_23 => ?_) (fun c_23 => ?_)
                    · replace hf := mm_it c_23 hf
                      refine lv_iconst (v := (0 : Int32)) hx hb dL_holds_442 (by decide) ?_
                      obtain ⟨rfl, rfl⟩ := mm_ret hf
                      exact mm_zret (Or.inl rfl) X hP hS dL_holds_443
                    · replace hf := mm_if c_23 hf
                      refine lv_iconst (v := (1 : Int32)) hx hb dL_holds_438 (by decide) ?_
                      refine lv_goto (tgt := 443) hx hb dL_holds_439 (by decide) ?_
                      obtain ⟨rfl, rfl⟩ := mm_ret hf
                      exact mm_zret (Or.inr rfl) X hP hS dL_holds_443
    · replace hf := mm_if c_5 hf
      refine lv_aload_n hx hb dL_holds_83 rfl (lv_at hl 0 rfl) ?_
      refine lv_iload_n hx hb dL_holds_84 rfl (lv_at hl 3 rfl) ?_
      refine lv_iconst (v := (2 : Int32)) hx hb dL_holds_85 (by decide) ?_
      obtain ⟨r_24, s_24, e_24, hf⟩ := mm_bd_ok hf
      refine mm_callV X hP hS hl.1 [.int v3, .int (2 : Int32)] [] (cx_X10_cartOf l D ad cA hI v3 (2 : Int32) s_4 r_24 s_24 e_24) kp_9 rfl rfl wd_389 wd_390 wd_391 wd_1 wd_392 hd_X10_cartOf ⟨Nat.le_of_ble_eq_true rfl, Nat.le_of_ble_eq_true rfl⟩ rfl (Nat.le_of_ble_eq_true rfl) dL_holds_86 (fun H locs hP hS => ?_)
      refine lv_istore (lv' := [(4, .int r_24), (0, .ref (ad 6 9 0)), (1, .int v1), (2, .int v2), (3, .int v3)]) hx hb dL_holds_89 hl (by decide) rfl (fun ls hl => ?_)
      refine lv_iload_n hx hb dL_holds_91 rfl (lv_at hl 2 rfl) ?_
      refine lv_aload_n hx hb dL_holds_92 rfl (lv_at hl 1 rfl) ?_
      refine lv_iload_n hx hb dL_holds_93 rfl (lv_at hl 4 rfl) ?_
      refine lv_iconst (v := (0 : Int32)) hx hb dL_holds_94 (by decide) ?_
      obtain ⟨r_25, s_25, e_25, hf⟩ := mm_bd_ok hf
      refine mm_callV X hP hS hl.1 [.int v3, .int (0 : Int32)] [.int v1] (cx_X10_cartOf l D ad cA hI v3 (0 : Int32) s_24 r_25 s_25 e_25) kp_9 rfl rfl wd_389 wd_390 wd_391 wd_1 wd_392 hd_X10_cartOf ⟨Nat.le_of_ble_eq_true rfl, Nat.le_of_ble_eq_true rfl⟩ rfl (Nat.le_of_ble_eq_true rfl) dL_holds_95 (fun H locs hP hS => ?_)
      refine lv_ldc (v := (-1000004 : Int32)) hx hb X.2.2.2.2.2.1 (X.2.2.2.2.2.2.1 _ wd_433) dL_holds_98 ?_
      refine lv_icmp_ne (tgt := 107) hx hb dL_holds_100 (by decide) (fun c_26 => ?_) (fun c_26 => ?_)
      · replace hf := mm_if c_26 hf
        refine lv_iconst (v := (0 : Int32)) hx hb dL_holds_107 (by decide) ?_
        exact cx_L_holds_J108 rv σ1 (fun z0 z1 z2 z => fx_L_holds_L74 fu z0 z1 z2 z) ih X v2 v3 r_24 v1 (0 : Int32) s_25 H locs ls hf hP hS (lv_sub hl [1, 3, 4, 0] rfl)
      · replace hf := mm_it c_26 hf
        refine lv_iconst (v := (1 : Int32)) hx hb dL_holds_103 (by decide) ?_
        refine lv_goto (tgt := 108) hx hb dL_holds_104 (by decide) ?_
        exact cx_L_holds_J108 rv σ1 (fun z0 z1 z2 z => fx_L_holds_L74 fu z0 z1 z2 z) ih X v2 v3 r_24 v1 (1 : Int32) s_25 H locs ls hf hP hS (lv_sub hl [1, 3, 4, 0] rfl)
def fx_L_holds_L6   : Nat → Int32 → Int32 → Int32 → mm_M → mm_R
  | 0, _, _, _, _ => none
  | fu + 1, v1, v2, v3, σ => if (64 : Int32) ≤ v3 then fx_L_holds_L74 mm_FU v1 v2 (0 : Int32) σ else mm_bd (fx_X10_cellOf v3 (2 : Int32) σ) fun r_2 s_2 => (if r_2 = (-1000004 : Int32) then fx_L_holds_J33 (fun z0 z1 z2 z => fx_L_holds_L6 fu z0 z1 z2 z) v1 v3 r_2 v2 (0 : Int32) s_2 else fx_L_holds_J33 (fun z0 z1 z2 z => fx_L_holds_L6 fu z0 z1 z2 z) v1 v3 r_2 v2 (1 : Int32) s_2)
set_option maxHeartbeats 4000000 in
set_option maxRecDepth 100000 in
theorem cx_L_holds_L6 {p : Program} {l : Launch} {e : Env} {s : State} {m : MethodId} {args : Array Value} {below : List Frame} {meth : Method} {c : Code} {D : va_G} {ad : mm_A} {cA : Nat → ClassId}   (rv : Int32) (σ1 : mm_M)  (X : mm_X p s m args meth c cL_holds 11 (some .boolean) RL D ad cA) : ∀ (fu : Nat), ∀ (v1 : Int32) (v2 : Int32) (v3 : Int32) (σ : mm_M) (H : Heap) (locs : List Loc) (ls : Array Slot), fx_L_holds_L6  fu v1 v2 v3 σ = some (rv, σ1) → va_P D vwCl (mm_wd ad cA σ) H → va_S (mm_AS ad) s.heap H locs → lv_has ls 11 [(0, .ref (ad 6 9 0)), (1, .int v1), (2, .int v2), (3, .int v3)] → W p l e (mm_rm 5 106) s m args below meth c H locs 0 0 (MQ below (mm_Q D ad cA (some (.int rv)) σ1) args s 0 0 (mm_AS ad)) (F0 m 6 ls []) := by
  have hx := X.1
  have hb := X.2.1
  have hI := X.2.2.2.2.2.2.2.2.2
  intro fu
  induction fu with
  | zero =>
    intro v1 v2 v3 σ H locs ls hf
    exact mm_no hf
  | succ fu ih =>
    intro v1 v2 v3 σ H locs ls hf hP hS hl
    rw [fx_L_holds_L6] at hf
    refine lv_iload_n hx hb dL_holds_6 rfl (lv_at hl 3 rfl) ?_
    refine lv_bipush (v := (64 : Int32)) hx hb dL_holds_7 (by decide) ?_
    refine lv_icmp_ge (tgt := 72) hx hb dL_holds_9 (by decide) (fun c_1 => ?_) (fun c_1 => ?_)
    · replace hf := mm_it c_1 hf
      refine lv_iconst (v := (0 : Int32)) hx hb dL_holds_72 (by decide) ?_
      refine lv_istore_n (lv' := [(3, .int (0 : Int32)), (0, .ref (ad 6 9 0)), (1, .int v1), (2, .int v2)]) hx hb dL_holds_73 rfl hl (by decide) rfl (fun ls hl => ?_)
      exact cx_L_holds_L74 rv σ1 X mm_FU v1 v2 (0 : Int32) σ H locs ls hf hP hS (lv_sub hl [1, 2, 3, 0] rfl)
    · replace hf := mm_if c_1 hf
      refine lv_aload_n hx hb dL_holds_12 rfl (lv_at hl 0 rfl) ?_
      refine lv_iload_n hx hb dL_holds_13 rfl (lv_at hl 3 rfl) ?_
      refine lv_iconst (v := (2 : Int32)) hx hb dL_holds_14 (by decide) ?_
      obtain ⟨r_2, s_2, e_2, hf⟩ := mm_bd_ok hf
      refine mm_callV X hP hS hl.1 [.int v3, .int (2 : Int32)] [] (cx_X10_cellOf l D ad cA hI v3 (2 : Int32) σ r_2 s_2 e_2) kp_9 rfl rfl wd_357 wd_358 wd_359 wd_1 wd_360 hd_X10_cellOf ⟨Nat.le_of_ble_eq_true rfl, Nat.le_of_ble_eq_true rfl⟩ rfl (Nat.le_of_ble_eq_true rfl) dL_holds_15 (fun H locs hP hS => ?_)
      refine lv_istore (lv' := [(4, .int r_2), (0, .ref (ad 6 9 0)), (1, .int v1), (2, .int v2), (3, .int v3)]) hx hb dL_holds_18 hl (by decide) rfl (fun ls hl => ?_)
      refine lv_iload_n hx hb dL_holds_20 rfl (lv_at hl 3 rfl) ?_
      refine lv_iload hx hb dL_holds_21 (lv_at hl 0 rfl) ?_
      refine lv_ldc (v := (-1000004 : Int32)) hx hb X.2.2.2.2.2.1 (X.2.2.2.2.2.2.1 _ wd_433) dL_holds_23 ?_
      refine lv_icmp_ne (tgt := 32) hx hb dL_holds_25 (by decide) (fun c_3 => ?_) (fun c_3 => ?_)
      · replace hf := mm_if c_3 hf
        refine lv_iconst (v := (1 : Int32)) hx hb dL_holds_32 (by decide) ?_
        exact cx_L_holds_J33 rv σ1 (fun z0 z1 z2 z => fx_L_holds_L6 fu z0 z1 z2 z) ih X v1 v3 r_2 v2 (1 : Int32) s_2 H locs ls hf hP hS (lv_sub hl [1, 2, 4, 0] rfl)
      · replace hf := mm_it c_3 hf
        refine lv_iconst (v := (0 : Int32)) hx hb dL_holds_28 (by decide) ?_
        refine lv_goto (tgt := 33) hx hb dL_holds_29 (by decide) ?_
        exact cx_L_holds_J33 rv σ1 (fun z0 z1 z2 z => fx_L_holds_L6 fu z0 z1 z2 z) ih X v1 v3 r_2 v2 (0 : Int32) s_2 H locs ls hf hP hS (lv_sub hl [1, 2, 4, 0] rfl)
def fx_L_holds  (σ : mm_M) : mm_R := fx_L_holds_L6 mm_FU (0 : Int32) (0 : Int32) (0 : Int32) σ
set_option maxHeartbeats 4000000 in
set_option maxRecDepth 100000 in
theorem cx_L_holds (l : Launch) (D : va_G) (ad : mm_A) (cA : Nat → ClassId) (hI : mm_Inj ad)   (σ : mm_M) (rv : Int32) (σ1 : mm_M) (hf : fx_L_holds  σ = some (rv, σ1)) : Met l yL_holds (Cond.code yL_holds cL_holds 11 (some .boolean) :: tb) (mm_rm 5 106) (mm_pre D ad cA [.ref (ad 6 9 0)] σ) (mm_Q D ad cA (some (.int rv)) σ1) 0 0 (mm_AS ad) := by
  refine mm_start (by decide +kernel) hI (Nat.le_of_ble_eq_true rfl) ?_
  intro p e s m args below meth c X hP ls hl
  have hl : lv_has ls 11 [(0, .ref (ad 6 9 0))] := hl
  have hx := X.1
  have hb := X.2.1
  have hS : va_S (mm_AS ad) s.heap s.heap [] := va_S.rf
  have hgen : ∀ (H : Heap) (locs : List Loc), va_P D vwCl (mm_wd ad cA σ) H → va_S (mm_AS ad) s.heap H locs → W p l e (mm_rm 5 106) s m args below meth c H locs 0 0 (MQ below (mm_Q D ad cA (some (.int rv)) σ1) args s 0 0 (mm_AS ad)) (F0 m 0 ls []) := by
    intro H locs hP hS
    rw [fx_L_holds] at hf
    refine lv_iconst (v := (0 : Int32)) hx hb dL_holds_0 (by decide) ?_
    refine lv_istore_n (lv' := [(1, .int (0 : Int32)), (0, .ref (ad 6 9 0))]) hx hb dL_holds_1 rfl hl (by decide) rfl (fun ls hl => ?_)
    refine lv_iconst (v := (0 : Int32)) hx hb dL_holds_2 (by decide) ?_
    refine lv_istore_n (lv' := [(2, .int (0 : Int32)), (1, .int (0 : Int32)), (0, .ref (ad 6 9 0))]) hx hb dL_holds_3 rfl hl (by decide) rfl (fun ls hl => ?_)
    refine lv_iconst (v := (0 : Int32)) hx hb dL_holds_4 (by decide) ?_
    refine lv_istore_n (lv' := [(3, .int (0 : Int32)), (2, .int (0 : Int32)), (1, .int (0 : Int32)), (0, .ref (ad 6 9 0))]) hx hb dL_holds_5 rfl hl (by decide) rfl (fun ls hl => ?_)
    exact cx_L_holds_L6 rv σ1 X mm_FU (0 : Int32) (0 : Int32) (0 : Int32) σ H locs ls hf hP hS (lv_sub hl [3, 2, 1, 0] rfl)
  exact hgen _ _ hP hS
