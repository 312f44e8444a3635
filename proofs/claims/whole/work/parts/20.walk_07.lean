def fx_X10_fault (x1 : Int32) (σ : mm_M) : mm_R := mm_bd (fx_X10_isWithin x1 (0 : Int32) (2 : Int32) σ) fun r_1 s_1 => (if r_1 = (0 : Int32) then some ((-1000001 : Int32), s_1) else mm_bd (fx_X10_freshTrial  s_1) fun _ s_3 => (mm_bd (fx_X5_doAll 1 s_3) fun _ s_4 => (mm_bd (fx_X5_isFaulty  s_4) fun r_5 s_5 => (if r_5 = (0 : Int32) then some ((-1000004 : Int32), s_5) else if x1 = (0 : Int32) then some (s_5 9 26 0 3, s_5) else if x1 = (1 : Int32) then some (s_5 9 26 0 4, s_5) else some (s_5 9 26 0 5, s_5)))))
set_option maxHeartbeats 4000000 in
set_option maxRecDepth 100000 in
theorem cx_X10_fault (l : Launch) (D : va_G) (ad : mm_A) (cA : Nat → ClassId) (hI : mm_Inj ad) (x1 : Int32)  (σ : mm_M) (rv : Int32) (σ1 : mm_M) (hf : fx_X10_fault x1 σ = some (rv, σ1)) : Met l yX10_fault (Cond.code yX10_fault cX10_fault 2 (some .int) :: tb) (mm_rm 7 160) (mm_pre D ad cA [.ref (ad 6 9 0), .int x1] σ) (mm_Q D ad cA (some (.int rv)) σ1) 0 0 (mm_AS ad) := by
  refine mm_start (by decide +kernel) hI (Nat.le_of_ble_eq_true rfl) ?_
  intro p e s m args below meth c X hP ls hl
  have hl : lv_has ls 2 [(0, .ref (ad 6 9 0)), (1, .int x1)] := hl
  have hx := X.1
  have hb := X.2.1
  have hS : va_S (mm_AS ad) s.heap s.heap [] := va_S.rf
  have hgen : ∀ (H : Heap) (locs : List Loc), va_P D vwCl (mm_wd ad cA σ) H → va_S (mm_AS ad) s.heap H locs → W p l e (mm_rm 7 160) s m args below meth c H locs 0 0 (MQ below (mm_Q D ad cA (some (.int rv)) σ1) args s 0 0 (mm_AS ad)) (F0 m 0 ls []) := by
    intro H locs hP hS
    rw [fx_X10_fault] at hf
    refine lv_iload_n hx hb dX10_fault_0 rfl (lv_at hl 1 rfl) ?_
    refine lv_iconst (v := (0 : Int32)) hx hb dX10_fault_1 (by decide) ?_
    refine lv_iconst (v := (2 : Int32)) hx hb dX10_fault_2 (by decide) ?_
    obtain ⟨r_1, s_1, e_1, hf⟩ := mm_bd_ok hf
    refine mm_callS X hP hS hl.1 [.int x1, .int (0 : Int32), .int (2 : Int32)] [] (cx_X10_isWithin l D ad cA hI x1 (0 : Int32) (2 : Int32) σ r_1 s_1 e_1) wd_598 wd_338 wd_1 wd_339 hd_X10_isWithin ⟨Nat.le_of_ble_eq_true rfl, Nat.le_of_ble_eq_true rfl⟩ rfl (Nat.le_of_ble_eq_true rfl) dX10_fault_3 (fun H locs hP hS => ?_)
    refine lv_if_ne (tgt := 12) hx hb dX10_fault_6 (by decide) (fun c_2 => ?_) (fun c_2 => ?_)
    · replace hf := mm_if c_2 hf
      refine lv_aload_n hx hb dX10_fault_12 rfl (lv_at hl 0 rfl) ?_
      refine gf_9_6 X hP  wd_290 dX10_fault_13 ?_
      refine lv_aload_n hx hb dX10_fault_16 rfl (lv_at hl 0 rfl) ?_
      obtain ⟨r_3, s_3, e_3, hf⟩ := mm_bd_ok hf
      refine mm_callV X hP hS hl.1 [] [.ref (ad 9 26 0)] (cx_X10_freshTrial l D ad cA hI  s_1 r_3 s_3 e_3) kp_9 rfl rfl wd_310 wd_312 wp_0 wd_1 wd_313 hd_X10_freshTrial ⟨Nat.le_of_ble_eq_true rfl, Nat.le_of_ble_eq_true rfl⟩ rfl (Nat.le_of_ble_eq_true rfl) dX10_fault_17 (fun H locs hP hS => ?_)
      obtain ⟨r_4, s_4, e_4, hf⟩ := mm_bd_ok hf
      refine mm_callV X hP hS hl.1 [.ref (ad 1 0 0)] [] (cx_X5_doAll l D ad cA hI 1 (by decide) s_3 r_4 s_4 e_4) kp_26 rfl rfl wd_725 wd_726 wd_727 wd_11 wd_728 hd_X5_doAll ⟨Nat.le_of_ble_eq_true rfl, Nat.le_of_ble_eq_true rfl⟩ rfl (Nat.le_of_ble_eq_true rfl) dX10_fault_20 (fun H locs hP hS => ?_)
      refine lv_aload_n hx hb dX10_fault_23 rfl (lv_at hl 0 rfl) ?_
      refine gf_9_6 X hP  wd_290 dX10_fault_24 ?_
      obtain ⟨r_5, s_5, e_5, hf⟩ := mm_bd_ok hf
      refine mm_callV X hP hS hl.1 [] [] (cx_X5_isFaulty l D ad cA hI  s_4 r_5 s_5 e_5) kp_26 rfl rfl wd_758 wd_730 wd_731 wd_11 wd_732 hd_X5_isFaulty ⟨Nat.le_of_ble_eq_true rfl, Nat.le_of_ble_eq_true rfl⟩ rfl (Nat.le_of_ble_eq_true rfl) dX10_fault_27 (fun H locs hP hS => ?_)
      refine lv_if_ne (tgt := 36) hx hb dX10_fault_30 (by decide) (fun c_6 => ?_) (fun c_6 => ?_)
      · replace hf := mm_if c_6 hf
        refine lv_iload_n hx hb dX10_fault_36 rfl (lv_at hl 1 rfl) ?_
        by_cases c_7 : x1 = (0 : Int32)
        · replace hf := mm_it c_7 hf
          refine lv_lookup (off := 27) (tgt := 64) hx hb dX10_fault_37 (by decide +kernel) (by rw [c_7]; decide +kernel) (by decide) ?_
          refine lv_aload_n hx hb dX10_fault_64 rfl (lv_at hl 0 rfl) ?_
          refine gf_9_6 X hP  wd_290 dX10_fault_65 ?_
          refine gf_26_3 X hP  wd_266 dX10_fault_68 ?_
          obtain ⟨rfl, rfl⟩ := mm_ret hf
          exact mm_iret X hP hS dX10_fault_71
        replace hf := mm_if c_7 hf
        by_cases c_8 : x1 = (1 : Int32)
        · replace hf := mm_it c_8 hf
          refine lv_lookup (off := 35) (tgt := 72) hx hb dX10_fault_37 (by decide +kernel) (by rw [c_8]; decide +kernel) (by decide) ?_
          refine lv_aload_n hx hb dX10_fault_72 rfl (lv_at hl 0 rfl) ?_
          refine gf_9_6 X hP  wd_290 dX10_fault_73 ?_
          refine gf_26_4 X hP  wd_268 dX10_fault_76 ?_
          obtain ⟨rfl, rfl⟩ := mm_ret hf
          exact mm_iret X hP hS dX10_fault_79
        replace hf := mm_if c_8 hf
        refine lv_lookup (off := 43) (tgt := 80) hx hb dX10_fault_37 (by decide +kernel) (by show Op.lookupswitch.offset [(0, 27), (1, 35)] _ _ = _; rw [lv_osw c_7 (by decide), lv_osw c_8 (by decide)]; rfl) (by decide) ?_
        refine lv_aload_n hx hb dX10_fault_80 rfl (lv_at hl 0 rfl) ?_
        refine gf_9_6 X hP  wd_290 dX10_fault_81 ?_
        refine gf_26_5 X hP  wd_270 dX10_fault_84 ?_
        obtain ⟨rfl, rfl⟩ := mm_ret hf
        exact mm_iret X hP hS dX10_fault_87
      · replace hf := mm_it c_6 hf
        refine lv_ldc (v := (-1000004 : Int32)) hx hb X.2.2.2.2.2.1 (X.2.2.2.2.2.2.1 _ wd_637) dX10_fault_33 ?_
        obtain ⟨rfl, rfl⟩ := mm_ret hf
        exact mm_iret X hP hS dX10_fault_35
    · replace hf := mm_it c_2 hf
      refine lv_ldc (v := (-1000001 : Int32)) hx hb X.2.2.2.2.2.1 (X.2.2.2.2.2.2.1 _ wd_599) dX10_fault_9 ?_
      obtain ⟨rfl, rfl⟩ := mm_ret hf
      exact mm_iret X hP hS dX10_fault_11
  exact hgen _ _ hP hS
def fx_X10_play_J34   (w1 : Int32) (σ : mm_M) : mm_R := mm_bd (fx_X10_keep w1 σ) fun r_5 s_5 => (some (r_5, s_5))
set_option maxHeartbeats 4000000 in
set_option maxRecDepth 100000 in
theorem cx_X10_play_J34 {p : Program} {l : Launch} {e : Env} {s : State} {m : MethodId} {args : Array Value} {below : List Frame} {meth : Method} {c : Code} {D : va_G} {ad : mm_A} {cA : Nat → ClassId}   (rv : Int32) (σ1 : mm_M)  (X : mm_X p s m args meth c cX10_play 1 (some .int) RX10 D ad cA) : ∀ (w1 : Int32) (σ : mm_M) (H : Heap) (locs : List Loc) (ls : Array Slot), fx_X10_play_J34  w1 σ = some (rv, σ1) → va_P D vwCl (mm_wd ad cA σ) H → va_S (mm_AS ad) s.heap H locs → lv_has ls 1 [] → W p l e (mm_rm 7 160) s m args below meth c H locs 0 0 (MQ below (mm_Q D ad cA (some (.int rv)) σ1) args s 0 0 (mm_AS ad)) (F0 m 34 ls [.int w1, .ref (ad 6 9 0)]) := by
  have hx := X.1
  have hb := X.2.1
  have hI := X.2.2.2.2.2.2.2.2.2
  intro w1 σ H locs ls hf hP hS hl
  rw [fx_X10_play_J34] at hf
  obtain ⟨r_5, s_5, e_5, hf⟩ := mm_bd_ok hf
  refine mm_callV X hP hS hl.1 [.int w1] [] (cx_X10_keep l D ad cA hI w1 σ r_5 s_5 e_5) kp_9 rfl rfl wd_346 wd_348 wp_1 wd_1 wd_349 hd_X10_keep ⟨Nat.le_of_ble_eq_true rfl, Nat.le_of_ble_eq_true rfl⟩ rfl (Nat.le_of_ble_eq_true rfl) dX10_play_34 (fun H locs hP hS => ?_)
  obtain ⟨rfl, rfl⟩ := mm_ret hf
  exact mm_iret X hP hS dX10_play_37
def fx_X10_play  (σ : mm_M) : mm_R := mm_bd (fx_X10_freshTrial  σ) fun _ s_1 => (mm_bd (fx_X5_doAll 1 s_1) fun _ s_2 => (mm_bd (fx_X5_isFaulty  s_2) fun r_3 s_3 => (if r_3 = (0 : Int32) then fx_X10_play_J34 (s_3 9 26 0 2) s_3 else fx_X10_play_J34 (-1000002 : Int32) s_3)))
set_option maxHeartbeats 4000000 in
set_option maxRecDepth 100000 in
theorem cx_X10_play (l : Launch) (D : va_G) (ad : mm_A) (cA : Nat → ClassId) (hI : mm_Inj ad)   (σ : mm_M) (rv : Int32) (σ1 : mm_M) (hf : fx_X10_play  σ = some (rv, σ1)) : Met l yX10_play (Cond.code yX10_play cX10_play 1 (some .int) :: tb) (mm_rm 7 160) (mm_pre D ad cA [.ref (ad 6 9 0)] σ) (mm_Q D ad cA (some (.int rv)) σ1) 0 0 (mm_AS ad) := by
  refine mm_start (by decide +kernel) hI (Nat.le_of_ble_eq_true rfl) ?_
  intro p e s m args below meth c X hP ls hl
  have hl : lv_has ls 1 [(0, .ref (ad 6 9 0))] := hl
  have hx := X.1
  have hb := X.2.1
  have hS : va_S (mm_AS ad) s.heap s.heap [] := va_S.rf
  have hgen : ∀ (H : Heap) (locs : List Loc), va_P D vwCl (mm_wd ad cA σ) H → va_S (mm_AS ad) s.heap H locs → W p l e (mm_rm 7 160) s m args below meth c H locs 0 0 (MQ below (mm_Q D ad cA (some (.int rv)) σ1) args s 0 0 (mm_AS ad)) (F0 m 0 ls []) := by
    intro H locs hP hS
    rw [fx_X10_play] at hf
    refine lv_aload_n hx hb dX10_play_0 rfl (lv_at hl 0 rfl) ?_
    refine gf_9_6 X hP  wd_290 dX10_play_1 ?_
    refine lv_aload_n hx hb dX10_play_4 rfl (lv_at hl 0 rfl) ?_
    obtain ⟨r_1, s_1, e_1, hf⟩ := mm_bd_ok hf
    refine mm_callV X hP hS hl.1 [] [.ref (ad 9 26 0)] (cx_X10_freshTrial l D ad cA hI  σ r_1 s_1 e_1) kp_9 rfl rfl wd_310 wd_312 wp_0 wd_1 wd_313 hd_X10_freshTrial ⟨Nat.le_of_ble_eq_true rfl, Nat.le_of_ble_eq_true rfl⟩ rfl (Nat.le_of_ble_eq_true rfl) dX10_play_5 (fun H locs hP hS => ?_)
    obtain ⟨r_2, s_2, e_2, hf⟩ := mm_bd_ok hf
    refine mm_callV X hP hS hl.1 [.ref (ad 1 0 0)] [] (cx_X5_doAll l D ad cA hI 1 (by decide) s_1 r_2 s_2 e_2) kp_26 rfl rfl wd_725 wd_726 wd_727 wd_11 wd_728 hd_X5_doAll ⟨Nat.le_of_ble_eq_true rfl, Nat.le_of_ble_eq_true rfl⟩ rfl (Nat.le_of_ble_eq_true rfl) dX10_play_8 (fun H locs hP hS => ?_)
    refine lv_aload_n hx hb dX10_play_11 rfl (lv_at hl 0 rfl) ?_
    refine lv_aload_n hx hb dX10_play_12 rfl (lv_at hl 0 rfl) ?_
    refine gf_9_6 X hP  wd_290 dX10_play_13 ?_
    obtain ⟨r_3, s_3, e_3, hf⟩ := mm_bd_ok hf
    refine mm_callV X hP hS hl.1 [] [.ref (ad 6 9 0)] (cx_X5_isFaulty l D ad cA hI  s_2 r_3 s_3 e_3) kp_26 rfl rfl wd_758 wd_730 wd_731 wd_11 wd_732 hd_X5_isFaulty ⟨Nat.le_of_ble_eq_true rfl, Nat.le_of_ble_eq_true rfl⟩ rfl (Nat.le_of_ble_eq_true rfl) dX10_play_16 (fun H locs hP hS => ?_)
    refine lv_if_eq (tgt := 27) hx hb dX10_play_19 (by decide) (fun c_4 => ?_) (fun c_4 => ?_)
    · replace hf := mm_it c_4 hf
      refine lv_aload_n hx hb dX10_play_27 rfl (lv_at hl 0 rfl) ?_
      refine gf_9_6 X hP  wd_290 dX10_play_28 ?_
      refine gf_26_2 X hP  wd_264 dX10_play_31 ?_
      exact cx_X10_play_J34 rv σ1 X (s_3 9 26 0 2) s_3 H locs ls hf hP hS (lv_sub hl [] rfl)
    · replace hf := mm_if c_4 hf
      refine lv_ldc (v := (-1000002 : Int32)) hx hb X.2.2.2.2.2.1 (X.2.2.2.2.2.2.1 _ wd_657) dX10_play_22 ?_
      refine lv_goto (tgt := 34) hx hb dX10_play_24 (by decide) ?_
      exact cx_X10_play_J34 rv σ1 X (-1000002 : Int32) s_3 H locs ls hf hP hS (lv_sub hl [] rfl)
  exact hgen _ _ hP hS
def fx_X11_begins_L2   : Nat → Int32 → mm_M → mm_R
  | 0, _, _ => none
  | fu + 1, v1, σ => if (207 : Int32) ≤ v1 then some (0, σ) else mm_gd (mm_ix v1 207 = true) (mm_gd (mm_ix v1 207 = true) (mm_lt (mm_u σ 10 32 0 v1.toNatClampNeg (σ 10 31 0 v1.toNatClampNeg)) fun s_4 => (mm_li (v1 + (1 : Int32)) fun y_5 => (fx_X11_begins_L2 fu y_5 s_4))))
set_option maxHeartbeats 4000000 in
set_option maxRecDepth 100000 in
theorem cx_X11_begins_L2 {p : Program} {l : Launch} {e : Env} {s : State} {m : MethodId} {args : Array Value} {below : List Frame} {meth : Method} {c : Code} {D : va_G} {ad : mm_A} {cA : Nat → ClassId}   (rv : Int32) (σ1 : mm_M)  (X : mm_X p s m args meth c cX11_begins 2 none RX11 D ad cA) : ∀ (fu : Nat), ∀ (v1 : Int32) (σ : mm_M) (H : Heap) (locs : List Loc) (ls : Array Slot), fx_X11_begins_L2  fu v1 σ = some (rv, σ1) → va_P D vwCl (mm_wd ad cA σ) H → va_S (mm_AS ad) s.heap H locs → lv_has ls 2 [(0, .ref (ad 10 30 0)), (1, .int v1)] → W p l e (mm_rm 0 0) s m args below meth c H locs 0 0 (MQ below (mm_Q D ad cA none σ1) args s 0 0 (mm_AS ad)) (F0 m 2 ls []) := by
  have hx := X.1
  have hb := X.2.1
  have hI := X.2.2.2.2.2.2.2.2.2
  intro fu
  induction fu with
  | zero =>
    intro v1 σ H locs ls hf
    exact mm_no hf
  | succ fu ih =>
    intro v1 σ H locs ls hf hP hS hl
    rw [fx_X11_begins_L2] at hf
    refine lv_iload_n hx hb dX11_begins_2 rfl (lv_at hl 1 rfl) ?_
    refine lv_sipush (v := (207 : Int32)) hx hb dX11_begins_3 (by decide) ?_
    refine lv_icmp_ge (tgt := 27) hx hb dX11_begins_6 (by decide) (fun c_1 => ?_) (fun c_1 => ?_)
    · replace hf := mm_it c_1 hf
      obtain ⟨rfl, rfl⟩ := mm_ret hf
      exact mm_vret X hP hS dX11_begins_27
    · replace hf := mm_if c_1 hf
      refine lv_aload_n hx hb dX11_begins_9 rfl (lv_at hl 0 rfl) ?_
      refine gf_30_1 X hP  wd_770 dX11_begins_10 ?_
      refine lv_iload_n hx hb dX11_begins_13 rfl (lv_at hl 1 rfl) ?_
      refine lv_aload_n hx hb dX11_begins_14 rfl (lv_at hl 0 rfl) ?_
      refine gf_30_0 X hP  wd_769 dX11_begins_15 ?_
      refine lv_iload_n hx hb dX11_begins_18 rfl (lv_at hl 1 rfl) ?_
      obtain ⟨h_2, hf⟩ := mm_gd_ok hf
      refine al_31 X hP  h_2 dX11_begins_19 ?_
      obtain ⟨h_3, hf⟩ := mm_gd_ok hf
      refine as_32 X hP hS  h_3  dX11_begins_20 (fun H locs hP hS => ?_)
      obtain ⟨s_4, e_4, hf⟩ := mm_lt_ok hf
      rw [← e_4] at hP
      obtain ⟨y_5, e_5, hf⟩ := mm_li_ok hf
      refine lv_iinc (v := y_5) (lv' := [(1, .int y_5), (0, .ref (ad 10 30 0))]) hx hb dX11_begins_21 hl (k := 1) rfl (by rw [e_5]; rfl) (by decide) rfl (fun ls hl => ?_)
      refine lv_goto (tgt := 2) hx hb dX11_begins_24 (by decide) ?_
      exact ih y_5 s_4 H locs ls  hf hP hS (lv_sub hl [1, 0] rfl)
def fx_X11_begins  (σ : mm_M) : mm_R := fx_X11_begins_L2 mm_FU (0 : Int32) σ
set_option maxHeartbeats 4000000 in
set_option maxRecDepth 100000 in
theorem cx_X11_begins (l : Launch) (D : va_G) (ad : mm_A) (cA : Nat → ClassId) (hI : mm_Inj ad)   (σ : mm_M) (rv : Int32) (σ1 : mm_M) (hf : fx_X11_begins  σ = some (rv, σ1)) : Met l yX11_begins (Cond.code yX11_begins cX11_begins 2 none :: tb) (mm_rm 0 0) (mm_pre D ad cA [.ref (ad 10 30 0)] σ) (mm_Q D ad cA none σ1) 0 0 (mm_AS ad) := by
  refine mm_start (by decide +kernel) hI (Nat.le_of_ble_eq_true rfl) ?_
  intro p e s m args below meth c X hP ls hl
  have hl : lv_has ls 2 [(0, .ref (ad 10 30 0))] := hl
  have hx := X.1
  have hb := X.2.1
  have hS : va_S (mm_AS ad) s.heap s.heap [] := va_S.rf
  have hgen : ∀ (H : Heap) (locs : List Loc), va_P D vwCl (mm_wd ad cA σ) H → va_S (mm_AS ad) s.heap H locs → W p l e (mm_rm 0 0) s m args below meth c H locs 0 0 (MQ below (mm_Q D ad cA none σ1) args s 0 0 (mm_AS ad)) (F0 m 0 ls []) := by
    intro H locs hP hS
    rw [fx_X11_begins] at hf
    refine lv_iconst (v := (0 : Int32)) hx hb dX11_begins_0 (by decide) ?_
    refine lv_istore_n (lv' := [(1, .int (0 : Int32)), (0, .ref (ad 10 30 0))]) hx hb dX11_begins_1 rfl hl (by decide) rfl (fun ls hl => ?_)
    exact cx_X11_begins_L2 rv σ1 X mm_FU (0 : Int32) σ H locs ls hf hP hS (lv_sub hl [1, 0] rfl)
  exact hgen _ _ hP hS
def fx_X11_in (x0 : Int32) (x1 : Int32) (x2 : Int32) (σ : mm_M) : mm_R := if x0 < x1 then some ((0 : Int32), σ) else if x2 < x0 then some ((0 : Int32), σ) else some ((1 : Int32), σ)
set_option maxHeartbeats 4000000 in
set_option maxRecDepth 100000 in
theorem cx_X11_in (l : Launch) (D : va_G) (ad : mm_A) (cA : Nat → ClassId) (hI : mm_Inj ad) (x0 : Int32) (x1 : Int32) (x2 : Int32)  (σ : mm_M) (rv : Int32) (σ1 : mm_M) (hf : fx_X11_in x0 x1 x2 σ = some (rv, σ1)) : Met l yX11_in (Cond.code yX11_in cX11_in 3 (some .boolean) :: tb) (mm_rm 0 0) (mm_pre D ad cA [.int x0, .int x1, .int x2] σ) (mm_Q D ad cA (some (.int rv)) σ1) 0 0 (mm_AS ad) := by
  refine mm_start (by decide +kernel) hI (Nat.le_of_ble_eq_true rfl) ?_
  intro p e s m args below meth c X hP ls hl
  have hl : lv_has ls 3 [(0, .int x0), (1, .int x1), (2, .int x2)] := hl
  have hx := X.1
  have hb := X.2.1
  have hS : va_S (mm_AS ad) s.heap s.heap [] := va_S.rf
  have hgen : ∀ (H : Heap) (locs : List Loc), va_P D vwCl (mm_wd ad cA σ) H → va_S (mm_AS ad) s.heap H locs → W p l e (mm_rm 0 0) s m args below meth c H locs 0 0 (MQ below (mm_Q D ad cA (some (.int rv)) σ1) args s 0 0 (mm_AS ad)) (F0 m 0 ls []) := by
    intro H locs hP hS
    rw [fx_X11_in] at hf
    refine lv_iload_n hx hb dX11_in_0 rfl (lv_at hl 0 rfl) ?_
    refine lv_iload_n hx hb dX11_in_1 rfl (lv_at hl 1 rfl) ?_
    refine lv_icmp_lt (tgt := 14) hx hb dX11_in_2 (by decide) (fun c_1 => ?_) (fun c_1 => ?_)
    · replace hf := mm_it c_1 hf
      refine lv_iconst (v := (0 : Int32)) hx hb dX11_in_14 (by decide) ?_
      obtain ⟨rfl, rfl⟩ := mm_ret hf
      exact mm_zret (Or.inl rfl) X hP hS dX11_in_15
    · replace hf := mm_if c_1 hf
      refine lv_iload_n hx hb dX11_in_5 rfl (lv_at hl 0 rfl) ?_
      refine lv_iload_n hx hb dX11_in_6 rfl (lv_at hl 2 rfl) ?_
      refine lv_icmp_gt (tgt := 14) hx hb dX11_in_7 (by decide) (fun c_2 => ?_) (fun c_2 => ?_)
      · replace hf := mm_it c_2 hf
        refine lv_iconst (v := (0 : Int32)) hx hb dX11_in_14 (by decide) ?_
        obtain ⟨rfl, rfl⟩ := mm_ret hf
        exact mm_zret (Or.inl rfl) X hP hS dX11_in_15
      · replace hf := mm_if c_2 hf
        refine lv_iconst (v := (1 : Int32)) hx hb dX11_in_10 (by decide) ?_
        refine lv_goto (tgt := 15) hx hb dX11_in_11 (by decide) ?_
        obtain ⟨rfl, rfl⟩ := mm_ret hf
        exact mm_zret (Or.inr rfl) X hP hS dX11_in_15
  exact hgen _ _ hP hS
def fx_X11_isCell (x0 : Int32) (σ : mm_M) : mm_R := mm_bd (fx_X11_in x0 (0 : Int32) (63 : Int32) σ) fun r_1 s_1 => (mm_gd (r_1 = 0 ∨ r_1 = 1) (some (r_1, s_1)))
set_option maxHeartbeats 4000000 in
set_option maxRecDepth 100000 in
theorem cx_X11_isCell (l : Launch) (D : va_G) (ad : mm_A) (cA : Nat → ClassId) (hI : mm_Inj ad) (x0 : Int32)  (σ : mm_M) (rv : Int32) (σ1 : mm_M) (hf : fx_X11_isCell x0 σ = some (rv, σ1)) : Met l yX11_isCell (Cond.code yX11_isCell cX11_isCell 1 (some .boolean) :: tb) (mm_rm 1 22) (mm_pre D ad cA [.int x0] σ) (mm_Q D ad cA (some (.int rv)) σ1) 0 0 (mm_AS ad) := by
  refine mm_start (by decide +kernel) hI (Nat.le_of_ble_eq_true rfl) ?_
  intro p e s m args below meth c X hP ls hl
  have hl : lv_has ls 1 [(0, .int x0)] := hl
  have hx := X.1
  have hb := X.2.1
  have hS : va_S (mm_AS ad) s.heap s.heap [] := va_S.rf
  have hgen : ∀ (H : Heap) (locs : List Loc), va_P D vwCl (mm_wd ad cA σ) H → va_S (mm_AS ad) s.heap H locs → W p l e (mm_rm 1 22) s m args below meth c H locs 0 0 (MQ below (mm_Q D ad cA (some (.int rv)) σ1) args s 0 0 (mm_AS ad)) (F0 m 0 ls []) := by
    intro H locs hP hS
    rw [fx_X11_isCell] at hf
    refine lv_iload_n hx hb dX11_isCell_0 rfl (lv_at hl 0 rfl) ?_
    refine lv_iconst (v := (0 : Int32)) hx hb dX11_isCell_1 (by decide) ?_
    refine lv_bipush (v := (63 : Int32)) hx hb dX11_isCell_2 (by decide) ?_
    obtain ⟨r_1, s_1, e_1, hf⟩ := mm_bd_ok hf
    refine mm_callS X hP hS hl.1 [.int x0, .int (0 : Int32), .int (63 : Int32)] [] (cx_X11_in l D ad cA hI x0 (0 : Int32) (63 : Int32) σ r_1 s_1 e_1) wd_842 wd_843 wd_12 wd_844 hd_X11_in ⟨Nat.le_of_ble_eq_true rfl, Nat.le_of_ble_eq_true rfl⟩ rfl (Nat.le_of_ble_eq_true rfl) dX11_isCell_4 (fun H locs hP hS => ?_)
    obtain ⟨h_2, hf⟩ := mm_gd_ok hf
    obtain ⟨rfl, rfl⟩ := mm_ret hf
    exact mm_zret h_2 X hP hS dX11_isCell_7
  exact hgen _ _ hP hS
def fx_X11_of (x1 : Int32) (x2 : Int32) (σ : mm_M) : mm_R := mm_gd (mm_ix (((139 : Int32) + ((17 : Int32) * x1)) + x2) 207 = true) (some (σ 10 31 0 (((139 : Int32) + ((17 : Int32) * x1)) + x2).toNatClampNeg, σ))
set_option maxHeartbeats 4000000 in
set_option maxRecDepth 100000 in
theorem cx_X11_of (l : Launch) (D : va_G) (ad : mm_A) (cA : Nat → ClassId) (hI : mm_Inj ad) (x1 : Int32) (x2 : Int32)  (σ : mm_M) (rv : Int32) (σ1 : mm_M) (hf : fx_X11_of x1 x2 σ = some (rv, σ1)) : Met l yX11_of (Cond.code yX11_of cX11_of 3 (some .int) :: tb) (mm_rm 0 0) (mm_pre D ad cA [.ref (ad 10 30 0), .int x1, .int x2] σ) (mm_Q D ad cA (some (.int rv)) σ1) 0 0 (mm_AS ad) := by
  refine mm_start (by decide +kernel) hI (Nat.le_of_ble_eq_true rfl) ?_
  intro p e s m args below meth c X hP ls hl
  have hl : lv_has ls 3 [(0, .ref (ad 10 30 0)), (1, .int x1), (2, .int x2)] := hl
  have hx := X.1
  have hb := X.2.1
  have hS : va_S (mm_AS ad) s.heap s.heap [] := va_S.rf
  have hgen : ∀ (H : Heap) (locs : List Loc), va_P D vwCl (mm_wd ad cA σ) H → va_S (mm_AS ad) s.heap H locs → W p l e (mm_rm 0 0) s m args below meth c H locs 0 0 (MQ below (mm_Q D ad cA (some (.int rv)) σ1) args s 0 0 (mm_AS ad)) (F0 m 0 ls []) := by
    intro H locs hP hS
    rw [fx_X11_of] at hf
    refine lv_aload_n hx hb dX11_of_0 rfl (lv_at hl 0 rfl) ?_
    refine gf_30_0 X hP  wd_769 dX11_of_1 ?_
    refine lv_sipush (v := (139 : Int32)) hx hb dX11_of_4 (by decide) ?_
    refine lv_bipush (v := (17 : Int32)) hx hb dX11_of_7 (by decide) ?_
    refine lv_iload_n hx hb dX11_of_9 rfl (lv_at hl 1 rfl) ?_
    refine lv_imul hx hb dX11_of_10 ?_
    refine lv_iadd hx hb dX11_of_11 ?_
    refine lv_iload_n hx hb dX11_of_12 rfl (lv_at hl 2 rfl) ?_
    refine lv_iadd hx hb dX11_of_13 ?_
    obtain ⟨h_1, hf⟩ := mm_gd_ok hf
    refine al_31 X hP  h_1 dX11_of_14 ?_
    obtain ⟨rfl, rfl⟩ := mm_ret hf
    exact mm_iret X hP hS dX11_of_15
  exact hgen _ _ hP hS
def fx_X11_cartOn_J29 (x1 : Int32) (k4 : Int32 → Int32 → mm_M → mm_R) (v3 : Int32) (w0 : Int32) (σ : mm_M) : mm_R := mm_li (v3 + (1 : Int32)) fun y_4 => (k4 w0 y_4 σ)
set_option maxHeartbeats 4000000 in
set_option maxRecDepth 100000 in
theorem cx_X11_cartOn_J29 {p : Program} {l : Launch} {e : Env} {s : State} {m : MethodId} {args : Array Value} {below : List Frame} {meth : Method} {c : Code} {D : va_G} {ad : mm_A} {cA : Nat → ClassId} (x1 : Int32)  (rv : Int32) (σ1 : mm_M) (k4 : Int32 → Int32 → mm_M → mm_R) (hk4 : ∀ (v2 : Int32) (v3 : Int32) (σ : mm_M) (H : Heap) (locs : List Loc) (ls : Array Slot), k4 v2 v3 σ = some (rv, σ1) → va_P D vwCl (mm_wd ad cA σ) H → va_S (mm_AS ad) s.heap H locs → lv_has ls 4 [(0, .ref (ad 10 30 0)), (1, .int x1), (2, .int v2), (3, .int v3)] → W p l e (mm_rm 1 22) s m args below meth c H locs 0 0 (MQ below (mm_Q D ad cA (some (.int rv)) σ1) args s 0 0 (mm_AS ad)) (F0 m 4 ls [])) (X : mm_X p s m args meth c cX11_cartOn 4 (some .int) RX11 D ad cA) : ∀ (v3 : Int32) (w0 : Int32) (σ : mm_M) (H : Heap) (locs : List Loc) (ls : Array Slot), fx_X11_cartOn_J29 x1 k4 v3 w0 σ = some (rv, σ1) → va_P D vwCl (mm_wd ad cA σ) H → va_S (mm_AS ad) s.heap H locs → lv_has ls 4 [(0, .ref (ad 10 30 0)), (1, .int x1), (3, .int v3)] → W p l e (mm_rm 1 22) s m args below meth c H locs 0 0 (MQ below (mm_Q D ad cA (some (.int rv)) σ1) args s 0 0 (mm_AS ad)) (F0 m 29 ls [.int w0]) := by
  have hx := X.1
  have hb := X.2.1
  have hI := X.2.2.2.2.2.2.2.2.2
  intro v3 w0 σ H locs ls hf hP hS hl
  rw [fx_X11_cartOn_J29] at hf
  refine lv_istore_n (lv' := [(2, .int w0), (0, .ref (ad 10 30 0)), (1, .int x1), (3, .int v3)]) hx hb dX11_cartOn_29 rfl hl (by decide) rfl (fun ls hl => ?_)
  obtain ⟨y_4, e_4, hf⟩ := mm_li_ok hf
  refine lv_iinc (v := y_4) (lv' := [(3, .int y_4), (2, .int w0), (0, .ref (ad 10 30 0)), (1, .int x1)]) hx hb dX11_cartOn_30 hl (k := 3) rfl (by rw [e_4]; rfl) (by decide) rfl (fun ls hl => ?_)
  refine lv_goto (tgt := 4) hx hb dX11_cartOn_33 (by decide) ?_
  exact hk4 w0 y_4 σ H locs ls  hf hP hS (lv_sub hl [2, 3, 1, 0] rfl)
def fx_X11_cartOn_L4 (x1 : Int32)  : Nat → Int32 → Int32 → mm_M → mm_R
  | 0, _, _, _ => none
  | fu + 1, v2, v3, σ => if (σ 10 31 0 (0 : Int32).toNatClampNeg) ≤ v3 then some (v2, σ) else mm_bd (fx_X11_of v3 (1 : Int32) σ) fun r_2 s_2 => (if r_2 = x1 then fx_X11_cartOn_J29 x1 (fun z0 z1 z => fx_X11_cartOn_L4 x1 fu z0 z1 z) v3 v3 s_2 else fx_X11_cartOn_J29 x1 (fun z0 z1 z => fx_X11_cartOn_L4 x1 fu z0 z1 z) v3 v2 s_2)
set_option maxHeartbeats 4000000 in
set_option maxRecDepth 100000 in
theorem cx_X11_cartOn_L4 {p : Program} {l : Launch} {e : Env} {s : State} {m : MethodId} {args : Array Value} {below : List Frame} {meth : Method} {c : Code} {D : va_G} {ad : mm_A} {cA : Nat → ClassId} (x1 : Int32)  (rv : Int32) (σ1 : mm_M)  (X : mm_X p s m args meth c cX11_cartOn 4 (some .int) RX11 D ad cA) : ∀ (fu : Nat), ∀ (v2 : Int32) (v3 : Int32) (σ : mm_M) (H : Heap) (locs : List Loc) (ls : Array Slot), fx_X11_cartOn_L4 x1 fu v2 v3 σ = some (rv, σ1) → va_P D vwCl (mm_wd ad cA σ) H → va_S (mm_AS ad) s.heap H locs → lv_has ls 4 [(0, .ref (ad 10 30 0)), (1, .int x1), (2, .int v2), (3, .int v3)] → W p l e (mm_rm 1 22) s m args below meth c H locs 0 0 (MQ below (mm_Q D ad cA (some (.int rv)) σ1) args s 0 0 (mm_AS ad)) (F0 m 4 ls []) := by
  have hx := X.1
  have hb := X.2.1
  have hI := X.2.2.2.2.2.2.2.2.2
  intro fu
  induction fu with
  | zero =>
    intro v2 v3 σ H locs ls hf
    exact mm_no hf
  | succ fu ih =>
    intro v2 v3 σ H locs ls hf hP hS hl
    rw [fx_X11_cartOn_L4] at hf
    refine lv_iload_n hx hb dX11_cartOn_4 rfl (lv_at hl 3 rfl) ?_
    refine lv_aload_n hx hb dX11_cartOn_5 rfl (lv_at hl 0 rfl) ?_
    refine gf_30_0 X hP  wd_769 dX11_cartOn_6 ?_
    refine lv_iconst (v := (0 : Int32)) hx hb dX11_cartOn_9 (by decide) ?_
    refine al_31 X hP  (by decide : mm_ix (0 : Int32) 207 = true) dX11_cartOn_10 ?_
    refine lv_icmp_ge (tgt := 36) hx hb dX11_cartOn_11 (by decide) (fun c_1 => ?_) (fun c_1 => ?_)
    · replace hf := mm_it c_1 hf
      refine lv_iload_n hx hb dX11_cartOn_36 rfl (lv_at hl 2 rfl) ?_
      obtain ⟨rfl, rfl⟩ := mm_ret hf
      exact mm_iret X hP hS dX11_cartOn_37
    · replace hf := mm_if c_1 hf
      refine lv_aload_n hx hb dX11_cartOn_14 rfl (lv_at hl 0 rfl) ?_
      refine lv_iload_n hx hb dX11_cartOn_15 rfl (lv_at hl 3 rfl) ?_
      refine lv_iconst (v := (1 : Int32)) hx hb dX11_cartOn_16 (by decide) ?_
      obtain ⟨r_2, s_2, e_2, hf⟩ := mm_bd_ok hf
      refine mm_callV X hP hS hl.1 [.int v3, .int (1 : Int32)] [] (cx_X11_of l D ad cA hI v3 (1 : Int32) σ r_2 s_2 e_2) kp_30 rfl rfl wd_850 wd_852 wp_19 wd_12 wd_853 hd_X11_of ⟨Nat.le_of_ble_eq_true rfl, Nat.le_of_ble_eq_true rfl⟩ rfl (Nat.le_of_ble_eq_true rfl) dX11_cartOn_17 (fun H locs hP hS => ?_)
      refine lv_iload_n hx hb dX11_cartOn_20 rfl (lv_at hl 1 rfl) ?_
      refine lv_icmp_ne (tgt := 28) hx hb dX11_cartOn_21 (by decide) (fun c_3 => ?_) (fun c_3 => ?_)
      · replace hf := mm_if c_3 hf
        refine lv_iload_n hx hb dX11_cartOn_28 rfl (lv_at hl 2 rfl) ?_
        exact cx_X11_cartOn_J29 x1 rv σ1 (fun z0 z1 z => fx_X11_cartOn_L4 x1 fu z0 z1 z) ih X v3 v2 s_2 H locs ls hf hP hS (lv_sub hl [0, 1, 3] rfl)
      · replace hf := mm_it c_3 hf
        refine lv_iload_n hx hb dX11_cartOn_24 rfl (lv_at hl 3 rfl) ?_
        refine lv_goto (tgt := 29) hx hb dX11_cartOn_25 (by decide) ?_
        exact cx_X11_cartOn_J29 x1 rv σ1 (fun z0 z1 z => fx_X11_cartOn_L4 x1 fu z0 z1 z) ih X v3 v3 s_2 H locs ls hf hP hS (lv_sub hl [0, 1, 3] rfl)
def fx_X11_cartOn (x1 : Int32) (σ : mm_M) : mm_R := fx_X11_cartOn_L4 x1 mm_FU (-1 : Int32) (0 : Int32) σ
set_option maxHeartbeats 4000000 in
set_option maxRecDepth 100000 in
theorem cx_X11_cartOn (l : Launch) (D : va_G) (ad : mm_A) (cA : Nat → ClassId) (hI : mm_Inj ad) (x1 : Int32)  (σ : mm_M) (rv : Int32) (σ1 : mm_M) (hf : fx_X11_cartOn x1 σ = some (rv, σ1)) : Met l yX11_cartOn (Cond.code yX11_cartOn cX11_cartOn 4 (some .int) :: tb) (mm_rm 1 22) (mm_pre D ad cA [.ref (ad 10 30 0), .int x1] σ) (mm_Q D ad cA (some (.int rv)) σ1) 0 0 (mm_AS ad) := by
  refine mm_start (by decide +kernel) hI (Nat.le_of_ble_eq_true rfl) ?_
  intro p e s m args below meth c X hP ls hl
  have hl : lv_has ls 4 [(0, .ref (ad 10 30 0)), (1, .int x1)] := hl
  have hx := X.1
  have hb := X.2.1
  have hS : va_S (mm_AS ad) s.heap s.heap [] := va_S.rf
  have hgen : ∀ (H : Heap) (locs : List Loc), va_P D vwCl (mm_wd ad cA σ) H → va_S (mm_AS ad) s.heap H locs → W p l e (mm_rm 1 22) s m args below meth c H locs 0 0 (MQ below (mm_Q D ad cA (some (.int rv)) σ1) args s 0 0 (mm_AS ad)) (F0 m 0 ls []) := by
    intro H locs hP hS
    rw [fx_X11_cartOn] at hf
    refine lv_iconst (v := (-1 : Int32)) hx hb dX11_cartOn_0 (by decide) ?_
    refine lv_istore_n (lv' := [(2, .int (-1 : Int32)), (0, .ref (ad 10 30 0)), (1, .int x1)]) hx hb dX11_cartOn_1 rfl hl (by decide) rfl (fun ls hl => ?_)
    refine lv_iconst (v := (0 : Int32)) hx hb dX11_cartOn_2 (by decide) ?_
    refine lv_istore_n (lv' := [(3, .int (0 : Int32)), (2, .int (-1 : Int32)), (0, .ref (ad 10 30 0)), (1, .int x1)]) hx hb dX11_cartOn_3 rfl hl (by decide) rfl (fun ls hl => ?_)
    exact cx_X11_cartOn_L4 x1 rv σ1 X mm_FU (-1 : Int32) (0 : Int32) σ H locs ls hf hP hS (lv_sub hl [2, 3, 1, 0] rfl)
  exact hgen _ _ hP hS
def fx_X11_kinds_J37 (x1 : Int32) (x2 : Int32)   (σ : mm_M) : mm_R := mm_gd (mm_ix ((11 : Int32) + x1) 207 = true) (mm_li (σ 10 31 0 ((11 : Int32) + x1).toNatClampNeg) fun y_9 => (mm_gd (mm_ix ((11 : Int32) + x1) 207 = true) (mm_lt (mm_u σ 10 31 0 ((11 : Int32) + x1).toNatClampNeg x2) fun s_11 => (some (y_9, s_11)))))
set_option maxHeartbeats 4000000 in
set_option maxRecDepth 100000 in
theorem cx_X11_kinds_J37 {p : Program} {l : Launch} {e : Env} {s : State} {m : MethodId} {args : Array Value} {below : List Frame} {meth : Method} {c : Code} {D : va_G} {ad : mm_A} {cA : Nat → ClassId} (x1 : Int32) (x2 : Int32)  (rv : Int32) (σ1 : mm_M)  (X : mm_X p s m args meth c cX11_kinds 4 (some .int) RX11 D ad cA) : ∀ (σ : mm_M) (H : Heap) (locs : List Loc) (ls : Array Slot), fx_X11_kinds_J37 x1 x2  σ = some (rv, σ1) → va_P D vwCl (mm_wd ad cA σ) H → va_S (mm_AS ad) s.heap H locs → lv_has ls 4 [(0, .ref (ad 10 30 0)), (1, .int x1), (2, .int x2)] → W p l e (mm_rm 2 45) s m args below meth c H locs 0 0 (MQ below (mm_Q D ad cA (some (.int rv)) σ1) args s 0 0 (mm_AS ad)) (F0 m 37 ls []) := by
  have hx := X.1
  have hb := X.2.1
  have hI := X.2.2.2.2.2.2.2.2.2
  intro σ H locs ls hf hP hS hl
  rw [fx_X11_kinds_J37] at hf
  refine lv_aload_n hx hb dX11_kinds_37 rfl (lv_at hl 0 rfl) ?_
  refine gf_30_0 X hP  wd_769 dX11_kinds_38 ?_
  refine lv_bipush (v := (11 : Int32)) hx hb dX11_kinds_41 (by decide) ?_
  refine lv_iload_n hx hb dX11_kinds_43 rfl (lv_at hl 1 rfl) ?_
  refine lv_iadd hx hb dX11_kinds_44 ?_
  obtain ⟨h_8, hf⟩ := mm_gd_ok hf
  refine al_31 X hP  h_8 dX11_kinds_45 ?_
  obtain ⟨y_9, e_9, hf⟩ := mm_li_ok hf
  rw [← e_9]
  refine lv_istore_n (lv' := [(3, .int y_9), (0, .ref (ad 10 30 0)), (1, .int x1), (2, .int x2)]) hx hb dX11_kinds_46 rfl hl (by decide) rfl (fun ls hl => ?_)
  refine lv_aload_n hx hb dX11_kinds_47 rfl (lv_at hl 1 rfl) ?_
  refine gf_30_0 X hP  wd_769 dX11_kinds_48 ?_
  refine lv_bipush (v := (11 : Int32)) hx hb dX11_kinds_51 (by decide) ?_
  refine lv_iload_n hx hb dX11_kinds_53 rfl (lv_at hl 2 rfl) ?_
  refine lv_iadd hx hb dX11_kinds_54 ?_
  refine lv_iload_n hx hb dX11_kinds_55 rfl (lv_at hl 3 rfl) ?_
  obtain ⟨h_10, hf⟩ := mm_gd_ok hf
  refine as_31 X hP hS  h_10  dX11_kinds_56 (fun H locs hP hS => ?_)
  obtain ⟨s_11, e_11, hf⟩ := mm_lt_ok hf
  rw [← e_11] at hP
  refine lv_iload_n hx hb dX11_kinds_57 rfl (lv_at hl 0 rfl) ?_
  obtain ⟨rfl, rfl⟩ := mm_ret hf
  exact mm_iret X hP hS dX11_kinds_58
def fx_X11_kinds (x1 : Int32) (x2 : Int32) (σ : mm_M) : mm_R := mm_bd (fx_X11_isCell x1 σ) fun r_1 s_1 => (if r_1 = (0 : Int32) then some ((-1000001 : Int32), s_1) else mm_bd (fx_X11_in x2 (0 : Int32) (8 : Int32) s_1) fun r_3 s_3 => (if r_3 = (0 : Int32) then some ((-1000001 : Int32), s_3) else if x2 = (7 : Int32) then mm_bd (fx_X11_cartOn x1 s_3) fun r_6 s_6 => (if r_6 < (0 : Int32) then fx_X11_kinds_J37 x1 x2 s_6 else some ((-1000002 : Int32), s_6)) else fx_X11_kinds_J37 x1 x2 s_3))
set_option maxHeartbeats 4000000 in
set_option maxRecDepth 100000 in
theorem cx_X11_kinds (l : Launch) (D : va_G) (ad : mm_A) (cA : Nat → ClassId) (hI : mm_Inj ad) (x1 : Int32) (x2 : Int32)  (σ : mm_M) (rv : Int32) (σ1 : mm_M) (hf : fx_X11_kinds x1 x2 σ = some (rv, σ1)) : Met l yX11_kinds (Cond.code yX11_kinds cX11_kinds 4 (some .int) :: tb) (mm_rm 2 45) (mm_pre D ad cA [.ref (ad 10 30 0), .int x1, .int x2] σ) (mm_Q D ad cA (some (.int rv)) σ1) 0 0 (mm_AS ad) := by
  refine mm_start (by decide +kernel) hI (Nat.le_of_ble_eq_true rfl) ?_
  intro p e s m args below meth c X hP ls hl
  have hl : lv_has ls 4 [(0, .ref (ad 10 30 0)), (1, .int x1), (2, .int x2)] := hl
  have hx := X.1
  have hb := X.2.1
  have hS : va_S (mm_AS ad) s.heap s.heap [] := va_S.rf
  have hgen : ∀ (H : Heap) (locs : List Loc), va_P D vwCl (mm_wd ad cA σ) H → va_S (mm_AS ad) s.heap H locs → W p l e (mm_rm 2 45) s m args below meth c H locs 0 0 (MQ below (mm_Q D ad cA (some (.int rv)) σ1) args s 0 0 (mm_AS ad)) (F0 m 0 ls []) := by
    intro H locs hP hS
    rw [fx_X11_kinds] at hf
    refine lv_iload_n hx hb dX11_kinds_0 rfl (lv_at hl 1 rfl) ?_
    obtain ⟨r_1, s_1, e_1, hf⟩ := mm_bd_ok hf
    refine mm_callS X hP hS hl.1 [.int x1] [] (cx_X11_isCell l D ad cA hI x1 σ r_1 s_1 e_1) wd_839 wd_840 wd_12 wd_841 hd_X11_isCell ⟨Nat.le_of_ble_eq_true rfl, Nat.le_of_ble_eq_true rfl⟩ rfl (Nat.le_of_ble_eq_true rfl) dX11_kinds_1 (fun H locs hP hS => ?_)
    refine lv_if_eq (tgt := 17) hx hb dX11_kinds_4 (by decide) (fun c_2 => ?_) (fun c_2 => ?_)
    · replace hf := mm_it c_2 hf
      refine lv_ldc (v := (-1000001 : Int32)) hx hb X.2.2.2.2.2.1 (X.2.2.2.2.2.2.1 _ wd_845) dX11_kinds_17 ?_
      obtain ⟨rfl, rfl⟩ := mm_ret hf
      exact mm_iret X hP hS dX11_kinds_19
    · replace hf := mm_if c_2 hf
      refine lv_iload_n hx hb dX11_kinds_7 rfl (lv_at hl 2 rfl) ?_
      refine lv_iconst (v := (0 : Int32)) hx hb dX11_kinds_8 (by decide) ?_
      refine lv_bipush (v := (8 : Int32)) hx hb dX11_kinds_9 (by decide) ?_
      obtain ⟨r_3, s_3, e_3, hf⟩ := mm_bd_ok hf
      refine mm_callS X hP hS hl.1 [.int x2, .int (0 : Int32), .int (8 : Int32)] [] (cx_X11_in l D ad cA hI x2 (0 : Int32) (8 : Int32) s_1 r_3 s_3 e_3) wd_842 wd_843 wd_12 wd_844 hd_X11_in ⟨Nat.le_of_ble_eq_true rfl, Nat.le_of_ble_eq_true rfl⟩ rfl (Nat.le_of_ble_eq_true rfl) dX11_kinds_11 (fun H locs hP hS => ?_)
      refine lv_if_ne (tgt := 20) hx hb dX11_kinds_14 (by decide) (fun c_4 => ?_) (fun c_4 => ?_)
      · replace hf := mm_if c_4 hf
        refine lv_iload_n hx hb dX11_kinds_20 rfl (lv_at hl 2 rfl) ?_
        refine lv_bipush (v := (7 : Int32)) hx hb dX11_kinds_21 (by decide) ?_
        refine lv_icmp_ne (tgt := 37) hx hb dX11_kinds_23 (by decide) (fun c_5 => ?_) (fun c_5 => ?_)
        · replace hf := mm_if c_5 hf
          exact cx_X11_kinds_J37 x1 x2 rv σ1 X s_3 H locs ls hf hP hS (lv_sub hl [0, 1, 2] rfl)
        · replace hf := mm_it c_5 hf
          refine lv_aload_n hx hb dX11_kinds_26 rfl (lv_at hl 0 rfl) ?_
          refine lv_iload_n hx hb dX11_kinds_27 rfl (lv_at hl 1 rfl) ?_
          obtain ⟨r_6, s_6, e_6, hf⟩ := mm_bd_ok hf
          refine mm_callV X hP hS hl.1 [.int x1] [] (cx_X11_cartOn l D ad cA hI x1 s_3 r_6 s_6 e_6) kp_30 rfl rfl wd_846 wd_848 wp_18 wd_12 wd_849 hd_X11_cartOn ⟨Nat.le_of_ble_eq_true rfl, Nat.le_of_ble_eq_true rfl⟩ rfl (Nat.le_of_ble_eq_true rfl) dX11_kinds_28 (fun H locs hP hS => ?_)
          refine lv_if_lt (tgt := 37) hx hb dX11_kinds_31 (by decide) (fun c_7 => ?_) (fun c_7 => ?_)
          · replace hf := mm_it c_7 hf
            exact cx_X11_kinds_J37 x1 x2 rv σ1 X s_6 H locs ls hf hP hS (lv_sub hl [0, 1, 2] rfl)
          · replace hf := mm_if c_7 hf
            refine lv_ldc (v := (-1000002 : Int32)) hx hb X.2.2.2.2.2.1 (X.2.2.2.2.2.2.1 _ wd_854) dX11_kinds_34 ?_
            obtain ⟨rfl, rfl⟩ := mm_ret hf
            exact mm_iret X hP hS dX11_kinds_36
      · replace hf := mm_it c_4 hf
        refine lv_ldc (v := (-1000001 : Int32)) hx hb X.2.2.2.2.2.1 (X.2.2.2.2.2.2.1 _ wd_845) dX11_kinds_17 ?_
        obtain ⟨rfl, rfl⟩ := mm_ret hf
        exact mm_iret X hP hS dX11_kinds_19
  exact hgen _ _ hP hS
def fx_X11_returns_L2   : Nat → Int32 → mm_M → mm_R
  | 0, _, _ => none
  | fu + 1, v1, σ => if (207 : Int32) ≤ v1 then some (0, σ) else mm_gd (mm_ix v1 207 = true) (mm_gd (mm_ix v1 207 = true) (mm_lt (mm_u σ 10 31 0 v1.toNatClampNeg (σ 10 32 0 v1.toNatClampNeg)) fun s_4 => (mm_li (v1 + (1 : Int32)) fun y_5 => (fx_X11_returns_L2 fu y_5 s_4))))
set_option maxHeartbeats 4000000 in
set_option maxRecDepth 100000 in
theorem cx_X11_returns_L2 {p : Program} {l : Launch} {e : Env} {s : State} {m : MethodId} {args : Array Value} {below : List Frame} {meth : Method} {c : Code} {D : va_G} {ad : mm_A} {cA : Nat → ClassId}   (rv : Int32) (σ1 : mm_M)  (X : mm_X p s m args meth c cX11_returns 2 none RX11 D ad cA) : ∀ (fu : Nat), ∀ (v1 : Int32) (σ : mm_M) (H : Heap) (locs : List Loc) (ls : Array Slot), fx_X11_returns_L2  fu v1 σ = some (rv, σ1) → va_P D vwCl (mm_wd ad cA σ) H → va_S (mm_AS ad) s.heap H locs → lv_has ls 2 [(0, .ref (ad 10 30 0)), (1, .int v1)] → W p l e (mm_rm 0 0) s m args below meth c H locs 0 0 (MQ below (mm_Q D ad cA none σ1) args s 0 0 (mm_AS ad)) (F0 m 2 ls []) := by
  have hx := X.1
  have hb := X.2.1
  have hI := X.2.2.2.2.2.2.2.2.2
  intro fu
  induction fu with
  | zero =>
    intro v1 σ H locs ls hf
    exact mm_no hf
  | succ fu ih =>
    intro v1 σ H locs ls hf hP hS hl
    rw [fx_X11_returns_L2] at hf
    refine lv_iload_n hx hb dX11_returns_2 rfl (lv_at hl 1 rfl) ?_
    refine lv_sipush (v := (207 : Int32)) hx hb dX11_returns_3 (by decide) ?_
    refine lv_icmp_ge (tgt := 27) hx hb dX11_returns_6 (by decide) (fun c_1 => ?_) (fun c_1 => ?_)
    · replace hf := mm_it c_1 hf
      obtain ⟨rfl, rfl⟩ := mm_ret hf
      exact mm_vret X hP hS dX11_returns_27
    · replace hf := mm_if c_1 hf
      refine lv_aload_n hx hb dX11_returns_9 rfl (lv_at hl 0 rfl) ?_
      refine gf_30_0 X hP  wd_769 dX11_returns_10 ?_
      refine lv_iload_n hx hb dX11_returns_13 rfl (lv_at hl 1 rfl) ?_
      refine lv_aload_n hx hb dX11_returns_14 rfl (lv_at hl 0 rfl) ?_
      refine gf_30_1 X hP  wd_770 dX11_returns_15 ?_
      refine lv_iload_n hx hb dX11_returns_18 rfl (lv_at hl 1 rfl) ?_
      obtain ⟨h_2, hf⟩ := mm_gd_ok hf
      refine al_32 X hP  h_2 dX11_returns_19 ?_
      obtain ⟨h_3, hf⟩ := mm_gd_ok hf
      refine as_31 X hP hS  h_3  dX11_returns_20 (fun H locs hP hS => ?_)
      obtain ⟨s_4, e_4, hf⟩ := mm_lt_ok hf
      rw [← e_4] at hP
      obtain ⟨y_5, e_5, hf⟩ := mm_li_ok hf
      refine lv_iinc (v := y_5) (lv' := [(1, .int y_5), (0, .ref (ad 10 30 0))]) hx hb dX11_returns_21 hl (k := 1) rfl (by rw [e_5]; rfl) (by decide) rfl (fun ls hl => ?_)
      refine lv_goto (tgt := 2) hx hb dX11_returns_24 (by decide) ?_
      exact ih y_5 s_4 H locs ls  hf hP hS (lv_sub hl [1, 0] rfl)
def fx_X11_returns  (σ : mm_M) : mm_R := fx_X11_returns_L2 mm_FU (0 : Int32) σ
set_option maxHeartbeats 4000000 in
set_option maxRecDepth 100000 in
theorem cx_X11_returns (l : Launch) (D : va_G) (ad : mm_A) (cA : Nat → ClassId) (hI : mm_Inj ad)   (σ : mm_M) (rv : Int32) (σ1 : mm_M) (hf : fx_X11_returns  σ = some (rv, σ1)) : Met l yX11_returns (Cond.code yX11_returns cX11_returns 2 none :: tb) (mm_rm 0 0) (mm_pre D ad cA [.ref (ad 10 30 0)] σ) (mm_Q D ad cA none σ1) 0 0 (mm_AS ad) := by
  refine mm_start (by decide +kernel) hI (Nat.le_of_ble_eq_true rfl) ?_
  intro p e s m args below meth c X hP ls hl
  have hl : lv_has ls 2 [(0, .ref (ad 10 30 0))] := hl
  have hx := X.1
  have hb := X.2.1
  have hS : va_S (mm_AS ad) s.heap s.heap [] := va_S.rf
  have hgen : ∀ (H : Heap) (locs : List Loc), va_P D vwCl (mm_wd ad cA σ) H → va_S (mm_AS ad) s.heap H locs → W p l e (mm_rm 0 0) s m args below meth c H locs 0 0 (MQ below (mm_Q D ad cA none σ1) args s 0 0 (mm_AS ad)) (F0 m 0 ls []) := by
    intro H locs hP hS
    rw [fx_X11_returns] at hf
    refine lv_iconst (v := (0 : Int32)) hx hb dX11_returns_0 (by decide) ?_
    refine lv_istore_n (lv' := [(1, .int (0 : Int32)), (0, .ref (ad 10 30 0))]) hx hb dX11_returns_1 rfl hl (by decide) rfl (fun ls hl => ?_)
    exact cx_X11_returns_L2 rv σ1 X mm_FU (0 : Int32) σ H locs ls hf hP hS (lv_sub hl [1, 0] rfl)
  exact hgen _ _ hP hS
def fx_X11_acted_L63 (x1 : Int32)  : Nat → Int32 → mm_M → mm_R
  | 0, _, _ => none
  | fu + 1, v2, σ => if (207 : Int32) ≤ v2 then mm_lt (mm_u σ 10 30 0 4 ((σ 10 30 0 4) + (1 : Int32))) fun s_5 => (some (x1, s_5)) else mm_gd (mm_ix v2 207 = true) (mm_gd (mm_ix (((207 : Int32) * (σ 10 30 0 4)) + v2) 828 = true) (mm_lt (mm_u σ 10 34 0 (((207 : Int32) * (σ 10 30 0 4)) + v2).toNatClampNeg (σ 10 32 0 v2.toNatClampNeg)) fun s_8 => (mm_li (v2 + (1 : Int32)) fun y_9 => (fx_X11_acted_L63 x1 fu y_9 s_8))))
set_option maxHeartbeats 4000000 in
set_option maxRecDepth 100000 in
theorem cx_X11_acted_L63 {p : Program} {l : Launch} {e : Env} {s : State} {m : MethodId} {args : Array Value} {below : List Frame} {meth : Method} {c : Code} {D : va_G} {ad : mm_A} {cA : Nat → ClassId} (x1 : Int32)  (rv : Int32) (σ1 : mm_M)  (X : mm_X p s m args meth c cX11_acted 3 (some .int) RX11 D ad cA) : ∀ (fu : Nat), ∀ (v2 : Int32) (σ : mm_M) (H : Heap) (locs : List Loc) (ls : Array Slot), fx_X11_acted_L63 x1 fu v2 σ = some (rv, σ1) → va_P D vwCl (mm_wd ad cA σ) H → va_S (mm_AS ad) s.heap H locs → lv_has ls 3 [(0, .ref (ad 10 30 0)), (1, .int x1), (2, .int v2)] → W p l e (mm_rm 1 21) s m args below meth c H locs 0 0 (MQ below (mm_Q D ad cA (some (.int rv)) σ1) args s 0 0 (mm_AS ad)) (F0 m 63 ls []) := by
  have hx := X.1
  have hb := X.2.1
  have hI := X.2.2.2.2.2.2.2.2.2
  intro fu
  induction fu with
  | zero =>
    intro v2 σ H locs ls hf
    exact mm_no hf
  | succ fu ih =>
    intro v2 σ H locs ls hf hP hS hl
    rw [fx_X11_acted_L63] at hf
    refine lv_iload_n hx hb dX11_acted_63 rfl (lv_at hl 2 rfl) ?_
    refine lv_sipush (v := (207 : Int32)) hx hb dX11_acted_64 (by decide) ?_
    refine lv_icmp_ge (tgt := 97) hx hb dX11_acted_67 (by decide) (fun c_4 => ?_) (fun c_4 => ?_)
    · replace hf := mm_it c_4 hf
      refine lv_aload_n hx hb dX11_acted_97 rfl (lv_at hl 0 rfl) ?_
      refine lv_dup hx hb dX11_acted_98 rfl ?_
      refine gf_30_4 X hP  wd_773 dX11_acted_99 ?_
      refine lv_iconst (v := (1 : Int32)) hx hb dX11_acted_102 (by decide) ?_
      refine lv_iadd hx hb dX11_acted_103 ?_
      refine pf_30_4 X hP hS  wd_773  dX11_acted_104 (fun H locs hP hS => ?_)
      obtain ⟨s_5, e_5, hf⟩ := mm_lt_ok hf
      rw [← e_5] at hP
      refine lv_iload_n hx hb dX11_acted_107 rfl (lv_at hl 1 rfl) ?_
      obtain ⟨rfl, rfl⟩ := mm_ret hf
      exact mm_iret X hP hS dX11_acted_108
    · replace hf := mm_if c_4 hf
      refine lv_aload_n hx hb dX11_acted_70 rfl (lv_at hl 0 rfl) ?_
      refine gf_30_3 X hP  wd_772 dX11_acted_71 ?_
      refine lv_sipush (v := (207 : Int32)) hx hb dX11_acted_74 (by decide) ?_
      refine lv_aload_n hx hb dX11_acted_77 rfl (lv_at hl 0 rfl) ?_
      refine gf_30_4 X hP  wd_773 dX11_acted_78 ?_
      refine lv_imul hx hb dX11_acted_81 ?_
      refine lv_iload_n hx hb dX11_acted_82 rfl (lv_at hl 2 rfl) ?_
      refine lv_iadd hx hb dX11_acted_83 ?_
      refine lv_aload_n hx hb dX11_acted_84 rfl (lv_at hl 0 rfl) ?_
      refine gf_30_1 X hP  wd_770 dX11_acted_85 ?_
      refine lv_iload_n hx hb dX11_acted_88 rfl (lv_at hl 2 rfl) ?_
      obtain ⟨h_6, hf⟩ := mm_gd_ok hf
      refine al_32 X hP  h_6 dX11_acted_89 ?_
      obtain ⟨h_7, hf⟩ := mm_gd_ok hf
      refine as_34 X hP hS  h_7  dX11_acted_90 (fun H locs hP hS => ?_)
      obtain ⟨s_8, e_8, hf⟩ := mm_lt_ok hf
      rw [← e_8] at hP
      obtain ⟨y_9, e_9, hf⟩ := mm_li_ok hf
      refine lv_iinc (v := y_9) (lv' := [(2, .int y_9), (0, .ref (ad 10 30 0)), (1, .int x1)]) hx hb dX11_acted_91 hl (k := 2) rfl (by rw [e_9]; rfl) (by decide) rfl (fun ls hl => ?_)
      refine lv_goto (tgt := 63) hx hb dX11_acted_94 (by decide) ?_
      exact ih y_9 s_8 H locs ls  hf hP hS (lv_sub hl [1, 2, 0] rfl)
def fx_X11_acted_L22 (x1 : Int32)  : Nat → Int32 → mm_M → mm_R
  | 0, _, _ => none
  | fu + 1, v2, σ => if (621 : Int32) ≤ v2 then mm_lt (mm_u σ 10 30 0 4 ((σ 10 30 0 4) - (1 : Int32))) fun s_11 => (fx_X11_acted_L63 x1 mm_FU (0 : Int32) s_11) else mm_gd (mm_ix (v2 + (207 : Int32)) 828 = true) (mm_gd (mm_ix v2 828 = true) (mm_lt (mm_u σ 10 34 0 v2.toNatClampNeg (σ 10 34 0 (v2 + (207 : Int32)).toNatClampNeg)) fun s_14 => (mm_li (v2 + (1 : Int32)) fun y_15 => (fx_X11_acted_L22 x1 fu y_15 s_14))))
set_option maxHeartbeats 4000000 in
set_option maxRecDepth 100000 in
theorem cx_X11_acted_L22 {p : Program} {l : Launch} {e : Env} {s : State} {m : MethodId} {args : Array Value} {below : List Frame} {meth : Method} {c : Code} {D : va_G} {ad : mm_A} {cA : Nat → ClassId} (x1 : Int32)  (rv : Int32) (σ1 : mm_M)  (X : mm_X p s m args meth c cX11_acted 3 (some .int) RX11 D ad cA) : ∀ (fu : Nat), ∀ (v2 : Int32) (σ : mm_M) (H : Heap) (locs : List Loc) (ls : Array Slot), fx_X11_acted_L22 x1 fu v2 σ = some (rv, σ1) → va_P D vwCl (mm_wd ad cA σ) H → va_S (mm_AS ad) s.heap H locs → lv_has ls 3 [(0, .ref (ad 10 30 0)), (1, .int x1), (2, .int v2)] → W p l e (mm_rm 1 21) s m args below meth c H locs 0 0 (MQ below (mm_Q D ad cA (some (.int rv)) σ1) args s 0 0 (mm_AS ad)) (F0 m 22 ls []) := by
  have hx := X.1
  have hb := X.2.1
  have hI := X.2.2.2.2.2.2.2.2.2
  intro fu
  induction fu with
  | zero =>
    intro v2 σ H locs ls hf
    exact mm_no hf
  | succ fu ih =>
    intro v2 σ H locs ls hf hP hS hl
    rw [fx_X11_acted_L22] at hf
    refine lv_iload_n hx hb dX11_acted_22 rfl (lv_at hl 2 rfl) ?_
    refine lv_sipush (v := (621 : Int32)) hx hb dX11_acted_23 (by decide) ?_
    refine lv_icmp_ge (tgt := 51) hx hb dX11_acted_26 (by decide) (fun c_10 => ?_) (fun c_10 => ?_)
    · replace hf := mm_it c_10 hf
      refine lv_aload_n hx hb dX11_acted_51 rfl (lv_at hl 0 rfl) ?_
      refine lv_dup hx hb dX11_acted_52 rfl ?_
      refine gf_30_4 X hP  wd_773 dX11_acted_53 ?_
      refine lv_iconst (v := (1 : Int32)) hx hb dX11_acted_56 (by decide) ?_
      refine lv_isub hx hb dX11_acted_57 ?_
      refine pf_30_4 X hP hS  wd_773  dX11_acted_58 (fun H locs hP hS => ?_)
      obtain ⟨s_11, e_11, hf⟩ := mm_lt_ok hf
      rw [← e_11] at hP
      refine lv_iconst (v := (0 : Int32)) hx hb dX11_acted_61 (by decide) ?_
      refine lv_istore_n (lv' := [(2, .int (0 : Int32)), (0, .ref (ad 10 30 0)), (1, .int x1)]) hx hb dX11_acted_62 rfl hl (by decide) rfl (fun ls hl => ?_)
      exact cx_X11_acted_L63 x1 rv σ1 X mm_FU (0 : Int32) s_11 H locs ls hf hP hS (lv_sub hl [1, 2, 0] rfl)
    · replace hf := mm_if c_10 hf
      refine lv_aload_n hx hb dX11_acted_29 rfl (lv_at hl 0 rfl) ?_
      refine gf_30_3 X hP  wd_772 dX11_acted_30 ?_
      refine lv_iload_n hx hb dX11_acted_33 rfl (lv_at hl 2 rfl) ?_
      refine lv_aload_n hx hb dX11_acted_34 rfl (lv_at hl 0 rfl) ?_
      refine gf_30_3 X hP  wd_772 dX11_acted_35 ?_
      refine lv_iload_n hx hb dX11_acted_38 rfl (lv_at hl 2 rfl) ?_
      refine lv_sipush (v := (207 : Int32)) hx hb dX11_acted_39 (by decide) ?_
      refine lv_iadd hx hb dX11_acted_42 ?_
      obtain ⟨h_12, hf⟩ := mm_gd_ok hf
      refine al_34 X hP  h_12 dX11_acted_43 ?_
      obtain ⟨h_13, hf⟩ := mm_gd_ok hf
      refine as_34 X hP hS  h_13  dX11_acted_44 (fun H locs hP hS => ?_)
      obtain ⟨s_14, e_14, hf⟩ := mm_lt_ok hf
      rw [← e_14] at hP
      obtain ⟨y_15, e_15, hf⟩ := mm_li_ok hf
      refine lv_iinc (v := y_15) (lv' := [(2, .int y_15), (0, .ref (ad 10 30 0)), (1, .int x1)]) hx hb dX11_acted_45 hl (k := 2) rfl (by rw [e_15]; rfl) (by decide) rfl (fun ls hl => ?_)
      refine lv_goto (tgt := 22) hx hb dX11_acted_48 (by decide) ?_
      exact ih y_15 s_14 H locs ls  hf hP hS (lv_sub hl [1, 2, 0] rfl)
def fx_X11_acted (x1 : Int32) (σ : mm_M) : mm_R := if (-1000001 : Int32) < x1 then if (σ 10 30 0 4) = (4 : Int32) then fx_X11_acted_L22 x1 mm_FU (0 : Int32) σ else fx_X11_acted_L63 x1 mm_FU (0 : Int32) σ else mm_bd (fx_X11_returns  σ) fun _ s_3 => (some (x1, s_3))
set_option maxHeartbeats 4000000 in
set_option maxRecDepth 100000 in
theorem cx_X11_acted (l : Launch) (D : va_G) (ad : mm_A) (cA : Nat → ClassId) (hI : mm_Inj ad) (x1 : Int32)  (σ : mm_M) (rv : Int32) (σ1 : mm_M) (hf : fx_X11_acted x1 σ = some (rv, σ1)) : Met l yX11_acted (Cond.code yX11_acted cX11_acted 3 (some .int) :: tb) (mm_rm 1 21) (mm_pre D ad cA [.ref (ad 10 30 0), .int x1] σ) (mm_Q D ad cA (some (.int rv)) σ1) 0 0 (mm_AS ad) := by
  refine mm_start (by decide +kernel) hI (Nat.le_of_ble_eq_true rfl) ?_
  intro p e s m args below meth c X hP ls hl
  have hl : lv_has ls 3 [(0, .ref (ad 10 30 0)), (1, .int x1)] := hl
  have hx := X.1
  have hb := X.2.1
  have hS : va_S (mm_AS ad) s.heap s.heap [] := va_S.rf
  have hgen : ∀ (H : Heap) (locs : List Loc), va_P D vwCl (mm_wd ad cA σ) H → va_S (mm_AS ad) s.heap H locs → W p l e (mm_rm 1 21) s m args below meth c H locs 0 0 (MQ below (mm_Q D ad cA (some (.int rv)) σ1) args s 0 0 (mm_AS ad)) (F0 m 0 ls []) := by
    intro H locs hP hS
    rw [fx_X11_acted] at hf
    refine lv_iload_n hx hb dX11_acted_0 rfl (lv_at hl 1 rfl) ?_
    refine lv_ldc (v := (-1000001 : Int32)) hx hb X.2.2.2.2.2.1 (X.2.2.2.2.2.2.1 _ wd_845) dX11_acted_1 ?_
    refine lv_icmp_gt (tgt := 12) hx hb dX11_acted_3 (by decide) (fun c_1 => ?_) (fun c_1 => ?_)
    · replace hf := mm_it c_1 hf
      refine lv_aload_n hx hb dX11_acted_12 rfl (lv_at hl 0 rfl) ?_
      refine gf_30_4 X hP  wd_773 dX11_acted_13 ?_
      refine lv_iconst (v := (4 : Int32)) hx hb dX11_acted_16 (by decide) ?_
      refine lv_icmp_ne (tgt := 61) hx hb dX11_acted_17 (by decide) (fun c_2 => ?_) (fun c_2 => ?_)
      · replace hf := mm_if c_2 hf
        refine lv_iconst (v := (0 : Int32)) hx hb dX11_acted_61 (by decide) ?_
        refine lv_istore_n (lv' := [(2, .int (0 : Int32)), (0, .ref (ad 10 30 0)), (1, .int x1)]) hx hb dX11_acted_62 rfl hl (by decide) rfl (fun ls hl => ?_)
        exact cx_X11_acted_L63 x1 rv σ1 X mm_FU (0 : Int32) σ H locs ls hf hP hS (lv_sub hl [1, 2, 0] rfl)
      · replace hf := mm_it c_2 hf
        refine lv_iconst (v := (0 : Int32)) hx hb dX11_acted_20 (by decide) ?_
        refine lv_istore_n (lv' := [(2, .int (0 : Int32)), (0, .ref (ad 10 30 0)), (1, .int x1)]) hx hb dX11_acted_21 rfl hl (by decide) rfl (fun ls hl => ?_)
        exact cx_X11_acted_L22 x1 rv σ1 X mm_FU (0 : Int32) σ H locs ls hf hP hS (lv_sub hl [1, 2, 0] rfl)
    · replace hf := mm_if c_1 hf
      refine lv_aload_n hx hb dX11_acted_6 rfl (lv_at hl 0 rfl) ?_
      obtain ⟨r_3, s_3, e_3, hf⟩ := mm_bd_ok hf
      refine mm_callV X hP hS hl.1 [] [] (cx_X11_returns l D ad cA hI  σ r_3 s_3 e_3) kp_30 rfl rfl wd_859 wd_861 wp_21 wd_12 wd_862 hd_X11_returns ⟨Nat.le_of_ble_eq_true rfl, Nat.le_of_ble_eq_true rfl⟩ rfl (Nat.le_of_ble_eq_true rfl) dX11_acted_7 (fun H locs hP hS => ?_)
      refine lv_iload_n hx hb dX11_acted_10 rfl (lv_at hl 1 rfl) ?_
      obtain ⟨rfl, rfl⟩ := mm_ret hf
      exact mm_iret X hP hS dX11_acted_11
  exact hgen _ _ hP hS
def fx_X11_kind (x1 : Int32) (x2 : Int32) (σ : mm_M) : mm_R := mm_bd (fx_X11_begins  σ) fun _ s_1 => (mm_bd (fx_X11_kinds x1 x2 s_1) fun r_2 s_2 => (mm_bd (fx_X11_acted r_2 s_2) fun r_3 s_3 => (some (r_3, s_3))))
set_option maxHeartbeats 4000000 in
set_option maxRecDepth 100000 in
theorem cx_X11_kind (l : Launch) (D : va_G) (ad : mm_A) (cA : Nat → ClassId) (hI : mm_Inj ad) (x1 : Int32) (x2 : Int32)  (σ : mm_M) (rv : Int32) (σ1 : mm_M) (hf : fx_X11_kind x1 x2 σ = some (rv, σ1)) : Met l yX11_kind (Cond.code yX11_kind cX11_kind 3 (some .int) :: tb) (mm_rm 3 68) (mm_pre D ad cA [.ref (ad 10 30 0), .int x1, .int x2] σ) (mm_Q D ad cA (some (.int rv)) σ1) 0 0 (mm_AS ad) := by
  refine mm_start (by decide +kernel) hI (Nat.le_of_ble_eq_true rfl) ?_
  intro p e s m args below meth c X hP ls hl
  have hl : lv_has ls 3 [(0, .ref (ad 10 30 0)), (1, .int x1), (2, .int x2)] := hl
  have hx := X.1
  have hb := X.2.1
  have hS : va_S (mm_AS ad) s.heap s.heap [] := va_S.rf
  have hgen : ∀ (H : Heap) (locs : List Loc), va_P D vwCl (mm_wd ad cA σ) H → va_S (mm_AS ad) s.heap H locs → W p l e (mm_rm 3 68) s m args below meth c H locs 0 0 (MQ below (mm_Q D ad cA (some (.int rv)) σ1) args s 0 0 (mm_AS ad)) (F0 m 0 ls []) := by
    intro H locs hP hS
    rw [fx_X11_kind] at hf
    refine lv_aload_n hx hb dX11_kind_0 rfl (lv_at hl 0 rfl) ?_
    obtain ⟨r_1, s_1, e_1, hf⟩ := mm_bd_ok hf
    refine mm_callV X hP hS hl.1 [] [] (cx_X11_begins l D ad cA hI  σ r_1 s_1 e_1) kp_30 rfl rfl wd_831 wd_833 wp_16 wd_12 wd_834 hd_X11_begins ⟨Nat.le_of_ble_eq_true rfl, Nat.le_of_ble_eq_true rfl⟩ rfl (Nat.le_of_ble_eq_true rfl) dX11_kind_1 (fun H locs hP hS => ?_)
    refine lv_aload_n hx hb dX11_kind_4 rfl (lv_at hl 0 rfl) ?_
    refine lv_aload_n hx hb dX11_kind_5 rfl (lv_at hl 0 rfl) ?_
    refine lv_iload_n hx hb dX11_kind_6 rfl (lv_at hl 1 rfl) ?_
    refine lv_iload_n hx hb dX11_kind_7 rfl (lv_at hl 2 rfl) ?_
    obtain ⟨r_2, s_2, e_2, hf⟩ := mm_bd_ok hf
    refine mm_callV X hP hS hl.1 [.int x1, .int x2] [.ref (ad 10 30 0)] (cx_X11_kinds l D ad cA hI x1 x2 s_1 r_2 s_2 e_2) kp_30 rfl rfl wd_835 wd_837 wp_17 wd_12 wd_838 hd_X11_kinds ⟨Nat.le_of_ble_eq_true rfl, Nat.le_of_ble_eq_true rfl⟩ rfl (Nat.le_of_ble_eq_true rfl) dX11_kind_8 (fun H locs hP hS => ?_)
    obtain ⟨r_3, s_3, e_3, hf⟩ := mm_bd_ok hf
    refine mm_callV X hP hS hl.1 [.int r_2] [] (cx_X11_acted l D ad cA hI r_2 s_2 r_3 s_3 e_3) kp_30 rfl rfl wd_855 wd_857 wp_20 wd_12 wd_858 hd_X11_acted ⟨Nat.le_of_ble_eq_true rfl, Nat.le_of_ble_eq_true rfl⟩ rfl (Nat.le_of_ble_eq_true rfl) dX11_kind_11 (fun H locs hP hS => ?_)
    obtain ⟨rfl, rfl⟩ := mm_ret hf
    exact mm_iret X hP hS dX11_kind_14
  exact hgen _ _ hP hS
def fx_X11_next_J47 (x0 : Int32) (x1 : Int32)  (v2 : Int32) (w0 : Int32) (w1 : Int32) (σ : mm_M) : mm_R := mm_li (w0 + w1) fun y_6 => (mm_bd (fx_X11_in v2 (0 : Int32) (7 : Int32) σ) fun r_7 s_7 => (if r_7 = (0 : Int32) then some ((-1 : Int32), s_7) else mm_bd (fx_X11_in y_6 (0 : Int32) (7 : Int32) s_7) fun r_9 s_9 => (if r_9 = (0 : Int32) then some ((-1 : Int32), s_9) else some (((8 : Int32) * y_6) + v2, s_9))))
set_option maxHeartbeats 4000000 in
set_option maxRecDepth 100000 in
theorem cx_X11_next_J47 {p : Program} {l : Launch} {e : Env} {s : State} {m : MethodId} {args : Array Value} {below : List Frame} {meth : Method} {c : Code} {D : va_G} {ad : mm_A} {cA : Nat → ClassId} (x0 : Int32) (x1 : Int32)  (rv : Int32) (σ1 : mm_M)  (X : mm_X p s m args meth c cX11_next 4 (some .int) RX11 D ad cA) : ∀ (v2 : Int32) (w0 : Int32) (w1 : Int32) (σ : mm_M) (H : Heap) (locs : List Loc) (ls : Array Slot), fx_X11_next_J47 x0 x1 v2 w0 w1 σ = some (rv, σ1) → va_P D vwCl (mm_wd ad cA σ) H → va_S (mm_AS ad) s.heap H locs → lv_has ls 4 [(2, .int v2)] → W p l e (mm_rm 1 22) s m args below meth c H locs 0 0 (MQ below (mm_Q D ad cA (some (.int rv)) σ1) args s 0 0 (mm_AS ad)) (F0 m 47 ls [.int w1, .int w0]) := by
  have hx := X.1
  have hb := X.2.1
  have hI := X.2.2.2.2.2.2.2.2.2
  intro v2 w0 w1 σ H locs ls hf hP hS hl
  rw [fx_X11_next_J47] at hf
  refine lv_iadd hx hb dX11_next_47 ?_
  obtain ⟨y_6, e_6, hf⟩ := mm_li_ok hf
  rw [← e_6]
  refine lv_istore_n (lv' := [(3, .int y_6), (2, .int v2)]) hx hb dX11_next_48 rfl hl (by decide) rfl (fun ls hl => ?_)
  refine lv_iload_n hx hb dX11_next_49 rfl (lv_at hl 1 rfl) ?_
  refine lv_iconst (v := (0 : Int32)) hx hb dX11_next_50 (by decide) ?_
  refine lv_bipush (v := (7 : Int32)) hx hb dX11_next_51 (by decide) ?_
  obtain ⟨r_7, s_7, e_7, hf⟩ := mm_bd_ok hf
  refine mm_callS X hP hS hl.1 [.int v2, .int (0 : Int32), .int (7 : Int32)] [] (cx_X11_in l D ad cA hI v2 (0 : Int32) (7 : Int32) σ r_7 s_7 e_7) wd_842 wd_843 wd_12 wd_844 hd_X11_in ⟨Nat.le_of_ble_eq_true rfl, Nat.le_of_ble_eq_true rfl⟩ rfl (Nat.le_of_ble_eq_true rfl) dX11_next_53 (fun H locs hP hS => ?_)
  refine lv_if_eq (tgt := 78) hx hb dX11_next_56 (by decide) (fun c_8 => ?_) (fun c_8 => ?_)
  · replace hf := mm_it c_8 hf
    refine lv_iconst (v := (-1 : Int32)) hx hb dX11_next_78 (by decide) ?_
    obtain ⟨rfl, rfl⟩ := mm_ret hf
    exact mm_iret X hP hS dX11_next_79
  · replace hf := mm_if c_8 hf
    refine lv_iload_n hx hb dX11_next_59 rfl (lv_at hl 0 rfl) ?_
    refine lv_iconst (v := (0 : Int32)) hx hb dX11_next_60 (by decide) ?_
    refine lv_bipush (v := (7 : Int32)) hx hb dX11_next_61 (by decide) ?_
    obtain ⟨r_9, s_9, e_9, hf⟩ := mm_bd_ok hf
    refine mm_callS X hP hS hl.1 [.int y_6, .int (0 : Int32), .int (7 : Int32)] [] (cx_X11_in l D ad cA hI y_6 (0 : Int32) (7 : Int32) s_7 r_9 s_9 e_9) wd_842 wd_843 wd_12 wd_844 hd_X11_in ⟨Nat.le_of_ble_eq_true rfl, Nat.le_of_ble_eq_true rfl⟩ rfl (Nat.le_of_ble_eq_true rfl) dX11_next_63 (fun H locs hP hS => ?_)
    refine lv_if_eq (tgt := 78) hx hb dX11_next_66 (by decide) (fun c_10 => ?_) (fun c_10 => ?_)
    · replace hf := mm_it c_10 hf
      refine lv_iconst (v := (-1 : Int32)) hx hb dX11_next_78 (by decide) ?_
      obtain ⟨rfl, rfl⟩ := mm_ret hf
      exact mm_iret X hP hS dX11_next_79
    · replace hf := mm_if c_10 hf
      refine lv_bipush (v := (8 : Int32)) hx hb dX11_next_69 (by decide) ?_
      refine lv_iload_n hx hb dX11_next_71 rfl (lv_at hl 0 rfl) ?_
      refine lv_imul hx hb dX11_next_72 ?_
      refine lv_iload_n hx hb dX11_next_73 rfl (lv_at hl 1 rfl) ?_
      refine lv_iadd hx hb dX11_next_74 ?_
      refine lv_goto (tgt := 79) hx hb dX11_next_75 (by decide) ?_
      obtain ⟨rfl, rfl⟩ := mm_ret hf
      exact mm_iret X hP hS dX11_next_79
def fx_X11_next_J23 (x0 : Int32) (x1 : Int32)  (w0 : Int32) (w1 : Int32) (σ : mm_M) : mm_R := mm_li (w0 + w1) fun y_3 => (if x1 = (2 : Int32) then fx_X11_next_J47 x0 x1 y_3 (x0 / (8 : Int32)) (1 : Int32) σ else if x1 = (0 : Int32) then fx_X11_next_J47 x0 x1 y_3 (x0 / (8 : Int32)) (-1 : Int32) σ else fx_X11_next_J47 x0 x1 y_3 (x0 / (8 : Int32)) (0 : Int32) σ)
set_option maxHeartbeats 4000000 in
set_option maxRecDepth 100000 in
theorem cx_X11_next_J23 {p : Program} {l : Launch} {e : Env} {s : State} {m : MethodId} {args : Array Value} {below : List Frame} {meth : Method} {c : Code} {D : va_G} {ad : mm_A} {cA : Nat → ClassId} (x0 : Int32) (x1 : Int32)  (rv : Int32) (σ1 : mm_M)  (X : mm_X p s m args meth c cX11_next 4 (some .int) RX11 D ad cA) : ∀ (w0 : Int32) (w1 : Int32) (σ : mm_M) (H : Heap) (locs : List Loc) (ls : Array Slot), fx_X11_next_J23 x0 x1 w0 w1 σ = some (rv, σ1) → va_P D vwCl (mm_wd ad cA σ) H → va_S (mm_AS ad) s.heap H locs → lv_has ls 4 [(0, .int x0), (1, .int x1)] → W p l e (mm_rm 1 22) s m args below meth c H locs 0 0 (MQ below (mm_Q D ad cA (some (.int rv)) σ1) args s 0 0 (mm_AS ad)) (F0 m 23 ls [.int w1, .int w0]) := by
  have hx := X.1
  have hb := X.2.1
  have hI := X.2.2.2.2.2.2.2.2.2
  intro w0 w1 σ H locs ls hf hP hS hl
  rw [fx_X11_next_J23] at hf
  refine lv_iadd hx hb dX11_next_23 ?_
  obtain ⟨y_3, e_3, hf⟩ := mm_li_ok hf
  rw [← e_3]
  refine lv_istore_n (lv' := [(2, .int y_3), (0, .int x0), (1, .int x1)]) hx hb dX11_next_24 rfl hl (by decide) rfl (fun ls hl => ?_)
  refine lv_iload_n hx hb dX11_next_25 rfl (lv_at hl 1 rfl) ?_
  refine lv_bipush (v := (8 : Int32)) hx hb dX11_next_26 (by decide) ?_
  refine lv_idiv hx hb dX11_next_28 (by decide) ?_
  refine lv_iload_n hx hb dX11_next_29 rfl (lv_at hl 2 rfl) ?_
  refine lv_iconst (v := (2 : Int32)) hx hb dX11_next_30 (by decide) ?_
  refine lv_icmp_ne (tgt := 38) hx hb dX11_next_31 (by decide) (fun c_4 => ?_) (fun c_4 => ?_)
  · replace hf := mm_if c_4 hf
    refine lv_iload_n hx hb dX11_next_38 rfl (lv_at hl 2 rfl) ?_
    refine lv_if_ne (tgt := 46) hx hb dX11_next_39 (by decide) (fun c_5 => ?_) (fun c_5 => ?_)
    · replace hf := mm_if c_5 hf
      refine lv_iconst (v := (0 : Int32)) hx hb dX11_next_46 (by decide) ?_
      exact cx_X11_next_J47 x0 x1 rv σ1 X y_3 (x0 / (8 : Int32)) (0 : Int32) σ H locs ls hf hP hS (lv_sub hl [0] rfl)
    · replace hf := mm_it c_5 hf
      refine lv_iconst (v := (-1 : Int32)) hx hb dX11_next_42 (by decide) ?_
      refine lv_goto (tgt := 47) hx hb dX11_next_43 (by decide) ?_
      exact cx_X11_next_J47 x0 x1 rv σ1 X y_3 (x0 / (8 : Int32)) (-1 : Int32) σ H locs ls hf hP hS (lv_sub hl [0] rfl)
  · replace hf := mm_it c_4 hf
    refine lv_iconst (v := (1 : Int32)) hx hb dX11_next_34 (by decide) ?_
    refine lv_goto (tgt := 47) hx hb dX11_next_35 (by decide) ?_
    exact cx_X11_next_J47 x0 x1 rv σ1 X y_3 (x0 / (8 : Int32)) (1 : Int32) σ H locs ls hf hP hS (lv_sub hl [0] rfl)
def fx_X11_next (x0 : Int32) (x1 : Int32) (σ : mm_M) : mm_R := if x1 = (1 : Int32) then fx_X11_next_J23 x0 x1 (x0 - x0 / (8 : Int32) * (8 : Int32)) (1 : Int32) σ else if x1 = (3 : Int32) then fx_X11_next_J23 x0 x1 (x0 - x0 / (8 : Int32) * (8 : Int32)) (-1 : Int32) σ else fx_X11_next_J23 x0 x1 (x0 - x0 / (8 : Int32) * (8 : Int32)) (0 : Int32) σ
set_option maxHeartbeats 4000000 in
set_option maxRecDepth 100000 in
theorem cx_X11_next (l : Launch) (D : va_G) (ad : mm_A) (cA : Nat → ClassId) (hI : mm_Inj ad) (x0 : Int32) (x1 : Int32)  (σ : mm_M) (rv : Int32) (σ1 : mm_M) (hf : fx_X11_next x0 x1 σ = some (rv, σ1)) : Met l yX11_next (Cond.code yX11_next cX11_next 4 (some .int) :: tb) (mm_rm 1 22) (mm_pre D ad cA [.int x0, .int x1] σ) (mm_Q D ad cA (some (.int rv)) σ1) 0 0 (mm_AS ad) := by
  refine mm_start (by decide +kernel) hI (Nat.le_of_ble_eq_true rfl) ?_
  intro p e s m args below meth c X hP ls hl
  have hl : lv_has ls 4 [(0, .int x0), (1, .int x1)] := hl
  have hx := X.1
  have hb := X.2.1
  have hS : va_S (mm_AS ad) s.heap s.heap [] := va_S.rf
  have hgen : ∀ (H : Heap) (locs : List Loc), va_P D vwCl (mm_wd ad cA σ) H → va_S (mm_AS ad) s.heap H locs → W p l e (mm_rm 1 22) s m args below meth c H locs 0 0 (MQ below (mm_Q D ad cA (some (.int rv)) σ1) args s 0 0 (mm_AS ad)) (F0 m 0 ls []) := by
    intro H locs hP hS
    rw [fx_X11_next] at hf
    refine lv_iload_n hx hb dX11_next_0 rfl (lv_at hl 0 rfl) ?_
    refine lv_bipush (v := (8 : Int32)) hx hb dX11_next_1 (by decide) ?_
    refine lv_irem hx hb dX11_next_3 (by decide) ?_
    refine lv_iload_n hx hb dX11_next_4 rfl (lv_at hl 1 rfl) ?_
    refine lv_iconst (v := (1 : Int32)) hx hb dX11_next_5 (by decide) ?_
    refine lv_icmp_ne (tgt := 13) hx hb dX11_next_6 (by decide) (fun c_1 => ?_) (fun c_1 => ?_)
    · replace hf := mm_if c_1 hf
      refine lv_iload_n hx hb dX11_next_13 rfl (lv_at hl 1 rfl) ?_
      refine lv_iconst (v := (3 : Int32)) hx hb dX11_next_14 (by decide) ?_
      refine lv_icmp_ne (tgt := 22) hx hb dX11_next_15 (by decide) (fun c_2 => ?_) (fun c_2 => ?_)
      · replace hf := mm_if c_2 hf
        refine lv_iconst (v := (0 : Int32)) hx hb dX11_next_22 (by decide) ?_
        exact cx_X11_next_J23 x0 x1 rv σ1 X (x0 - x0 / (8 : Int32) * (8 : Int32)) (0 : Int32) σ H locs ls hf hP hS (lv_sub hl [0, 1] rfl)
      · replace hf := mm_it c_2 hf
        refine lv_iconst (v := (-1 : Int32)) hx hb dX11_next_18 (by decide) ?_
        refine lv_goto (tgt := 23) hx hb dX11_next_19 (by decide) ?_
        exact cx_X11_next_J23 x0 x1 rv σ1 X (x0 - x0 / (8 : Int32) * (8 : Int32)) (-1 : Int32) σ H locs ls hf hP hS (lv_sub hl [0, 1] rfl)
    · replace hf := mm_it c_1 hf
      refine lv_iconst (v := (1 : Int32)) hx hb dX11_next_9 (by decide) ?_
      refine lv_goto (tgt := 23) hx hb dX11_next_10 (by decide) ?_
      exact cx_X11_next_J23 x0 x1 rv σ1 X (x0 - x0 / (8 : Int32) * (8 : Int32)) (1 : Int32) σ H locs ls hf hP hS (lv_sub hl [0, 1] rfl)
  exact hgen _ _ hP hS
def fx_X11_walls_J63 (x1 : Int32) (x2 : Int32)   (σ : mm_M) : mm_R := mm_gd (mm_ix ((75 : Int32) + x1) 207 = true) (some (((σ 10 31 0 ((75 : Int32) + x1).toNatClampNeg) >>> (x2 &&& 31)) &&& (1 : Int32), σ))
set_option maxHeartbeats 4000000 in
set_option maxRecDepth 100000 in
theorem cx_X11_walls_J63 {p : Program} {l : Launch} {e : Env} {s : State} {m : MethodId} {args : Array Value} {below : List Frame} {meth : Method} {c : Code} {D : va_G} {ad : mm_A} {cA : Nat → ClassId} (x1 : Int32) (x2 : Int32)  (rv : Int32) (σ1 : mm_M)  (X : mm_X p s m args meth c cX11_walls 4 (some .int) RX11 D ad cA) : ∀ (σ : mm_M) (H : Heap) (locs : List Loc) (ls : Array Slot), fx_X11_walls_J63 x1 x2  σ = some (rv, σ1) → va_P D vwCl (mm_wd ad cA σ) H → va_S (mm_AS ad) s.heap H locs → lv_has ls 4 [(0, .ref (ad 10 30 0)), (1, .int x1), (2, .int x2)] → W p l e (mm_rm 2 45) s m args below meth c H locs 0 0 (MQ below (mm_Q D ad cA (some (.int rv)) σ1) args s 0 0 (mm_AS ad)) (F0 m 63 ls []) := by
  have hx := X.1
  have hb := X.2.1
  have hI := X.2.2.2.2.2.2.2.2.2
  intro σ H locs ls hf hP hS hl
  rw [fx_X11_walls_J63] at hf
  refine lv_aload_n hx hb dX11_walls_63 rfl (lv_at hl 0 rfl) ?_
  refine gf_30_0 X hP  wd_769 dX11_walls_64 ?_
  refine lv_bipush (v := (75 : Int32)) hx hb dX11_walls_67 (by decide) ?_
  refine lv_iload_n hx hb dX11_walls_69 rfl (lv_at hl 1 rfl) ?_
  refine lv_iadd hx hb dX11_walls_70 ?_
  obtain ⟨h_13, hf⟩ := mm_gd_ok hf
  refine al_31 X hP  h_13 dX11_walls_71 ?_
  refine lv_iload_n hx hb dX11_walls_72 rfl (lv_at hl 2 rfl) ?_
  refine lv_ishr hx hb dX11_walls_73 ?_
  refine lv_iconst (v := (1 : Int32)) hx hb dX11_walls_74 (by decide) ?_
  refine lv_iand hx hb dX11_walls_75 ?_
  obtain ⟨rfl, rfl⟩ := mm_ret hf
  exact mm_iret X hP hS dX11_walls_76
def fx_X11_walls (x1 : Int32) (x2 : Int32) (σ : mm_M) : mm_R := mm_bd (fx_X11_isCell x1 σ) fun r_1 s_1 => (if r_1 = (0 : Int32) then some ((-1000001 : Int32), s_1) else mm_bd (fx_X11_in x2 (0 : Int32) (3 : Int32) s_1) fun r_3 s_3 => (if r_3 = (0 : Int32) then some ((-1000001 : Int32), s_3) else mm_gd (mm_ix ((75 : Int32) + x1) 207 = true) (mm_gd (mm_ix ((75 : Int32) + x1) 207 = true) (mm_lt (mm_u s_3 10 31 0 ((75 : Int32) + x1).toNatClampNeg ((s_3 10 31 0 ((75 : Int32) + x1).toNatClampNeg) ^^^ ((1 : Int32) <<< (x2 &&& 31)))) fun s_7 => (mm_bd (fx_X11_next x1 x2 s_7) fun r_8 s_8 => (if r_8 < (0 : Int32) then fx_X11_walls_J63 x1 x2 s_8 else mm_gd (mm_ix ((75 : Int32) + r_8) 207 = true) (mm_gd (mm_ix ((75 : Int32) + r_8) 207 = true) (mm_lt (mm_u s_8 10 31 0 ((75 : Int32) + r_8).toNatClampNeg ((s_8 10 31 0 ((75 : Int32) + r_8).toNatClampNeg) ^^^ ((1 : Int32) <<< (((x2 + (2 : Int32)) - (x2 + (2 : Int32)) / (4 : Int32) * (4 : Int32)) &&& 31)))) fun s_12 => (fx_X11_walls_J63 x1 x2 s_12)))))))))
set_option maxHeartbeats 4000000 in
set_option maxRecDepth 100000 in
theorem cx_X11_walls (l : Launch) (D : va_G) (ad : mm_A) (cA : Nat → ClassId) (hI : mm_Inj ad) (x1 : Int32) (x2 : Int32)  (σ : mm_M) (rv : Int32) (σ1 : mm_M) (hf : fx_X11_walls x1 x2 σ = some (rv, σ1)) : Met l yX11_walls (Cond.code yX11_walls cX11_walls 4 (some .int) :: tb) (mm_rm 2 45) (mm_pre D ad cA [.ref (ad 10 30 0), .int x1, .int x2] σ) (mm_Q D ad cA (some (.int rv)) σ1) 0 0 (mm_AS ad) := by
  refine mm_start (by decide +kernel) hI (Nat.le_of_ble_eq_true rfl) ?_
  intro p e s m args below meth c X hP ls hl
  have hl : lv_has ls 4 [(0, .ref (ad 10 30 0)), (1, .int x1), (2, .int x2)] := hl
  have hx := X.1
  have hb := X.2.1
  have hS : va_S (mm_AS ad) s.heap s.heap [] := va_S.rf
  have hgen : ∀ (H : Heap) (locs : List Loc), va_P D vwCl (mm_wd ad cA σ) H → va_S (mm_AS ad) s.heap H locs → W p l e (mm_rm 2 45) s m args below meth c H locs 0 0 (MQ below (mm_Q D ad cA (some (.int rv)) σ1) args s 0 0 (mm_AS ad)) (F0 m 0 ls []) := by
    intro H locs hP hS
    rw [fx_X11_walls] at hf
    refine lv_iload_n hx hb dX11_walls_0 rfl (lv_at hl 1 rfl) ?_
    obtain ⟨r_1, s_1, e_1, hf⟩ := mm_bd_ok hf
    refine mm_callS X hP hS hl.1 [.int x1] [] (cx_X11_isCell l D ad cA hI x1 σ r_1 s_1 e_1) wd_839 wd_840 wd_12 wd_841 hd_X11_isCell ⟨Nat.le_of_ble_eq_true rfl, Nat.le_of_ble_eq_true rfl⟩ rfl (Nat.le_of_ble_eq_true rfl) dX11_walls_1 (fun H locs hP hS => ?_)
    refine lv_if_eq (tgt := 16) hx hb dX11_walls_4 (by decide) (fun c_2 => ?_) (fun c_2 => ?_)
    · replace hf := mm_it c_2 hf
      refine lv_ldc (v := (-1000001 : Int32)) hx hb X.2.2.2.2.2.1 (X.2.2.2.2.2.2.1 _ wd_845) dX11_walls_16 ?_
      obtain ⟨rfl, rfl⟩ := mm_ret hf
      exact mm_iret X hP hS dX11_walls_18
    · replace hf := mm_if c_2 hf
      refine lv_iload_n hx hb dX11_walls_7 rfl (lv_at hl 2 rfl) ?_
      refine lv_iconst (v := (0 : Int32)) hx hb dX11_walls_8 (by decide) ?_
      refine lv_iconst (v := (3 : Int32)) hx hb dX11_walls_9 (by decide) ?_
      obtain ⟨r_3, s_3, e_3, hf⟩ := mm_bd_ok hf
      refine mm_callS X hP hS hl.1 [.int x2, .int (0 : Int32), .int (3 : Int32)] [] (cx_X11_in l D ad cA hI x2 (0 : Int32) (3 : Int32) s_1 r_3 s_3 e_3) wd_842 wd_843 wd_12 wd_844 hd_X11_in ⟨Nat.le_of_ble_eq_true rfl, Nat.le_of_ble_eq_true rfl⟩ rfl (Nat.le_of_ble_eq_true rfl) dX11_walls_10 (fun H locs hP hS => ?_)
      refine lv_if_ne (tgt := 19) hx hb dX11_walls_13 (by decide) (fun c_4 => ?_) (fun c_4 => ?_)
      · replace hf := mm_if c_4 hf
        refine lv_aload_n hx hb dX11_walls_19 rfl (lv_at hl 0 rfl) ?_
        refine gf_30_0 X hP  wd_769 dX11_walls_20 ?_
        refine lv_bipush (v := (75 : Int32)) hx hb dX11_walls_23 (by decide) ?_
        refine lv_iload_n hx hb dX11_walls_25 rfl (lv_at hl 1 rfl) ?_
        refine lv_iadd hx hb dX11_walls_26 ?_
        refine lv_dup2_11 hx hb dX11_walls_27 rfl rfl ?_
        obtain ⟨h_5, hf⟩ := mm_gd_ok hf
        refine al_31 X hP  h_5 dX11_walls_28 ?_
        refine lv_iconst (v := (1 : Int32)) hx hb dX11_walls_29 (by decide) ?_
        refine lv_iload_n hx hb dX11_walls_30 rfl (lv_at hl 2 rfl) ?_
        refine lv_ishl hx hb dX11_walls_31 ?_
        refine lv_ixor hx hb dX11_walls_32 ?_
        obtain ⟨h_6, hf⟩ := mm_gd_ok hf
        refine as_31 X hP hS  h_6  dX11_walls_33 (fun H locs hP hS => ?_)
        obtain ⟨s_7, e_7, hf⟩ := mm_lt_ok hf
        rw [← e_7] at hP
        refine lv_iload_n hx hb dX11_walls_34 rfl (lv_at hl 1 rfl) ?_
        refine lv_iload_n hx hb dX11_walls_35 rfl (lv_at hl 2 rfl) ?_
        obtain ⟨r_8, s_8, e_8, hf⟩ := mm_bd_ok hf
        refine mm_callS X hP hS hl.1 [.int x1, .int x2] [] (cx_X11_next l D ad cA hI x1 x2 s_7 r_8 s_8 e_8) wd_871 wd_872 wd_12 wd_873 hd_X11_next ⟨Nat.le_of_ble_eq_true rfl, Nat.le_of_ble_eq_true rfl⟩ rfl (Nat.le_of_ble_eq_true rfl) dX11_walls_36 (fun H locs hP hS => ?_)
        refine lv_istore_n (lv' := [(3, .int r_8), (0, .ref (ad 10 30 0)), (1, .int x1), (2, .int x2)]) hx hb dX11_walls_39 rfl hl (by decide) rfl (fun ls hl => ?_)
        refine lv_iload_n hx hb dX11_walls_40 rfl (lv_at hl 0 rfl) ?_
        refine lv_if_lt (tgt := 63) hx hb dX11_walls_41 (by decide) (fun c_9 => ?_) (fun c_9 => ?_)
        · replace hf := mm_it c_9 hf
          exact cx_X11_walls_J63 x1 x2 rv σ1 X s_8 H locs ls hf hP hS (lv_sub hl [1, 2, 3] rfl)
        · replace hf := mm_if c_9 hf
          refine lv_aload_n hx hb dX11_walls_44 rfl (lv_at hl 1 rfl) ?_
          refine gf_30_0 X hP  wd_769 dX11_walls_45 ?_
          refine lv_bipush (v := (75 : Int32)) hx hb dX11_walls_48 (by decide) ?_
          refine lv_iload_n hx hb dX11_walls_50 rfl (lv_at hl 0 rfl) ?_
          refine lv_iadd hx hb dX11_walls_51 ?_
          refine lv_dup2_11 hx hb dX11_walls_52 rfl rfl ?_
          obtain ⟨h_10, hf⟩ := mm_gd_ok hf
          refine al_31 X hP  h_10 dX11_walls_53 ?_
          refine lv_iconst (v := (1 : Int32)) hx hb dX11_walls_54 (by decide) ?_
          refine lv_iload_n hx hb dX11_walls_55 rfl (lv_at hl 3 rfl) ?_
          refine lv_iconst (v := (2 : Int32)) hx hb dX11_walls_56 (by decide) ?_
          refine lv_iadd hx hb dX11_walls_57 ?_
          refine lv_iconst (v := (4 : Int32)) hx hb dX11_walls_58 (by decide) ?_
          refine lv_irem hx hb dX11_walls_59 (by decide) ?_
          refine lv_ishl hx hb dX11_walls_60 ?_
          refine lv_ixor hx hb dX11_walls_61 ?_
          obtain ⟨h_11, hf⟩ := mm_gd_ok hf
          refine as_31 X hP hS  h_11  dX11_walls_62 (fun H locs hP hS => ?_)
          obtain ⟨s_12, e_12, hf⟩ := mm_lt_ok hf
          rw [← e_12] at hP
          exact cx_X11_walls_J63 x1 x2 rv σ1 X s_12 H locs ls hf hP hS (lv_sub hl [1, 2, 3] rfl)
      · replace hf := mm_it c_4 hf
        refine lv_ldc (v := (-1000001 : Int32)) hx hb X.2.2.2.2.2.1 (X.2.2.2.2.2.2.1 _ wd_845) dX11_walls_16 ?_
        obtain ⟨rfl, rfl⟩ := mm_ret hf
        exact mm_iret X hP hS dX11_walls_18
  exact hgen _ _ hP hS
def fx_X11_wall (x1 : Int32) (x2 : Int32) (σ : mm_M) : mm_R := mm_bd (fx_X11_begins  σ) fun _ s_1 => (mm_bd (fx_X11_walls x1 x2 s_1) fun r_2 s_2 => (mm_bd (fx_X11_acted r_2 s_2) fun r_3 s_3 => (some (r_3, s_3))))
set_option maxHeartbeats 4000000 in
set_option maxRecDepth 100000 in
theorem cx_X11_wall (l : Launch) (D : va_G) (ad : mm_A) (cA : Nat → ClassId) (hI : mm_Inj ad) (x1 : Int32) (x2 : Int32)  (σ : mm_M) (rv : Int32) (σ1 : mm_M) (hf : fx_X11_wall x1 x2 σ = some (rv, σ1)) : Met l yX11_wall (Cond.code yX11_wall cX11_wall 3 (some .int) :: tb) (mm_rm 3 68) (mm_pre D ad cA [.ref (ad 10 30 0), .int x1, .int x2] σ) (mm_Q D ad cA (some (.int rv)) σ1) 0 0 (mm_AS ad) := by
  refine mm_start (by decide +kernel) hI (Nat.le_of_ble_eq_true rfl) ?_
  intro p e s m args below meth c X hP ls hl
  have hl : lv_has ls 3 [(0, .ref (ad 10 30 0)), (1, .int x1), (2, .int x2)] := hl
  have hx := X.1
  have hb := X.2.1
  have hS : va_S (mm_AS ad) s.heap s.heap [] := va_S.rf
  have hgen : ∀ (H : Heap) (locs : List Loc), va_P D vwCl (mm_wd ad cA σ) H → va_S (mm_AS ad) s.heap H locs → W p l e (mm_rm 3 68) s m args below meth c H locs 0 0 (MQ below (mm_Q D ad cA (some (.int rv)) σ1) args s 0 0 (mm_AS ad)) (F0 m 0 ls []) := by
    intro H locs hP hS
    rw [fx_X11_wall] at hf
    refine lv_aload_n hx hb dX11_wall_0 rfl (lv_at hl 0 rfl) ?_
    obtain ⟨r_1, s_1, e_1, hf⟩ := mm_bd_ok hf
    refine mm_callV X hP hS hl.1 [] [] (cx_X11_begins l D ad cA hI  σ r_1 s_1 e_1) kp_30 rfl rfl wd_831 wd_833 wp_16 wd_12 wd_834 hd_X11_begins ⟨Nat.le_of_ble_eq_true rfl, Nat.le_of_ble_eq_true rfl⟩ rfl (Nat.le_of_ble_eq_true rfl) dX11_wall_1 (fun H locs hP hS => ?_)
    refine lv_aload_n hx hb dX11_wall_4 rfl (lv_at hl 0 rfl) ?_
    refine lv_aload_n hx hb dX11_wall_5 rfl (lv_at hl 0 rfl) ?_
    refine lv_iload_n hx hb dX11_wall_6 rfl (lv_at hl 1 rfl) ?_
    refine lv_iload_n hx hb dX11_wall_7 rfl (lv_at hl 2 rfl) ?_
    obtain ⟨r_2, s_2, e_2, hf⟩ := mm_bd_ok hf
    refine mm_callV X hP hS hl.1 [.int x1, .int x2] [.ref (ad 10 30 0)] (cx_X11_walls l D ad cA hI x1 x2 s_1 r_2 s_2 e_2) kp_30 rfl rfl wd_867 wd_869 wp_22 wd_12 wd_870 hd_X11_walls ⟨Nat.le_of_ble_eq_true rfl, Nat.le_of_ble_eq_true rfl⟩ rfl (Nat.le_of_ble_eq_true rfl) dX11_wall_8 (fun H locs hP hS => ?_)
    obtain ⟨r_3, s_3, e_3, hf⟩ := mm_bd_ok hf
    refine mm_callV X hP hS hl.1 [.int r_2] [] (cx_X11_acted l D ad cA hI r_2 s_2 r_3 s_3 e_3) kp_30 rfl rfl wd_855 wd_857 wp_20 wd_12 wd_858 hd_X11_acted ⟨Nat.le_of_ble_eq_true rfl, Nat.le_of_ble_eq_true rfl⟩ rfl (Nat.le_of_ble_eq_true rfl) dX11_wall_11 (fun H locs hP hS => ?_)
    obtain ⟨rfl, rfl⟩ := mm_ret hf
    exact mm_iret X hP hS dX11_wall_14
  exact hgen _ _ hP hS
def fx_X11_flag_J68 (x1 : Int32) (x2 : Int32)  (w1 : Int32) (w2 : Int32) (σ : mm_M) : mm_R := mm_gd (mm_ix w1 207 = true) (mm_lt (mm_u σ 10 31 0 w1.toNatClampNeg w2) fun s_9 => (mm_gd (mm_ix ((7 : Int32) + x1) 207 = true) (mm_lt (mm_u s_9 10 31 0 ((7 : Int32) + x1).toNatClampNeg x2) fun s_11 => (mm_bd (fx_X11_acted (s_11 10 31 0 (3 : Int32).toNatClampNeg) s_11) fun r_12 s_12 => (some (r_12, s_12))))))
set_option maxHeartbeats 4000000 in
set_option maxRecDepth 100000 in
theorem cx_X11_flag_J68 {p : Program} {l : Launch} {e : Env} {s : State} {m : MethodId} {args : Array Value} {below : List Frame} {meth : Method} {c : Code} {D : va_G} {ad : mm_A} {cA : Nat → ClassId} (x1 : Int32) (x2 : Int32)  (rv : Int32) (σ1 : mm_M)  (X : mm_X p s m args meth c cX11_flag 3 (some .int) RX11 D ad cA) : ∀ (w1 : Int32) (w2 : Int32) (σ : mm_M) (H : Heap) (locs : List Loc) (ls : Array Slot), fx_X11_flag_J68 x1 x2 w1 w2 σ = some (rv, σ1) → va_P D vwCl (mm_wd ad cA σ) H → va_S (mm_AS ad) s.heap H locs → lv_has ls 3 [(0, .ref (ad 10 30 0)), (1, .int x1), (2, .int x2)] → W p l e (mm_rm 2 43) s m args below meth c H locs 0 0 (MQ below (mm_Q D ad cA (some (.int rv)) σ1) args s 0 0 (mm_AS ad)) (F0 m 68 ls [.int w2, .int w1, .ref (ad 10 31 0)]) := by
  have hx := X.1
  have hb := X.2.1
  have hI := X.2.2.2.2.2.2.2.2.2
  intro w1 w2 σ H locs ls hf hP hS hl
  rw [fx_X11_flag_J68] at hf
  obtain ⟨h_8, hf⟩ := mm_gd_ok hf
  refine as_31 X hP hS  h_8  dX11_flag_68 (fun H locs hP hS => ?_)
  obtain ⟨s_9, e_9, hf⟩ := mm_lt_ok hf
  rw [← e_9] at hP
  refine lv_aload_n hx hb dX11_flag_69 rfl (lv_at hl 0 rfl) ?_
  refine gf_30_0 X hP  wd_769 dX11_flag_70 ?_
  refine lv_bipush (v := (7 : Int32)) hx hb dX11_flag_73 (by decide) ?_
  refine lv_iload_n hx hb dX11_flag_75 rfl (lv_at hl 1 rfl) ?_
  refine lv_iadd hx hb dX11_flag_76 ?_
  refine lv_iload_n hx hb dX11_flag_77 rfl (lv_at hl 2 rfl) ?_
  obtain ⟨h_10, hf⟩ := mm_gd_ok hf
  refine as_31 X hP hS  h_10  dX11_flag_78 (fun H locs hP hS => ?_)
  obtain ⟨s_11, e_11, hf⟩ := mm_lt_ok hf
  rw [← e_11] at hP
  refine lv_aload_n hx hb dX11_flag_79 rfl (lv_at hl 0 rfl) ?_
  refine lv_aload_n hx hb dX11_flag_80 rfl (lv_at hl 0 rfl) ?_
  refine gf_30_0 X hP  wd_769 dX11_flag_81 ?_
  refine lv_iconst (v := (3 : Int32)) hx hb dX11_flag_84 (by decide) ?_
  refine al_31 X hP  (by decide : mm_ix (3 : Int32) 207 = true) dX11_flag_85 ?_
  obtain ⟨r_12, s_12, e_12, hf⟩ := mm_bd_ok hf
  refine mm_callV X hP hS hl.1 [.int (s_11 10 31 0 (3 : Int32).toNatClampNeg)] [] (cx_X11_acted l D ad cA hI (s_11 10 31 0 (3 : Int32).toNatClampNeg) s_11 r_12 s_12 e_12) kp_30 rfl rfl wd_855 wd_857 wp_20 wd_12 wd_858 hd_X11_acted ⟨Nat.le_of_ble_eq_true rfl, Nat.le_of_ble_eq_true rfl⟩ rfl (Nat.le_of_ble_eq_true rfl) dX11_flag_86 (fun H locs hP hS => ?_)
  obtain ⟨rfl, rfl⟩ := mm_ret hf
  exact mm_iret X hP hS dX11_flag_89
def fx_X11_flag (x1 : Int32) (x2 : Int32) (σ : mm_M) : mm_R := mm_bd (fx_X11_begins  σ) fun _ s_1 => (mm_bd (fx_X11_in x1 (0 : Int32) (3 : Int32) s_1) fun r_2 s_2 => (if r_2 = (0 : Int32) then some ((-1000001 : Int32), s_2) else mm_bd (fx_X11_isCell x2 s_2) fun r_4 s_4 => (if r_4 = (0 : Int32) then some ((-1000001 : Int32), s_4) else if x1 ≤ (s_4 10 31 0 (3 : Int32).toNatClampNeg) then if x1 = (s_4 10 31 0 (3 : Int32).toNatClampNeg) then fx_X11_flag_J68 x1 x2 (3 : Int32) ((s_4 10 31 0 (3 : Int32).toNatClampNeg) + (1 : Int32)) s_4 else fx_X11_flag_J68 x1 x2 (3 : Int32) (s_4 10 31 0 (3 : Int32).toNatClampNeg) s_4 else some ((-1000002 : Int32), s_4))))
set_option maxHeartbeats 4000000 in
set_option maxRecDepth 100000 in
theorem cx_X11_flag (l : Launch) (D : va_G) (ad : mm_A) (cA : Nat → ClassId) (hI : mm_Inj ad) (x1 : Int32) (x2 : Int32)  (σ : mm_M) (rv : Int32) (σ1 : mm_M) (hf : fx_X11_flag x1 x2 σ = some (rv, σ1)) : Met l yX11_flag (Cond.code yX11_flag cX11_flag 3 (some .int) :: tb) (mm_rm 2 43) (mm_pre D ad cA [.ref (ad 10 30 0), .int x1, .int x2] σ) (mm_Q D ad cA (some (.int rv)) σ1) 0 0 (mm_AS ad) := by
  refine mm_start (by decide +kernel) hI (Nat.le_of_ble_eq_true rfl) ?_
  intro p e s m args below meth c X hP ls hl
  have hl : lv_has ls 3 [(0, .ref (ad 10 30 0)), (1, .int x1), (2, .int x2)] := hl
  have hx := X.1
  have hb := X.2.1
  have hS : va_S (mm_AS ad) s.heap s.heap [] := va_S.rf
  have hgen : ∀ (H : Heap) (locs : List Loc), va_P D vwCl (mm_wd ad cA σ) H → va_S (mm_AS ad) s.heap H locs → W p l e (mm_rm 2 43) s m args below meth c H locs 0 0 (MQ below (mm_Q D ad cA (some (.int rv)) σ1) args s 0 0 (mm_AS ad)) (F0 m 0 ls []) := by
    intro H locs hP hS
    rw [fx_X11_flag] at hf
    refine lv_aload_n hx hb dX11_flag_0 rfl (lv_at hl 0 rfl) ?_
    obtain ⟨r_1, s_1, e_1, hf⟩ := mm_bd_ok hf
    refine mm_callV X hP hS hl.1 [] [] (cx_X11_begins l D ad cA hI  σ r_1 s_1 e_1) kp_30 rfl rfl wd_831 wd_833 wp_16 wd_12 wd_834 hd_X11_begins ⟨Nat.le_of_ble_eq_true rfl, Nat.le_of_ble_eq_true rfl⟩ rfl (Nat.le_of_ble_eq_true rfl) dX11_flag_1 (fun H locs hP hS => ?_)
    refine lv_iload_n hx hb dX11_flag_4 rfl (lv_at hl 1 rfl) ?_
    refine lv_iconst (v := (0 : Int32)) hx hb dX11_flag_5 (by decide) ?_
    refine lv_iconst (v := (3 : Int32)) hx hb dX11_flag_6 (by decide) ?_
    obtain ⟨r_2, s_2, e_2, hf⟩ := mm_bd_ok hf
    refine mm_callS X hP hS hl.1 [.int x1, .int (0 : Int32), .int (3 : Int32)] [] (cx_X11_in l D ad cA hI x1 (0 : Int32) (3 : Int32) s_1 r_2 s_2 e_2) wd_842 wd_843 wd_12 wd_844 hd_X11_in ⟨Nat.le_of_ble_eq_true rfl, Nat.le_of_ble_eq_true rfl⟩ rfl (Nat.le_of_ble_eq_true rfl) dX11_flag_7 (fun H locs hP hS => ?_)
    refine lv_if_eq (tgt := 20) hx hb dX11_flag_10 (by decide) (fun c_3 => ?_) (fun c_3 => ?_)
    · replace hf := mm_it c_3 hf
      refine lv_ldc (v := (-1000001 : Int32)) hx hb X.2.2.2.2.2.1 (X.2.2.2.2.2.2.1 _ wd_845) dX11_flag_20 ?_
      obtain ⟨rfl, rfl⟩ := mm_ret hf
      exact mm_iret X hP hS dX11_flag_22
    · replace hf := mm_if c_3 hf
      refine lv_iload_n hx hb dX11_flag_13 rfl (lv_at hl 2 rfl) ?_
      obtain ⟨r_4, s_4, e_4, hf⟩ := mm_bd_ok hf
      refine mm_callS X hP hS hl.1 [.int x2] [] (cx_X11_isCell l D ad cA hI x2 s_2 r_4 s_4 e_4) wd_839 wd_840 wd_12 wd_841 hd_X11_isCell ⟨Nat.le_of_ble_eq_true rfl, Nat.le_of_ble_eq_true rfl⟩ rfl (Nat.le_of_ble_eq_true rfl) dX11_flag_14 (fun H locs hP hS => ?_)
      refine lv_if_ne (tgt := 23) hx hb dX11_flag_17 (by decide) (fun c_5 => ?_) (fun c_5 => ?_)
      · replace hf := mm_if c_5 hf
        refine lv_iload_n hx hb dX11_flag_23 rfl (lv_at hl 1 rfl) ?_
        refine lv_aload_n hx hb dX11_flag_24 rfl (lv_at hl 0 rfl) ?_
        refine gf_30_0 X hP  wd_769 dX11_flag_25 ?_
        refine lv_iconst (v := (3 : Int32)) hx hb dX11_flag_28 (by decide) ?_
        refine al_31 X hP  (by decide : mm_ix (3 : Int32) 207 = true) dX11_flag_29 ?_
        refine lv_icmp_le (tgt := 36) hx hb dX11_flag_30 (by decide) (fun c_6 => ?_) (fun c_6 => ?_)
        · replace hf := mm_it c_6 hf
          refine lv_aload_n hx hb dX11_flag_36 rfl (lv_at hl 0 rfl) ?_
          refine gf_30_0 X hP  wd_769 dX11_flag_37 ?_
          refine lv_iconst (v := (3 : Int32)) hx hb dX11_flag_40 (by decide) ?_
          refine lv_iload_n hx hb dX11_flag_41 rfl (lv_at hl 1 rfl) ?_
          refine lv_aload_n hx hb dX11_flag_42 rfl (lv_at hl 0 rfl) ?_
          refine gf_30_0 X hP  wd_769 dX11_flag_43 ?_
          refine lv_iconst (v := (3 : Int32)) hx hb dX11_flag_46 (by decide) ?_
          refine al_31 X hP  (by decide : mm_ix (3 : Int32) 207 = true) dX11_flag_47 ?_
          refine lv_icmp_ne (tgt := 62) hx hb dX11_flag_48 (by decide) (fun c_7 => ?_) (fun c_7 => ?_)
          · replace hf := mm_if c_7 hf
            refine lv_aload_n hx hb dX11_flag_62 rfl (lv_at hl 0 rfl) ?_
            refine gf_30_0 X hP  wd_769 dX11_flag_63 ?_
            refine lv_iconst (v := (3 : Int32)) hx hb dX11_flag_66 (by decide) ?_
            refine al_31 X hP  (by decide : mm_ix (3 : Int32) 207 = true) dX11_flag_67 ?_
            exact cx_X11_flag_J68 x1 x2 rv σ1 X (3 : Int32) (s_4 10 31 0 (3 : Int32).toNatClampNeg) s_4 H locs ls hf hP hS (lv_sub hl [0, 1, 2] rfl)
          · replace hf := mm_it c_7 hf
            refine lv_aload_n hx hb dX11_flag_51 rfl (lv_at hl 0 rfl) ?_
            refine gf_30_0 X hP  wd_769 dX11_flag_52 ?_
            refine lv_iconst (v := (3 : Int32)) hx hb dX11_flag_55 (by decide) ?_
            refine al_31 X hP  (by decide : mm_ix (3 : Int32) 207 = true) dX11_flag_56 ?_
            refine lv_iconst (v := (1 : Int32)) hx hb dX11_flag_57 (by decide) ?_
            refine lv_iadd hx hb dX11_flag_58 ?_
            refine lv_goto (tgt := 68) hx hb dX11_flag_59 (by decide) ?_
            exact cx_X11_flag_J68 x1 x2 rv σ1 X (3 : Int32) ((s_4 10 31 0 (3 : Int32).toNatClampNeg) + (1 : Int32)) s_4 H locs ls hf hP hS (lv_sub hl [0, 1, 2] rfl)
        · replace hf := mm_if c_6 hf
          refine lv_ldc (v := (-1000002 : Int32)) hx hb X.2.2.2.2.2.1 (X.2.2.2.2.2.2.1 _ wd_854) dX11_flag_33 ?_
          obtain ⟨rfl, rfl⟩ := mm_ret hf
          exact mm_iret X hP hS dX11_flag_35
      · replace hf := mm_it c_5 hf
        refine lv_ldc (v := (-1000001 : Int32)) hx hb X.2.2.2.2.2.1 (X.2.2.2.2.2.2.1 _ wd_845) dX11_flag_20 ?_
        obtain ⟨rfl, rfl⟩ := mm_ret hf
        exact mm_iret X hP hS dX11_flag_22
  exact hgen _ _ hP hS
