def fx_X10_turned (x0 : Int32) (x1 : Int32) (σ : mm_M) : mm_R := some ((x0 + x1) &&& (3 : Int32), σ)
set_option maxHeartbeats 4000000 in
set_option maxRecDepth 100000 in
theorem cx_X10_turned (l : Launch) (D : va_G) (ad : mm_A) (cA : Nat → ClassId) (hI : mm_Inj ad) (x0 : Int32) (x1 : Int32)  (σ : mm_M) (rv : Int32) (σ1 : mm_M) (hf : fx_X10_turned x0 x1 σ = some (rv, σ1)) : Met l yX10_turned (Cond.code yX10_turned cX10_turned 2 (some .int) :: tb) (mm_rm 0 0) (mm_pre D ad cA [.int x0, .int x1] σ) (mm_Q D ad cA (some (.int rv)) σ1) 0 0 (mm_AS ad) := by
  refine mm_start (by decide +kernel) hI (Nat.le_of_ble_eq_true rfl) ?_
  intro p e s m args below meth c X hP ls hl
  have hl : lv_has ls 2 [(0, .int x0), (1, .int x1)] := hl
  have hx := X.1
  have hb := X.2.1
  have hS : va_S (mm_AS ad) s.heap s.heap [] := va_S.rf
  have hgen : ∀ (H : Heap) (locs : List Loc), va_P D vwCl (mm_wd ad cA σ) H → va_S (mm_AS ad) s.heap H locs → W p l e (mm_rm 0 0) s m args below meth c H locs 0 0 (MQ below (mm_Q D ad cA (some (.int rv)) σ1) args s 0 0 (mm_AS ad)) (F0 m 0 ls []) := by
    intro H locs hP hS
    rw [fx_X10_turned] at hf
    refine lv_iload_n hx hb dX10_turned_0 rfl (lv_at hl 0 rfl) ?_
    refine lv_iload_n hx hb dX10_turned_1 rfl (lv_at hl 1 rfl) ?_
    refine lv_iadd hx hb dX10_turned_2 ?_
    refine lv_iconst (v := (3 : Int32)) hx hb dX10_turned_3 (by decide) ?_
    refine lv_iand hx hb dX10_turned_4 ?_
    obtain ⟨rfl, rfl⟩ := mm_ret hf
    exact mm_iret X hP hS dX10_turned_5
  exact hgen _ _ hP hS
def fx_X1_flipWall (r0 : Nat) (x1 : Int32) (x2 : Int32) (σ : mm_M) : mm_R := mm_bd (fx_X1_flipSide r0 x1 x2 σ) fun _ s_1 => (mm_bd (fx_X1_neighbour x1 x2 s_1) fun r_2 s_2 => (mm_bd (fx_X10_turned x2 (2 : Int32) s_2) fun r_3 s_3 => (mm_bd (fx_X1_flipSide r0 r_2 r_3 s_3) fun _ s_4 => (some (0, s_4)))))
set_option maxHeartbeats 4000000 in
set_option maxRecDepth 100000 in
theorem cx_X1_flipWall (l : Launch) (D : va_G) (ad : mm_A) (cA : Nat → ClassId) (hI : mm_Inj ad) (r0 : Nat) (x1 : Int32) (x2 : Int32) (hr0 : r0 < 6) (σ : mm_M) (rv : Int32) (σ1 : mm_M) (hf : fx_X1_flipWall r0 x1 x2 σ = some (rv, σ1)) : Met l yX1_flipWall (Cond.code yX1_flipWall cX1_flipWall 3 none :: tb) (mm_rm 1 22) (mm_pre D ad cA [.ref (ad r0 1 0), .int x1, .int x2] σ) (mm_Q D ad cA none σ1) 0 0 (mm_AS ad) := by
  refine mm_start (by decide +kernel) hI (Nat.le_of_ble_eq_true rfl) ?_
  intro p e s m args below meth c X hP ls hl
  have hl : lv_has ls 3 [(0, .ref (ad r0 1 0)), (1, .int x1), (2, .int x2)] := hl
  have hx := X.1
  have hb := X.2.1
  have hS : va_S (mm_AS ad) s.heap s.heap [] := va_S.rf
  have hgen : ∀ (H : Heap) (locs : List Loc), va_P D vwCl (mm_wd ad cA σ) H → va_S (mm_AS ad) s.heap H locs → W p l e (mm_rm 1 22) s m args below meth c H locs 0 0 (MQ below (mm_Q D ad cA none σ1) args s 0 0 (mm_AS ad)) (F0 m 0 ls []) := by
    intro H locs hP hS
    rw [fx_X1_flipWall] at hf
    refine lv_aload_n hx hb dX1_flipWall_0 rfl (lv_at hl 0 rfl) ?_
    refine lv_iload_n hx hb dX1_flipWall_1 rfl (lv_at hl 1 rfl) ?_
    refine lv_iload_n hx hb dX1_flipWall_2 rfl (lv_at hl 2 rfl) ?_
    obtain ⟨r_1, s_1, e_1, hf⟩ := mm_bd_ok hf
    refine mm_callV X hP hS hl.1 [.int x1, .int x2] [] (cx_X1_flipSide l D ad cA hI r0 x1 x2 hr0 σ r_1 s_1 e_1) (mm_kr r0 hr0 1 (by decide)) rfl rfl wd_504 wd_506 wp_3 wd_3 wd_507 hd_X1_flipSide ⟨Nat.le_of_ble_eq_true rfl, Nat.le_of_ble_eq_true rfl⟩ rfl (Nat.le_of_ble_eq_true rfl) dX1_flipWall_3 (fun H locs hP hS => ?_)
    refine lv_aload_n hx hb dX1_flipWall_6 rfl (lv_at hl 0 rfl) ?_
    refine lv_iload_n hx hb dX1_flipWall_7 rfl (lv_at hl 1 rfl) ?_
    refine lv_iload_n hx hb dX1_flipWall_8 rfl (lv_at hl 2 rfl) ?_
    obtain ⟨r_2, s_2, e_2, hf⟩ := mm_bd_ok hf
    refine mm_callS X hP hS hl.1 [.int x1, .int x2] [.ref (ad r0 1 0)] (cx_X1_neighbour l D ad cA hI x1 x2 s_1 r_2 s_2 e_2) wd_508 wd_509 wd_3 wd_510 hd_X1_neighbour ⟨Nat.le_of_ble_eq_true rfl, Nat.le_of_ble_eq_true rfl⟩ rfl (Nat.le_of_ble_eq_true rfl) dX1_flipWall_9 (fun H locs hP hS => ?_)
    refine lv_iload_n hx hb dX1_flipWall_12 rfl (lv_at hl 2 rfl) ?_
    refine lv_iconst (v := (2 : Int32)) hx hb dX1_flipWall_13 (by decide) ?_
    obtain ⟨r_3, s_3, e_3, hf⟩ := mm_bd_ok hf
    refine mm_callN (host := "LockedCarts") X hP hS hl.1 [.int x2, .int (2 : Int32)] [.int r_2, .ref (ad r0 1 0)] (cx_X10_turned l D ad cA hI x2 (2 : Int32) s_2 r_3 s_3 e_3) nw_13 wd_512 wd_1 wd_513 hd_X10_turned ⟨Nat.le_of_ble_eq_true rfl, Nat.le_of_ble_eq_true rfl⟩ rfl (Nat.le_of_ble_eq_true rfl) dX1_flipWall_14 (fun H locs hP hS => ?_)
    obtain ⟨r_4, s_4, e_4, hf⟩ := mm_bd_ok hf
    refine mm_callV X hP hS hl.1 [.int r_2, .int r_3] [] (cx_X1_flipSide l D ad cA hI r0 r_2 r_3 hr0 s_3 r_4 s_4 e_4) (mm_kr r0 hr0 1 (by decide)) rfl rfl wd_504 wd_506 wp_3 wd_3 wd_507 hd_X1_flipSide ⟨Nat.le_of_ble_eq_true rfl, Nat.le_of_ble_eq_true rfl⟩ rfl (Nat.le_of_ble_eq_true rfl) dX1_flipWall_17 (fun H locs hP hS => ?_)
    obtain ⟨rfl, rfl⟩ := mm_ret hf
    exact mm_vret X hP hS dX1_flipWall_20
  exact hgen _ _ hP hS
def fx_X1_hasWall (r0 : Nat) (x1 : Int32) (x2 : Int32) (σ : mm_M) : mm_R := if x1 < (0 : Int32) then some ((0 : Int32), σ) else if (64 : Int32) ≤ x1 then some ((0 : Int32), σ) else mm_gd (mm_ix x1 64 = true) (if (((σ r0 3 0 x1.toNatClampNeg) >>> (x2 &&& 31)) &&& (1 : Int32)) = (0 : Int32) then some ((0 : Int32), σ) else some ((1 : Int32), σ))
set_option maxHeartbeats 4000000 in
set_option maxRecDepth 100000 in
theorem cx_X1_hasWall (l : Launch) (D : va_G) (ad : mm_A) (cA : Nat → ClassId) (hI : mm_Inj ad) (r0 : Nat) (x1 : Int32) (x2 : Int32) (hr0 : r0 < 6) (σ : mm_M) (rv : Int32) (σ1 : mm_M) (hf : fx_X1_hasWall r0 x1 x2 σ = some (rv, σ1)) : Met l yX1_hasWall (Cond.code yX1_hasWall cX1_hasWall 3 (some .boolean) :: tb) (mm_rm 0 0) (mm_pre D ad cA [.ref (ad r0 1 0), .int x1, .int x2] σ) (mm_Q D ad cA (some (.int rv)) σ1) 0 0 (mm_AS ad) := by
  refine mm_start (by decide +kernel) hI (Nat.le_of_ble_eq_true rfl) ?_
  intro p e s m args below meth c X hP ls hl
  have hl : lv_has ls 3 [(0, .ref (ad r0 1 0)), (1, .int x1), (2, .int x2)] := hl
  have hx := X.1
  have hb := X.2.1
  have hS : va_S (mm_AS ad) s.heap s.heap [] := va_S.rf
  have hgen : ∀ (H : Heap) (locs : List Loc), va_P D vwCl (mm_wd ad cA σ) H → va_S (mm_AS ad) s.heap H locs → W p l e (mm_rm 0 0) s m args below meth c H locs 0 0 (MQ below (mm_Q D ad cA (some (.int rv)) σ1) args s 0 0 (mm_AS ad)) (F0 m 0 ls []) := by
    intro H locs hP hS
    rw [fx_X1_hasWall] at hf
    refine lv_iload_n hx hb dX1_hasWall_0 rfl (lv_at hl 1 rfl) ?_
    refine lv_if_lt (tgt := 27) hx hb dX1_hasWall_1 (by decide) (fun c_1 => ?_) (fun c_1 => ?_)
    · replace hf := mm_it c_1 hf
      refine lv_iconst (v := (0 : Int32)) hx hb dX1_hasWall_27 (by decide) ?_
      obtain ⟨rfl, rfl⟩ := mm_ret hf
      exact mm_zret (Or.inl rfl) X hP hS dX1_hasWall_28
    · replace hf := mm_if c_1 hf
      refine lv_iload_n hx hb dX1_hasWall_4 rfl (lv_at hl 1 rfl) ?_
      refine lv_bipush (v := (64 : Int32)) hx hb dX1_hasWall_5 (by decide) ?_
      refine lv_icmp_ge (tgt := 27) hx hb dX1_hasWall_7 (by decide) (fun c_2 => ?_) (fun c_2 => ?_)
      · replace hf := mm_it c_2 hf
        refine lv_iconst (v := (0 : Int32)) hx hb dX1_hasWall_27 (by decide) ?_
        obtain ⟨rfl, rfl⟩ := mm_ret hf
        exact mm_zret (Or.inl rfl) X hP hS dX1_hasWall_28
      · replace hf := mm_if c_2 hf
        refine lv_aload_n hx hb dX1_hasWall_10 rfl (lv_at hl 0 rfl) ?_
        refine gf_1_1 X hP hr0 wd_38 dX1_hasWall_11 ?_
        refine lv_iload_n hx hb dX1_hasWall_14 rfl (lv_at hl 1 rfl) ?_
        obtain ⟨h_3, hf⟩ := mm_gd_ok hf
        refine al_3 X hP hr0 h_3 dX1_hasWall_15 ?_
        refine lv_iload_n hx hb dX1_hasWall_16 rfl (lv_at hl 2 rfl) ?_
        refine lv_ishr hx hb dX1_hasWall_17 ?_
        refine lv_iconst (v := (1 : Int32)) hx hb dX1_hasWall_18 (by decide) ?_
        refine lv_iand hx hb dX1_hasWall_19 ?_
        refine lv_if_eq (tgt := 27) hx hb dX1_hasWall_20 (by decide) (fun c_4 => ?_) (fun c_4 => ?_)
        · replace hf := mm_it c_4 hf
          refine lv_iconst (v := (0 : Int32)) hx hb dX1_hasWall_27 (by decide) ?_
          obtain ⟨rfl, rfl⟩ := mm_ret hf
          exact mm_zret (Or.inl rfl) X hP hS dX1_hasWall_28
        · replace hf := mm_if c_4 hf
          refine lv_iconst (v := (1 : Int32)) hx hb dX1_hasWall_23 (by decide) ?_
          refine lv_goto (tgt := 28) hx hb dX1_hasWall_24 (by decide) ?_
          obtain ⟨rfl, rfl⟩ := mm_ret hf
          exact mm_zret (Or.inr rfl) X hP hS dX1_hasWall_28
  exact hgen _ _ hP hS
def fx_X8_flipWall (r0 : Nat) (x1 : Int32) (x2 : Int32) (σ : mm_M) : mm_R := mm_bd (fx_X10_isCell x1 σ) fun r_1 s_1 => (if r_1 = (0 : Int32) then some ((-1000001 : Int32), s_1) else mm_bd (fx_X10_isDirection x2 s_1) fun r_3 s_3 => (if r_3 = (0 : Int32) then some ((-1000001 : Int32), s_3) else mm_bd (fx_X1_flipWall r0 x1 x2 s_3) fun _ s_5 => (mm_bd (fx_X1_hasWall r0 x1 x2 s_5) fun r_6 s_6 => (if r_6 = (0 : Int32) then some ((0 : Int32), s_6) else some ((1 : Int32), s_6)))))
set_option maxHeartbeats 4000000 in
set_option maxRecDepth 100000 in
theorem cx_X8_flipWall (l : Launch) (D : va_G) (ad : mm_A) (cA : Nat → ClassId) (hI : mm_Inj ad) (r0 : Nat) (x1 : Int32) (x2 : Int32) (hr0 : r0 < 6) (σ : mm_M) (rv : Int32) (σ1 : mm_M) (hf : fx_X8_flipWall r0 x1 x2 σ = some (rv, σ1)) : Met l yX8_flipWall (Cond.code yX8_flipWall cX8_flipWall 3 (some .int) :: tb) (mm_rm 2 44) (mm_pre D ad cA [.ref (ad r0 0 0), .int x1, .int x2] σ) (mm_Q D ad cA (some (.int rv)) σ1) 0 0 (mm_AS ad) := by
  refine mm_start (by decide +kernel) hI (Nat.le_of_ble_eq_true rfl) ?_
  intro p e s m args below meth c X hP ls hl
  have hl : lv_has ls 3 [(0, .ref (ad r0 0 0)), (1, .int x1), (2, .int x2)] := hl
  have hx := X.1
  have hb := X.2.1
  have hS : va_S (mm_AS ad) s.heap s.heap [] := va_S.rf
  have hgen : ∀ (H : Heap) (locs : List Loc), va_P D vwCl (mm_wd ad cA σ) H → va_S (mm_AS ad) s.heap H locs → W p l e (mm_rm 2 44) s m args below meth c H locs 0 0 (MQ below (mm_Q D ad cA (some (.int rv)) σ1) args s 0 0 (mm_AS ad)) (F0 m 0 ls []) := by
    intro H locs hP hS
    rw [fx_X8_flipWall] at hf
    refine lv_iload_n hx hb dX8_flipWall_0 rfl (lv_at hl 1 rfl) ?_
    obtain ⟨r_1, s_1, e_1, hf⟩ := mm_bd_ok hf
    refine mm_callN (host := "LockedCarts") X hP hS hl.1 [.int x1] [] (cx_X10_isCell l D ad cA hI x1 σ r_1 s_1 e_1) nw_10 wd_362 wd_1 wd_363 hd_X10_isCell ⟨Nat.le_of_ble_eq_true rfl, Nat.le_of_ble_eq_true rfl⟩ rfl (Nat.le_of_ble_eq_true rfl) dX8_flipWall_1 (fun H locs hP hS => ?_)
    refine lv_if_eq (tgt := 14) hx hb dX8_flipWall_4 (by decide) (fun c_2 => ?_) (fun c_2 => ?_)
    · replace hf := mm_it c_2 hf
      refine lv_ldc (v := (-1000001 : Int32)) hx hb X.2.2.2.2.2.1 (X.2.2.2.2.2.2.1 _ wd_454) dX8_flipWall_14 ?_
      obtain ⟨rfl, rfl⟩ := mm_ret hf
      exact mm_iret X hP hS dX8_flipWall_16
    · replace hf := mm_if c_2 hf
      refine lv_iload_n hx hb dX8_flipWall_7 rfl (lv_at hl 2 rfl) ?_
      obtain ⟨r_3, s_3, e_3, hf⟩ := mm_bd_ok hf
      refine mm_callN (host := "LockedCarts") X hP hS hl.1 [.int x2] [] (cx_X10_isDirection l D ad cA hI x2 s_1 r_3 s_3 e_3) nw_11 wd_452 wd_1 wd_453 hd_X10_isDirection ⟨Nat.le_of_ble_eq_true rfl, Nat.le_of_ble_eq_true rfl⟩ rfl (Nat.le_of_ble_eq_true rfl) dX8_flipWall_8 (fun H locs hP hS => ?_)
      refine lv_if_ne (tgt := 17) hx hb dX8_flipWall_11 (by decide) (fun c_4 => ?_) (fun c_4 => ?_)
      · replace hf := mm_if c_4 hf
        refine lv_aload_n hx hb dX8_flipWall_17 rfl (lv_at hl 0 rfl) ?_
        refine gf_0_0 X hP hr0 wd_106 dX8_flipWall_18 ?_
        refine lv_iload_n hx hb dX8_flipWall_21 rfl (lv_at hl 1 rfl) ?_
        refine lv_iload_n hx hb dX8_flipWall_22 rfl (lv_at hl 2 rfl) ?_
        obtain ⟨r_5, s_5, e_5, hf⟩ := mm_bd_ok hf
        refine mm_callV X hP hS hl.1 [.int x1, .int x2] [] (cx_X1_flipWall l D ad cA hI r0 x1 x2 hr0 s_3 r_5 s_5 e_5) (mm_kr r0 hr0 1 (by decide)) rfl rfl wd_500 wd_501 wd_502 wd_3 wd_503 hd_X1_flipWall ⟨Nat.le_of_ble_eq_true rfl, Nat.le_of_ble_eq_true rfl⟩ rfl (Nat.le_of_ble_eq_true rfl) dX8_flipWall_23 (fun H locs hP hS => ?_)
        refine lv_aload_n hx hb dX8_flipWall_26 rfl (lv_at hl 0 rfl) ?_
        refine gf_0_0 X hP hr0 wd_106 dX8_flipWall_27 ?_
        refine lv_iload_n hx hb dX8_flipWall_30 rfl (lv_at hl 1 rfl) ?_
        refine lv_iload_n hx hb dX8_flipWall_31 rfl (lv_at hl 2 rfl) ?_
        obtain ⟨r_6, s_6, e_6, hf⟩ := mm_bd_ok hf
        refine mm_callV X hP hS hl.1 [.int x1, .int x2] [] (cx_X1_hasWall l D ad cA hI r0 x1 x2 hr0 s_5 r_6 s_6 e_6) (mm_kr r0 hr0 1 (by decide)) rfl rfl wd_514 wd_515 wd_516 wd_3 wd_517 hd_X1_hasWall ⟨Nat.le_of_ble_eq_true rfl, Nat.le_of_ble_eq_true rfl⟩ rfl (Nat.le_of_ble_eq_true rfl) dX8_flipWall_32 (fun H locs hP hS => ?_)
        refine lv_if_eq (tgt := 42) hx hb dX8_flipWall_35 (by decide) (fun c_7 => ?_) (fun c_7 => ?_)
        · replace hf := mm_it c_7 hf
          refine lv_iconst (v := (0 : Int32)) hx hb dX8_flipWall_42 (by decide) ?_
          obtain ⟨rfl, rfl⟩ := mm_ret hf
          exact mm_iret X hP hS dX8_flipWall_43
        · replace hf := mm_if c_7 hf
          refine lv_iconst (v := (1 : Int32)) hx hb dX8_flipWall_38 (by decide) ?_
          refine lv_goto (tgt := 43) hx hb dX8_flipWall_39 (by decide) ?_
          obtain ⟨rfl, rfl⟩ := mm_ret hf
          exact mm_iret X hP hS dX8_flipWall_43
      · replace hf := mm_it c_4 hf
        refine lv_ldc (v := (-1000001 : Int32)) hx hb X.2.2.2.2.2.1 (X.2.2.2.2.2.2.1 _ wd_454) dX8_flipWall_14 ?_
        obtain ⟨rfl, rfl⟩ := mm_ret hf
        exact mm_iret X hP hS dX8_flipWall_16
  exact hgen _ _ hP hS
def fx_X10_wall (x1 : Int32) (x2 : Int32) (σ : mm_M) : mm_R := mm_bd (fx_X10_freshTrial  σ) fun _ s_1 => (mm_bd (fx_X8_flipWall 1 x1 x2 s_1) fun r_2 s_2 => (mm_bd (fx_X10_keep r_2 s_2) fun r_3 s_3 => (some (r_3, s_3))))
set_option maxHeartbeats 4000000 in
set_option maxRecDepth 100000 in
theorem cx_X10_wall (l : Launch) (D : va_G) (ad : mm_A) (cA : Nat → ClassId) (hI : mm_Inj ad) (x1 : Int32) (x2 : Int32)  (σ : mm_M) (rv : Int32) (σ1 : mm_M) (hf : fx_X10_wall x1 x2 σ = some (rv, σ1)) : Met l yX10_wall (Cond.code yX10_wall cX10_wall 3 (some .int) :: tb) (mm_rm 5 103) (mm_pre D ad cA [.ref (ad 6 9 0), .int x1, .int x2] σ) (mm_Q D ad cA (some (.int rv)) σ1) 0 0 (mm_AS ad) := by
  refine mm_start (by decide +kernel) hI (Nat.le_of_ble_eq_true rfl) ?_
  intro p e s m args below meth c X hP ls hl
  have hl : lv_has ls 3 [(0, .ref (ad 6 9 0)), (1, .int x1), (2, .int x2)] := hl
  have hx := X.1
  have hb := X.2.1
  have hS : va_S (mm_AS ad) s.heap s.heap [] := va_S.rf
  have hgen : ∀ (H : Heap) (locs : List Loc), va_P D vwCl (mm_wd ad cA σ) H → va_S (mm_AS ad) s.heap H locs → W p l e (mm_rm 5 103) s m args below meth c H locs 0 0 (MQ below (mm_Q D ad cA (some (.int rv)) σ1) args s 0 0 (mm_AS ad)) (F0 m 0 ls []) := by
    intro H locs hP hS
    rw [fx_X10_wall] at hf
    refine lv_aload_n hx hb dX10_wall_0 rfl (lv_at hl 0 rfl) ?_
    refine lv_aload_n hx hb dX10_wall_1 rfl (lv_at hl 0 rfl) ?_
    obtain ⟨r_1, s_1, e_1, hf⟩ := mm_bd_ok hf
    refine mm_callV X hP hS hl.1 [] [.ref (ad 6 9 0)] (cx_X10_freshTrial l D ad cA hI  σ r_1 s_1 e_1) kp_9 rfl rfl wd_441 wd_443 wp_0 wd_1 wd_444 hd_X10_freshTrial ⟨Nat.le_of_ble_eq_true rfl, Nat.le_of_ble_eq_true rfl⟩ rfl (Nat.le_of_ble_eq_true rfl) dX10_wall_2 (fun H locs hP hS => ?_)
    refine lv_iload_n hx hb dX10_wall_5 rfl (lv_at hl 1 rfl) ?_
    refine lv_iload_n hx hb dX10_wall_6 rfl (lv_at hl 2 rfl) ?_
    obtain ⟨r_2, s_2, e_2, hf⟩ := mm_bd_ok hf
    refine mm_callV X hP hS hl.1 [.int x1, .int x2] [.ref (ad 6 9 0)] (cx_X8_flipWall l D ad cA hI 1 x1 x2 (by decide) s_1 r_2 s_2 e_2) (mm_kr 1 (by decide) 0 (by decide)) rfl rfl wd_496 wd_497 wd_498 wd_2 wd_499 hd_X8_flipWall ⟨Nat.le_of_ble_eq_true rfl, Nat.le_of_ble_eq_true rfl⟩ rfl (Nat.le_of_ble_eq_true rfl) dX10_wall_7 (fun H locs hP hS => ?_)
    obtain ⟨r_3, s_3, e_3, hf⟩ := mm_bd_ok hf
    refine mm_callV X hP hS hl.1 [.int r_2] [] (cx_X10_keep l D ad cA hI r_2 s_2 r_3 s_3 e_3) kp_9 rfl rfl wd_465 wd_467 wp_1 wd_1 wd_468 hd_X10_keep ⟨Nat.le_of_ble_eq_true rfl, Nat.le_of_ble_eq_true rfl⟩ rfl (Nat.le_of_ble_eq_true rfl) dX10_wall_10 (fun H locs hP hS => ?_)
    obtain ⟨rfl, rfl⟩ := mm_ret hf
    exact mm_iret X hP hS dX10_wall_13
  exact hgen _ _ hP hS
def fx_J9_max_7cf53 (x0 : Int32) (x1 : Int32) (σ : mm_M) : mm_R := if x0 < x1 then some (x1, σ) else some (x0, σ)
set_option maxHeartbeats 4000000 in
set_option maxRecDepth 100000 in
theorem cx_J9_max_7cf53 (l : Launch) (D : va_G) (ad : mm_A) (cA : Nat → ClassId) (hI : mm_Inj ad) (x0 : Int32) (x1 : Int32)  (σ : mm_M) (rv : Int32) (σ1 : mm_M) (hf : fx_J9_max_7cf53 x0 x1 σ = some (rv, σ1)) : Met l yJ9_max_7cf53 (Cond.code yJ9_max_7cf53 cJ9_max_7cf53 2 (some .int) :: tb) (mm_rm 0 0) (mm_pre D ad cA [.int x0, .int x1] σ) (mm_Q D ad cA (some (.int rv)) σ1) 0 0 (mm_AS ad) := by
  refine mm_startF (by decide +kernel) hI (Nat.le_of_ble_eq_true rfl) ?_
  intro p e s m args below meth c X hP ls hl
  have hl : lv_has ls 2 [(0, .int x0), (1, .int x1)] := hl
  have hx := X.1
  have hb := X.2.1
  have hS : va_S (mm_AS ad) s.heap s.heap [] := va_S.rf
  have hgen : ∀ (H : Heap) (locs : List Loc), va_P D vwCl (mm_wd ad cA σ) H → va_S (mm_AS ad) s.heap H locs → W p l e (mm_rm 0 0) s m args below meth c H locs 0 0 (MQ below (mm_Q D ad cA (some (.int rv)) σ1) args s 0 0 (mm_AS ad)) (F0 m 0 ls []) := by
    intro H locs hP hS
    rw [fx_J9_max_7cf53] at hf
    refine lv_iload_n hx hb dJ9_max_7cf53_0 rfl (lv_at hl 0 rfl) ?_
    refine lv_iload_n hx hb dJ9_max_7cf53_1 rfl (lv_at hl 1 rfl) ?_
    refine lv_icmp_lt (tgt := 9) hx hb dJ9_max_7cf53_2 (by decide) (fun c_1 => ?_) (fun c_1 => ?_)
    · replace hf := mm_it c_1 hf
      refine lv_iload_n hx hb dJ9_max_7cf53_9 rfl (lv_at hl 1 rfl) ?_
      obtain ⟨rfl, rfl⟩ := mm_ret hf
      exact mm_iret X hP hS dJ9_max_7cf53_10
    · replace hf := mm_if c_1 hf
      refine lv_iload_n hx hb dJ9_max_7cf53_5 rfl (lv_at hl 0 rfl) ?_
      refine lv_goto (tgt := 10) hx hb dJ9_max_7cf53_6 (by decide) ?_
      obtain ⟨rfl, rfl⟩ := mm_ret hf
      exact mm_iret X hP hS dJ9_max_7cf53_10
  exact hgen _ _ hP hS
def fx_X8_layFlag (r0 : Nat) (x1 : Int32) (x2 : Int32) (σ : mm_M) : mm_R := mm_bd (fx_X10_isWithin x1 (0 : Int32) (3 : Int32) σ) fun r_1 s_1 => (if r_1 = (0 : Int32) then some ((-1000001 : Int32), s_1) else mm_bd (fx_X10_isCell x2 s_1) fun r_3 s_3 => (if r_3 = (0 : Int32) then some ((-1000001 : Int32), s_3) else if x1 ≤ (s_3 r0 1 0 3) then mm_gd (mm_ix x1 4 = true) (mm_lt (mm_u s_3 r0 4 0 x1.toNatClampNeg x2) fun s_7 => (mm_bd (fx_J9_max_7cf53 (s_7 r0 1 0 3) (x1 + (1 : Int32)) s_7) fun r_8 s_8 => (mm_lt (mm_u s_8 r0 1 0 3 r_8) fun s_9 => (some (s_9 r0 1 0 3, s_9))))) else some ((-1000002 : Int32), s_3)))
set_option maxHeartbeats 4000000 in
set_option maxRecDepth 100000 in
theorem cx_X8_layFlag (l : Launch) (D : va_G) (ad : mm_A) (cA : Nat → ClassId) (hI : mm_Inj ad) (r0 : Nat) (x1 : Int32) (x2 : Int32) (hr0 : r0 < 6) (σ : mm_M) (rv : Int32) (σ1 : mm_M) (hf : fx_X8_layFlag r0 x1 x2 σ = some (rv, σ1)) : Met l yX8_layFlag (Cond.code yX8_layFlag cX8_layFlag 3 (some .int) :: tb) (mm_rm 1 22) (mm_pre D ad cA [.ref (ad r0 0 0), .int x1, .int x2] σ) (mm_Q D ad cA (some (.int rv)) σ1) 0 0 (mm_AS ad) := by
  refine mm_start (by decide +kernel) hI (Nat.le_of_ble_eq_true rfl) ?_
  intro p e s m args below meth c X hP ls hl
  have hl : lv_has ls 3 [(0, .ref (ad r0 0 0)), (1, .int x1), (2, .int x2)] := hl
  have hx := X.1
  have hb := X.2.1
  have hS : va_S (mm_AS ad) s.heap s.heap [] := va_S.rf
  have hgen : ∀ (H : Heap) (locs : List Loc), va_P D vwCl (mm_wd ad cA σ) H → va_S (mm_AS ad) s.heap H locs → W p l e (mm_rm 1 22) s m args below meth c H locs 0 0 (MQ below (mm_Q D ad cA (some (.int rv)) σ1) args s 0 0 (mm_AS ad)) (F0 m 0 ls []) := by
    intro H locs hP hS
    rw [fx_X8_layFlag] at hf
    refine lv_iload_n hx hb dX8_layFlag_0 rfl (lv_at hl 1 rfl) ?_
    refine lv_iconst (v := (0 : Int32)) hx hb dX8_layFlag_1 (by decide) ?_
    refine lv_iconst (v := (3 : Int32)) hx hb dX8_layFlag_2 (by decide) ?_
    obtain ⟨r_1, s_1, e_1, hf⟩ := mm_bd_ok hf
    refine mm_callN (host := "LockedCarts") X hP hS hl.1 [.int x1, .int (0 : Int32), .int (3 : Int32)] [] (cx_X10_isWithin l D ad cA hI x1 (0 : Int32) (3 : Int32) σ r_1 s_1 e_1) nw_12 wd_365 wd_1 wd_366 hd_X10_isWithin ⟨Nat.le_of_ble_eq_true rfl, Nat.le_of_ble_eq_true rfl⟩ rfl (Nat.le_of_ble_eq_true rfl) dX8_layFlag_3 (fun H locs hP hS => ?_)
    refine lv_if_eq (tgt := 16) hx hb dX8_layFlag_6 (by decide) (fun c_2 => ?_) (fun c_2 => ?_)
    · replace hf := mm_it c_2 hf
      refine lv_ldc (v := (-1000001 : Int32)) hx hb X.2.2.2.2.2.1 (X.2.2.2.2.2.2.1 _ wd_454) dX8_layFlag_16 ?_
      obtain ⟨rfl, rfl⟩ := mm_ret hf
      exact mm_iret X hP hS dX8_layFlag_18
    · replace hf := mm_if c_2 hf
      refine lv_iload_n hx hb dX8_layFlag_9 rfl (lv_at hl 2 rfl) ?_
      obtain ⟨r_3, s_3, e_3, hf⟩ := mm_bd_ok hf
      refine mm_callN (host := "LockedCarts") X hP hS hl.1 [.int x2] [] (cx_X10_isCell l D ad cA hI x2 s_1 r_3 s_3 e_3) nw_10 wd_362 wd_1 wd_363 hd_X10_isCell ⟨Nat.le_of_ble_eq_true rfl, Nat.le_of_ble_eq_true rfl⟩ rfl (Nat.le_of_ble_eq_true rfl) dX8_layFlag_10 (fun H locs hP hS => ?_)
      refine lv_if_ne (tgt := 19) hx hb dX8_layFlag_13 (by decide) (fun c_4 => ?_) (fun c_4 => ?_)
      · replace hf := mm_if c_4 hf
        refine lv_iload_n hx hb dX8_layFlag_19 rfl (lv_at hl 1 rfl) ?_
        refine lv_aload_n hx hb dX8_layFlag_20 rfl (lv_at hl 0 rfl) ?_
        refine gf_0_0 X hP hr0 wd_106 dX8_layFlag_21 ?_
        refine gf_1_3 X hP hr0 wd_43 dX8_layFlag_24 ?_
        refine lv_icmp_le (tgt := 33) hx hb dX8_layFlag_27 (by decide) (fun c_5 => ?_) (fun c_5 => ?_)
        · replace hf := mm_it c_5 hf
          refine lv_aload_n hx hb dX8_layFlag_33 rfl (lv_at hl 0 rfl) ?_
          refine gf_0_0 X hP hr0 wd_106 dX8_layFlag_34 ?_
          refine gf_1_2 X hP hr0 wd_40 dX8_layFlag_37 ?_
          refine lv_iload_n hx hb dX8_layFlag_40 rfl (lv_at hl 1 rfl) ?_
          refine lv_iload_n hx hb dX8_layFlag_41 rfl (lv_at hl 2 rfl) ?_
          obtain ⟨h_6, hf⟩ := mm_gd_ok hf
          refine as_4 X hP hS hr0 h_6  dX8_layFlag_42 (fun H locs hP hS => ?_)
          obtain ⟨s_7, e_7, hf⟩ := mm_lt_ok hf
          rw [← e_7] at hP
          refine lv_aload_n hx hb dX8_layFlag_43 rfl (lv_at hl 0 rfl) ?_
          refine gf_0_0 X hP hr0 wd_106 dX8_layFlag_44 ?_
          refine lv_aload_n hx hb dX8_layFlag_47 rfl (lv_at hl 0 rfl) ?_
          refine gf_0_0 X hP hr0 wd_106 dX8_layFlag_48 ?_
          refine gf_1_3 X hP hr0 wd_43 dX8_layFlag_51 ?_
          refine lv_iload_n hx hb dX8_layFlag_54 rfl (lv_at hl 1 rfl) ?_
          refine lv_iconst (v := (1 : Int32)) hx hb dX8_layFlag_55 (by decide) ?_
          refine lv_iadd hx hb dX8_layFlag_56 ?_
          obtain ⟨r_8, s_8, e_8, hf⟩ := mm_bd_ok hf
          refine mm_callS X hP hS hl.1 [.int (s_7 r0 1 0 3), .int (x1 + (1 : Int32))] [.ref (ad r0 1 0)] (cx_J9_max_7cf53 l D ad cA hI (s_7 r0 1 0 3) (x1 + (1 : Int32)) s_7 r_8 s_8 e_8) wd_526 wd_412 wd_12 wd_413 hd_J9_max_7cf53 ⟨Nat.le_of_ble_eq_true rfl, Nat.le_of_ble_eq_true rfl⟩ rfl (Nat.le_of_ble_eq_true rfl) dX8_layFlag_57 (fun H locs hP hS => ?_)
          refine pf_1_3 X hP hS hr0 wd_43  dX8_layFlag_60 (fun H locs hP hS => ?_)
          obtain ⟨s_9, e_9, hf⟩ := mm_lt_ok hf
          rw [← e_9] at hP
          refine lv_aload_n hx hb dX8_layFlag_63 rfl (lv_at hl 0 rfl) ?_
          refine gf_0_0 X hP hr0 wd_106 dX8_layFlag_64 ?_
          refine gf_1_3 X hP hr0 wd_43 dX8_layFlag_67 ?_
          obtain ⟨rfl, rfl⟩ := mm_ret hf
          exact mm_iret X hP hS dX8_layFlag_70
        · replace hf := mm_if c_5 hf
          refine lv_ldc (v := (-1000002 : Int32)) hx hb X.2.2.2.2.2.1 (X.2.2.2.2.2.2.1 _ wd_459) dX8_layFlag_30 ?_
          obtain ⟨rfl, rfl⟩ := mm_ret hf
          exact mm_iret X hP hS dX8_layFlag_32
      · replace hf := mm_it c_4 hf
        refine lv_ldc (v := (-1000001 : Int32)) hx hb X.2.2.2.2.2.1 (X.2.2.2.2.2.2.1 _ wd_454) dX8_layFlag_16 ?_
        obtain ⟨rfl, rfl⟩ := mm_ret hf
        exact mm_iret X hP hS dX8_layFlag_18
  exact hgen _ _ hP hS
def fx_X10_flag (x1 : Int32) (x2 : Int32) (σ : mm_M) : mm_R := mm_bd (fx_X10_freshTrial  σ) fun _ s_1 => (mm_bd (fx_X8_layFlag 1 x1 x2 s_1) fun r_2 s_2 => (mm_bd (fx_X10_keep r_2 s_2) fun r_3 s_3 => (some (r_3, s_3))))
set_option maxHeartbeats 4000000 in
set_option maxRecDepth 100000 in
theorem cx_X10_flag (l : Launch) (D : va_G) (ad : mm_A) (cA : Nat → ClassId) (hI : mm_Inj ad) (x1 : Int32) (x2 : Int32)  (σ : mm_M) (rv : Int32) (σ1 : mm_M) (hf : fx_X10_flag x1 x2 σ = some (rv, σ1)) : Met l yX10_flag (Cond.code yX10_flag cX10_flag 3 (some .int) :: tb) (mm_rm 5 103) (mm_pre D ad cA [.ref (ad 6 9 0), .int x1, .int x2] σ) (mm_Q D ad cA (some (.int rv)) σ1) 0 0 (mm_AS ad) := by
  refine mm_start (by decide +kernel) hI (Nat.le_of_ble_eq_true rfl) ?_
  intro p e s m args below meth c X hP ls hl
  have hl : lv_has ls 3 [(0, .ref (ad 6 9 0)), (1, .int x1), (2, .int x2)] := hl
  have hx := X.1
  have hb := X.2.1
  have hS : va_S (mm_AS ad) s.heap s.heap [] := va_S.rf
  have hgen : ∀ (H : Heap) (locs : List Loc), va_P D vwCl (mm_wd ad cA σ) H → va_S (mm_AS ad) s.heap H locs → W p l e (mm_rm 5 103) s m args below meth c H locs 0 0 (MQ below (mm_Q D ad cA (some (.int rv)) σ1) args s 0 0 (mm_AS ad)) (F0 m 0 ls []) := by
    intro H locs hP hS
    rw [fx_X10_flag] at hf
    refine lv_aload_n hx hb dX10_flag_0 rfl (lv_at hl 0 rfl) ?_
    refine lv_aload_n hx hb dX10_flag_1 rfl (lv_at hl 0 rfl) ?_
    obtain ⟨r_1, s_1, e_1, hf⟩ := mm_bd_ok hf
    refine mm_callV X hP hS hl.1 [] [.ref (ad 6 9 0)] (cx_X10_freshTrial l D ad cA hI  σ r_1 s_1 e_1) kp_9 rfl rfl wd_441 wd_443 wp_0 wd_1 wd_444 hd_X10_freshTrial ⟨Nat.le_of_ble_eq_true rfl, Nat.le_of_ble_eq_true rfl⟩ rfl (Nat.le_of_ble_eq_true rfl) dX10_flag_2 (fun H locs hP hS => ?_)
    refine lv_iload_n hx hb dX10_flag_5 rfl (lv_at hl 1 rfl) ?_
    refine lv_iload_n hx hb dX10_flag_6 rfl (lv_at hl 2 rfl) ?_
    obtain ⟨r_2, s_2, e_2, hf⟩ := mm_bd_ok hf
    refine mm_callV X hP hS hl.1 [.int x1, .int x2] [.ref (ad 6 9 0)] (cx_X8_layFlag l D ad cA hI 1 x1 x2 (by decide) s_1 r_2 s_2 e_2) (mm_kr 1 (by decide) 0 (by decide)) rfl rfl wd_522 wd_523 wd_524 wd_2 wd_525 hd_X8_layFlag ⟨Nat.le_of_ble_eq_true rfl, Nat.le_of_ble_eq_true rfl⟩ rfl (Nat.le_of_ble_eq_true rfl) dX10_flag_7 (fun H locs hP hS => ?_)
    obtain ⟨r_3, s_3, e_3, hf⟩ := mm_bd_ok hf
    refine mm_callV X hP hS hl.1 [.int r_2] [] (cx_X10_keep l D ad cA hI r_2 s_2 r_3 s_3 e_3) kp_9 rfl rfl wd_465 wd_467 wp_1 wd_1 wd_468 hd_X10_keep ⟨Nat.le_of_ble_eq_true rfl, Nat.le_of_ble_eq_true rfl⟩ rfl (Nat.le_of_ble_eq_true rfl) dX10_flag_10 (fun H locs hP hS => ?_)
    obtain ⟨rfl, rfl⟩ := mm_ret hf
    exact mm_iret X hP hS dX10_flag_13
  exact hgen _ _ hP hS
def fx_X1_isPit (r0 : Nat) (x1 : Int32) (σ : mm_M) : mm_R := if x1 < (0 : Int32) then some ((0 : Int32), σ) else if (64 : Int32) ≤ x1 then some ((0 : Int32), σ) else mm_gd (mm_ix x1 64 = true) (if (σ r0 2 0 x1.toNatClampNeg) = (7 : Int32) then some ((1 : Int32), σ) else some ((0 : Int32), σ))
set_option maxHeartbeats 4000000 in
set_option maxRecDepth 100000 in
theorem cx_X1_isPit (l : Launch) (D : va_G) (ad : mm_A) (cA : Nat → ClassId) (hI : mm_Inj ad) (r0 : Nat) (x1 : Int32) (hr0 : r0 < 6) (σ : mm_M) (rv : Int32) (σ1 : mm_M) (hf : fx_X1_isPit r0 x1 σ = some (rv, σ1)) : Met l yX1_isPit (Cond.code yX1_isPit cX1_isPit 2 (some .boolean) :: tb) (mm_rm 0 0) (mm_pre D ad cA [.ref (ad r0 1 0), .int x1] σ) (mm_Q D ad cA (some (.int rv)) σ1) 0 0 (mm_AS ad) := by
  refine mm_start (by decide +kernel) hI (Nat.le_of_ble_eq_true rfl) ?_
  intro p e s m args below meth c X hP ls hl
  have hl : lv_has ls 2 [(0, .ref (ad r0 1 0)), (1, .int x1)] := hl
  have hx := X.1
  have hb := X.2.1
  have hS : va_S (mm_AS ad) s.heap s.heap [] := va_S.rf
  have hgen : ∀ (H : Heap) (locs : List Loc), va_P D vwCl (mm_wd ad cA σ) H → va_S (mm_AS ad) s.heap H locs → W p l e (mm_rm 0 0) s m args below meth c H locs 0 0 (MQ below (mm_Q D ad cA (some (.int rv)) σ1) args s 0 0 (mm_AS ad)) (F0 m 0 ls []) := by
    intro H locs hP hS
    rw [fx_X1_isPit] at hf
    refine lv_iload_n hx hb dX1_isPit_0 rfl (lv_at hl 1 rfl) ?_
    refine lv_if_lt (tgt := 25) hx hb dX1_isPit_1 (by decide) (fun c_1 => ?_) (fun c_1 => ?_)
    · replace hf := mm_it c_1 hf
      refine lv_iconst (v := (0 : Int32)) hx hb dX1_isPit_25 (by decide) ?_
      obtain ⟨rfl, rfl⟩ := mm_ret hf
      exact mm_zret (Or.inl rfl) X hP hS dX1_isPit_26
    · replace hf := mm_if c_1 hf
      refine lv_iload_n hx hb dX1_isPit_4 rfl (lv_at hl 1 rfl) ?_
      refine lv_bipush (v := (64 : Int32)) hx hb dX1_isPit_5 (by decide) ?_
      refine lv_icmp_ge (tgt := 25) hx hb dX1_isPit_7 (by decide) (fun c_2 => ?_) (fun c_2 => ?_)
      · replace hf := mm_it c_2 hf
        refine lv_iconst (v := (0 : Int32)) hx hb dX1_isPit_25 (by decide) ?_
        obtain ⟨rfl, rfl⟩ := mm_ret hf
        exact mm_zret (Or.inl rfl) X hP hS dX1_isPit_26
      · replace hf := mm_if c_2 hf
        refine lv_aload_n hx hb dX1_isPit_10 rfl (lv_at hl 0 rfl) ?_
        refine gf_1_0 X hP hr0 wd_36 dX1_isPit_11 ?_
        refine lv_iload_n hx hb dX1_isPit_14 rfl (lv_at hl 1 rfl) ?_
        obtain ⟨h_3, hf⟩ := mm_gd_ok hf
        refine al_2 X hP hr0 h_3 dX1_isPit_15 ?_
        refine lv_bipush (v := (7 : Int32)) hx hb dX1_isPit_16 (by decide) ?_
        refine lv_icmp_ne (tgt := 25) hx hb dX1_isPit_18 (by decide) (fun c_4 => ?_) (fun c_4 => ?_)
        · replace hf := mm_if c_4 hf
          refine lv_iconst (v := (0 : Int32)) hx hb dX1_isPit_25 (by decide) ?_
          obtain ⟨rfl, rfl⟩ := mm_ret hf
          exact mm_zret (Or.inl rfl) X hP hS dX1_isPit_26
        · replace hf := mm_it c_4 hf
          refine lv_iconst (v := (1 : Int32)) hx hb dX1_isPit_21 (by decide) ?_
          refine lv_goto (tgt := 26) hx hb dX1_isPit_22 (by decide) ?_
          obtain ⟨rfl, rfl⟩ := mm_ret hf
          exact mm_zret (Or.inr rfl) X hP hS dX1_isPit_26
  exact hgen _ _ hP hS
def fx_X3_begin (r0 : Nat) (n0 : Nat) (x1 : Int32) (x2 : Int32) (σ : mm_M) : mm_R := mm_lt (mm_u σ r0 6 n0 2 x1) fun s_1 => (mm_lt (mm_u s_1 r0 6 n0 3 x1) fun s_2 => (mm_lt (mm_u s_2 r0 6 n0 4 x2) fun s_3 => (some (0, s_3))))
set_option maxHeartbeats 4000000 in
set_option maxRecDepth 100000 in
theorem cx_X3_begin (l : Launch) (D : va_G) (ad : mm_A) (cA : Nat → ClassId) (hI : mm_Inj ad) (r0 : Nat) (n0 : Nat) (x1 : Int32) (x2 : Int32) (hr0 : r0 < 6) (hn0 : n0 < 4) (σ : mm_M) (rv : Int32) (σ1 : mm_M) (hf : fx_X3_begin r0 n0 x1 x2 σ = some (rv, σ1)) : Met l yX3_begin (Cond.code yX3_begin cX3_begin 3 none :: tb) (mm_rm 0 0) (mm_pre D ad cA [.ref (ad r0 6 n0), .int x1, .int x2] σ) (mm_Q D ad cA none σ1) 0 0 (mm_AS ad) := by
  refine mm_start (by decide +kernel) hI (Nat.le_of_ble_eq_true rfl) ?_
  intro p e s m args below meth c X hP ls hl
  have hl : lv_has ls 3 [(0, .ref (ad r0 6 n0)), (1, .int x1), (2, .int x2)] := hl
  have hx := X.1
  have hb := X.2.1
  have hS : va_S (mm_AS ad) s.heap s.heap [] := va_S.rf
  have hgen : ∀ (H : Heap) (locs : List Loc), va_P D vwCl (mm_wd ad cA σ) H → va_S (mm_AS ad) s.heap H locs → W p l e (mm_rm 0 0) s m args below meth c H locs 0 0 (MQ below (mm_Q D ad cA none σ1) args s 0 0 (mm_AS ad)) (F0 m 0 ls []) := by
    intro H locs hP hS
    rw [fx_X3_begin] at hf
    refine lv_aload_n hx hb dX3_begin_0 rfl (lv_at hl 0 rfl) ?_
    refine lv_iload_n hx hb dX3_begin_1 rfl (lv_at hl 1 rfl) ?_
    refine pf_6_2 X hP hS hr0 hn0 wd_68  dX3_begin_2 (fun H locs hP hS => ?_)
    obtain ⟨s_1, e_1, hf⟩ := mm_lt_ok hf
    rw [← e_1] at hP
    refine lv_aload_n hx hb dX3_begin_5 rfl (lv_at hl 0 rfl) ?_
    refine lv_iload_n hx hb dX3_begin_6 rfl (lv_at hl 1 rfl) ?_
    refine pf_6_3 X hP hS hr0 hn0 wd_70  dX3_begin_7 (fun H locs hP hS => ?_)
    obtain ⟨s_2, e_2, hf⟩ := mm_lt_ok hf
    rw [← e_2] at hP
    refine lv_aload_n hx hb dX3_begin_10 rfl (lv_at hl 0 rfl) ?_
    refine lv_iload_n hx hb dX3_begin_11 rfl (lv_at hl 2 rfl) ?_
    refine pf_6_4 X hP hS hr0 hn0 wd_75  dX3_begin_12 (fun H locs hP hS => ?_)
    obtain ⟨s_3, e_3, hf⟩ := mm_lt_ok hf
    rw [← e_3] at hP
    obtain ⟨rfl, rfl⟩ := mm_ret hf
    exact mm_vret X hP hS dX3_begin_15
  exact hgen _ _ hP hS
def fx_X8_addCart (r0 : Nat) (x1 : Int32) (x2 : Int32) (σ : mm_M) : mm_R := mm_bd (fx_X10_isCell x1 σ) fun r_1 s_1 => (if r_1 = (0 : Int32) then some ((-1000001 : Int32), s_1) else mm_bd (fx_X10_isDirection x2 s_1) fun r_3 s_3 => (if r_3 = (0 : Int32) then some ((-1000001 : Int32), s_3) else mm_bd (fx_X8_cartOn r0 x1 s_3) fun r_5 s_5 => (if r_5 = (-1 : Int32) then mm_bd (fx_X1_isPit r0 x1 s_5) fun r_7 s_7 => (if r_7 = (0 : Int32) then if (s_7 r0 0 0 2) < (4 : Int32) then mm_gd (mm_ix (s_7 r0 0 0 2) 4 = true) (mm_bd (fx_X3_begin r0 ((s_7 r0 0 0 2).toNatClampNeg) x1 x2 s_7) fun _ s_11 => (mm_lt (mm_u s_11 r0 0 0 2 ((s_11 r0 0 0 2) + (1 : Int32))) fun s_12 => (some ((s_12 r0 0 0 2) - (1 : Int32), s_12)))) else some ((-1000003 : Int32), s_7) else some ((-1000002 : Int32), s_7)) else some ((-1000002 : Int32), s_5))))
set_option maxHeartbeats 4000000 in
set_option maxRecDepth 100000 in
theorem cx_X8_addCart (l : Launch) (D : va_G) (ad : mm_A) (cA : Nat → ClassId) (hI : mm_Inj ad) (r0 : Nat) (x1 : Int32) (x2 : Int32) (hr0 : r0 < 6) (σ : mm_M) (rv : Int32) (σ1 : mm_M) (hf : fx_X8_addCart r0 x1 x2 σ = some (rv, σ1)) : Met l yX8_addCart (Cond.code yX8_addCart cX8_addCart 3 (some .int) :: tb) (mm_rm 1 22) (mm_pre D ad cA [.ref (ad r0 0 0), .int x1, .int x2] σ) (mm_Q D ad cA (some (.int rv)) σ1) 0 0 (mm_AS ad) := by
  refine mm_start (by decide +kernel) hI (Nat.le_of_ble_eq_true rfl) ?_
  intro p e s m args below meth c X hP ls hl
  have hl : lv_has ls 3 [(0, .ref (ad r0 0 0)), (1, .int x1), (2, .int x2)] := hl
  have hx := X.1
  have hb := X.2.1
  have hS : va_S (mm_AS ad) s.heap s.heap [] := va_S.rf
  have hgen : ∀ (H : Heap) (locs : List Loc), va_P D vwCl (mm_wd ad cA σ) H → va_S (mm_AS ad) s.heap H locs → W p l e (mm_rm 1 22) s m args below meth c H locs 0 0 (MQ below (mm_Q D ad cA (some (.int rv)) σ1) args s 0 0 (mm_AS ad)) (F0 m 0 ls []) := by
    intro H locs hP hS
    rw [fx_X8_addCart] at hf
    refine lv_iload_n hx hb dX8_addCart_0 rfl (lv_at hl 1 rfl) ?_
    obtain ⟨r_1, s_1, e_1, hf⟩ := mm_bd_ok hf
    refine mm_callN (host := "LockedCarts") X hP hS hl.1 [.int x1] [] (cx_X10_isCell l D ad cA hI x1 σ r_1 s_1 e_1) nw_10 wd_362 wd_1 wd_363 hd_X10_isCell ⟨Nat.le_of_ble_eq_true rfl, Nat.le_of_ble_eq_true rfl⟩ rfl (Nat.le_of_ble_eq_true rfl) dX8_addCart_1 (fun H locs hP hS => ?_)
    refine lv_if_eq (tgt := 14) hx hb dX8_addCart_4 (by decide) (fun c_2 => ?_) (fun c_2 => ?_)
    · replace hf := mm_it c_2 hf
      refine lv_ldc (v := (-1000001 : Int32)) hx hb X.2.2.2.2.2.1 (X.2.2.2.2.2.2.1 _ wd_454) dX8_addCart_14 ?_
      obtain ⟨rfl, rfl⟩ := mm_ret hf
      exact mm_iret X hP hS dX8_addCart_16
    · replace hf := mm_if c_2 hf
      refine lv_iload_n hx hb dX8_addCart_7 rfl (lv_at hl 2 rfl) ?_
      obtain ⟨r_3, s_3, e_3, hf⟩ := mm_bd_ok hf
      refine mm_callN (host := "LockedCarts") X hP hS hl.1 [.int x2] [] (cx_X10_isDirection l D ad cA hI x2 s_1 r_3 s_3 e_3) nw_11 wd_452 wd_1 wd_453 hd_X10_isDirection ⟨Nat.le_of_ble_eq_true rfl, Nat.le_of_ble_eq_true rfl⟩ rfl (Nat.le_of_ble_eq_true rfl) dX8_addCart_8 (fun H locs hP hS => ?_)
      refine lv_if_ne (tgt := 17) hx hb dX8_addCart_11 (by decide) (fun c_4 => ?_) (fun c_4 => ?_)
      · replace hf := mm_if c_4 hf
        refine lv_aload_n hx hb dX8_addCart_17 rfl (lv_at hl 0 rfl) ?_
        refine lv_iload_n hx hb dX8_addCart_18 rfl (lv_at hl 1 rfl) ?_
        obtain ⟨r_5, s_5, e_5, hf⟩ := mm_bd_ok hf
        refine mm_callV X hP hS hl.1 [.int x1] [] (cx_X8_cartOn l D ad cA hI r0 x1 hr0 s_3 r_5 s_5 e_5) (mm_kr r0 hr0 0 (by decide)) rfl rfl wd_379 wd_380 wd_381 wd_2 wd_382 hd_X8_cartOn ⟨Nat.le_of_ble_eq_true rfl, Nat.le_of_ble_eq_true rfl⟩ rfl (Nat.le_of_ble_eq_true rfl) dX8_addCart_19 (fun H locs hP hS => ?_)
        refine lv_iconst (v := (-1 : Int32)) hx hb dX8_addCart_22 (by decide) ?_
        refine lv_icmp_ne (tgt := 37) hx hb dX8_addCart_23 (by decide) (fun c_6 => ?_) (fun c_6 => ?_)
        · replace hf := mm_if c_6 hf
          refine lv_ldc (v := (-1000002 : Int32)) hx hb X.2.2.2.2.2.1 (X.2.2.2.2.2.2.1 _ wd_459) dX8_addCart_37 ?_
          obtain ⟨rfl, rfl⟩ := mm_ret hf
          exact mm_iret X hP hS dX8_addCart_39
        · replace hf := mm_it c_6 hf
          refine lv_aload_n hx hb dX8_addCart_26 rfl (lv_at hl 0 rfl) ?_
          refine gf_0_0 X hP hr0 wd_106 dX8_addCart_27 ?_
          refine lv_iload_n hx hb dX8_addCart_30 rfl (lv_at hl 1 rfl) ?_
          obtain ⟨r_7, s_7, e_7, hf⟩ := mm_bd_ok hf
          refine mm_callV X hP hS hl.1 [.int x1] [] (cx_X1_isPit l D ad cA hI r0 x1 hr0 s_5 r_7 s_7 e_7) (mm_kr r0 hr0 1 (by decide)) rfl rfl wd_455 wd_456 wd_457 wd_3 wd_458 hd_X1_isPit ⟨Nat.le_of_ble_eq_true rfl, Nat.le_of_ble_eq_true rfl⟩ rfl (Nat.le_of_ble_eq_true rfl) dX8_addCart_31 (fun H locs hP hS => ?_)
          refine lv_if_eq (tgt := 40) hx hb dX8_addCart_34 (by decide) (fun c_8 => ?_) (fun c_8 => ?_)
          · replace hf := mm_it c_8 hf
            refine lv_aload_n hx hb dX8_addCart_40 rfl (lv_at hl 0 rfl) ?_
            refine gf_0_2 X hP hr0 wd_117 dX8_addCart_41 ?_
            refine lv_iconst (v := (4 : Int32)) hx hb dX8_addCart_44 (by decide) ?_
            refine lv_icmp_lt (tgt := 51) hx hb dX8_addCart_45 (by decide) (fun c_9 => ?_) (fun c_9 => ?_)
            · replace hf := mm_it c_9 hf
              refine lv_aload_n hx hb dX8_addCart_51 rfl (lv_at hl 0 rfl) ?_
              refine gf_0_1 X hP hr0 wd_110 dX8_addCart_52 ?_
              refine lv_aload_n hx hb dX8_addCart_55 rfl (lv_at hl 0 rfl) ?_
              refine gf_0_2 X hP hr0 wd_117 dX8_addCart_56 ?_
              obtain ⟨h_10, hf⟩ := mm_gd_ok hf
              refine mm_cart X hP hr0 h_10 dX8_addCart_59 ?_
              refine lv_iload_n hx hb dX8_addCart_60 rfl (lv_at hl 1 rfl) ?_
              refine lv_iload_n hx hb dX8_addCart_61 rfl (lv_at hl 2 rfl) ?_
              obtain ⟨r_11, s_11, e_11, hf⟩ := mm_bd_ok hf
              refine mm_callV X hP hS hl.1 [.int x1, .int x2] [] (cx_X3_begin l D ad cA hI r0 ((s_7 r0 0 0 2).toNatClampNeg) x1 x2 hr0 (mm_ix_lt h_10) s_7 r_11 s_11 e_11) (mm_kc r0 hr0 ((s_7 r0 0 0 2).toNatClampNeg) (mm_ix_lt h_10) 0 (by decide)) rfl rfl wd_461 wd_462 wd_463 wd_4 wd_464 hd_X3_begin ⟨Nat.le_of_ble_eq_true rfl, Nat.le_of_ble_eq_true rfl⟩ rfl (Nat.le_of_ble_eq_true rfl) dX8_addCart_62 (fun H locs hP hS => ?_)
              refine lv_aload_n hx hb dX8_addCart_65 rfl (lv_at hl 0 rfl) ?_
              refine lv_dup hx hb dX8_addCart_66 rfl ?_
              refine gf_0_2 X hP hr0 wd_117 dX8_addCart_67 ?_
              refine lv_iconst (v := (1 : Int32)) hx hb dX8_addCart_70 (by decide) ?_
              refine lv_iadd hx hb dX8_addCart_71 ?_
              refine pf_0_2 X hP hS hr0 wd_117  dX8_addCart_72 (fun H locs hP hS => ?_)
              obtain ⟨s_12, e_12, hf⟩ := mm_lt_ok hf
              rw [← e_12] at hP
              refine lv_aload_n hx hb dX8_addCart_75 rfl (lv_at hl 0 rfl) ?_
              refine gf_0_2 X hP hr0 wd_117 dX8_addCart_76 ?_
              refine lv_iconst (v := (1 : Int32)) hx hb dX8_addCart_79 (by decide) ?_
              refine lv_isub hx hb dX8_addCart_80 ?_
              obtain ⟨rfl, rfl⟩ := mm_ret hf
              exact mm_iret X hP hS dX8_addCart_81
            · replace hf := mm_if c_9 hf
              refine lv_ldc (v := (-1000003 : Int32)) hx hb X.2.2.2.2.2.1 (X.2.2.2.2.2.2.1 _ wd_460) dX8_addCart_48 ?_
              obtain ⟨rfl, rfl⟩ := mm_ret hf
              exact mm_iret X hP hS dX8_addCart_50
          · replace hf := mm_if c_8 hf
            refine lv_ldc (v := (-1000002 : Int32)) hx hb X.2.2.2.2.2.1 (X.2.2.2.2.2.2.1 _ wd_459) dX8_addCart_37 ?_
            obtain ⟨rfl, rfl⟩ := mm_ret hf
            exact mm_iret X hP hS dX8_addCart_39
      · replace hf := mm_it c_4 hf
        refine lv_ldc (v := (-1000001 : Int32)) hx hb X.2.2.2.2.2.1 (X.2.2.2.2.2.2.1 _ wd_454) dX8_addCart_14 ?_
        obtain ⟨rfl, rfl⟩ := mm_ret hf
        exact mm_iret X hP hS dX8_addCart_16
  exact hgen _ _ hP hS
def fx_X10_cart (x1 : Int32) (x2 : Int32) (σ : mm_M) : mm_R := mm_bd (fx_X10_freshTrial  σ) fun _ s_1 => (mm_bd (fx_X8_addCart 1 x1 x2 s_1) fun r_2 s_2 => (mm_bd (fx_X10_keep r_2 s_2) fun r_3 s_3 => (some (r_3, s_3))))
set_option maxHeartbeats 4000000 in
set_option maxRecDepth 100000 in
theorem cx_X10_cart (l : Launch) (D : va_G) (ad : mm_A) (cA : Nat → ClassId) (hI : mm_Inj ad) (x1 : Int32) (x2 : Int32)  (σ : mm_M) (rv : Int32) (σ1 : mm_M) (hf : fx_X10_cart x1 x2 σ = some (rv, σ1)) : Met l yX10_cart (Cond.code yX10_cart cX10_cart 3 (some .int) :: tb) (mm_rm 5 103) (mm_pre D ad cA [.ref (ad 6 9 0), .int x1, .int x2] σ) (mm_Q D ad cA (some (.int rv)) σ1) 0 0 (mm_AS ad) := by
  refine mm_start (by decide +kernel) hI (Nat.le_of_ble_eq_true rfl) ?_
  intro p e s m args below meth c X hP ls hl
  have hl : lv_has ls 3 [(0, .ref (ad 6 9 0)), (1, .int x1), (2, .int x2)] := hl
  have hx := X.1
  have hb := X.2.1
  have hS : va_S (mm_AS ad) s.heap s.heap [] := va_S.rf
  have hgen : ∀ (H : Heap) (locs : List Loc), va_P D vwCl (mm_wd ad cA σ) H → va_S (mm_AS ad) s.heap H locs → W p l e (mm_rm 5 103) s m args below meth c H locs 0 0 (MQ below (mm_Q D ad cA (some (.int rv)) σ1) args s 0 0 (mm_AS ad)) (F0 m 0 ls []) := by
    intro H locs hP hS
    rw [fx_X10_cart] at hf
    refine lv_aload_n hx hb dX10_cart_0 rfl (lv_at hl 0 rfl) ?_
    refine lv_aload_n hx hb dX10_cart_1 rfl (lv_at hl 0 rfl) ?_
    obtain ⟨r_1, s_1, e_1, hf⟩ := mm_bd_ok hf
    refine mm_callV X hP hS hl.1 [] [.ref (ad 6 9 0)] (cx_X10_freshTrial l D ad cA hI  σ r_1 s_1 e_1) kp_9 rfl rfl wd_441 wd_443 wp_0 wd_1 wd_444 hd_X10_freshTrial ⟨Nat.le_of_ble_eq_true rfl, Nat.le_of_ble_eq_true rfl⟩ rfl (Nat.le_of_ble_eq_true rfl) dX10_cart_2 (fun H locs hP hS => ?_)
    refine lv_iload_n hx hb dX10_cart_5 rfl (lv_at hl 1 rfl) ?_
    refine lv_iload_n hx hb dX10_cart_6 rfl (lv_at hl 2 rfl) ?_
    obtain ⟨r_2, s_2, e_2, hf⟩ := mm_bd_ok hf
    refine mm_callV X hP hS hl.1 [.int x1, .int x2] [.ref (ad 6 9 0)] (cx_X8_addCart l D ad cA hI 1 x1 x2 (by decide) s_1 r_2 s_2 e_2) (mm_kr 1 (by decide) 0 (by decide)) rfl rfl wd_446 wd_447 wd_448 wd_2 wd_449 hd_X8_addCart ⟨Nat.le_of_ble_eq_true rfl, Nat.le_of_ble_eq_true rfl⟩ rfl (Nat.le_of_ble_eq_true rfl) dX10_cart_7 (fun H locs hP hS => ?_)
    obtain ⟨r_3, s_3, e_3, hf⟩ := mm_bd_ok hf
    refine mm_callV X hP hS hl.1 [.int r_2] [] (cx_X10_keep l D ad cA hI r_2 s_2 r_3 s_3 e_3) kp_9 rfl rfl wd_465 wd_467 wp_1 wd_1 wd_468 hd_X10_keep ⟨Nat.le_of_ble_eq_true rfl, Nat.le_of_ble_eq_true rfl⟩ rfl (Nat.le_of_ble_eq_true rfl) dX10_cart_10 (fun H locs hP hS => ?_)
    obtain ⟨rfl, rfl⟩ := mm_ret hf
    exact mm_iret X hP hS dX10_cart_13
  exact hgen _ _ hP hS
def fx_X8_hasCart (r0 : Nat) (x1 : Int32) (σ : mm_M) : mm_R := if x1 < (0 : Int32) then some ((0 : Int32), σ) else if (σ r0 0 0 2) ≤ x1 then some ((0 : Int32), σ) else some ((1 : Int32), σ)
set_option maxHeartbeats 4000000 in
set_option maxRecDepth 100000 in
theorem cx_X8_hasCart (l : Launch) (D : va_G) (ad : mm_A) (cA : Nat → ClassId) (hI : mm_Inj ad) (r0 : Nat) (x1 : Int32) (hr0 : r0 < 6) (σ : mm_M) (rv : Int32) (σ1 : mm_M) (hf : fx_X8_hasCart r0 x1 σ = some (rv, σ1)) : Met l yX8_hasCart (Cond.code yX8_hasCart cX8_hasCart 2 (some .boolean) :: tb) (mm_rm 0 0) (mm_pre D ad cA [.ref (ad r0 0 0), .int x1] σ) (mm_Q D ad cA (some (.int rv)) σ1) 0 0 (mm_AS ad) := by
  refine mm_start (by decide +kernel) hI (Nat.le_of_ble_eq_true rfl) ?_
  intro p e s m args below meth c X hP ls hl
  have hl : lv_has ls 2 [(0, .ref (ad r0 0 0)), (1, .int x1)] := hl
  have hx := X.1
  have hb := X.2.1
  have hS : va_S (mm_AS ad) s.heap s.heap [] := va_S.rf
  have hgen : ∀ (H : Heap) (locs : List Loc), va_P D vwCl (mm_wd ad cA σ) H → va_S (mm_AS ad) s.heap H locs → W p l e (mm_rm 0 0) s m args below meth c H locs 0 0 (MQ below (mm_Q D ad cA (some (.int rv)) σ1) args s 0 0 (mm_AS ad)) (F0 m 0 ls []) := by
    intro H locs hP hS
    rw [fx_X8_hasCart] at hf
    refine lv_iload_n hx hb dX8_hasCart_0 rfl (lv_at hl 1 rfl) ?_
    refine lv_if_lt (tgt := 16) hx hb dX8_hasCart_1 (by decide) (fun c_1 => ?_) (fun c_1 => ?_)
    · replace hf := mm_it c_1 hf
      refine lv_iconst (v := (0 : Int32)) hx hb dX8_hasCart_16 (by decide) ?_
      obtain ⟨rfl, rfl⟩ := mm_ret hf
      exact mm_zret (Or.inl rfl) X hP hS dX8_hasCart_17
    · replace hf := mm_if c_1 hf
      refine lv_iload_n hx hb dX8_hasCart_4 rfl (lv_at hl 1 rfl) ?_
      refine lv_aload_n hx hb dX8_hasCart_5 rfl (lv_at hl 0 rfl) ?_
      refine gf_0_2 X hP hr0 wd_117 dX8_hasCart_6 ?_
      refine lv_icmp_ge (tgt := 16) hx hb dX8_hasCart_9 (by decide) (fun c_2 => ?_) (fun c_2 => ?_)
      · replace hf := mm_it c_2 hf
        refine lv_iconst (v := (0 : Int32)) hx hb dX8_hasCart_16 (by decide) ?_
        obtain ⟨rfl, rfl⟩ := mm_ret hf
        exact mm_zret (Or.inl rfl) X hP hS dX8_hasCart_17
      · replace hf := mm_if c_2 hf
        refine lv_iconst (v := (1 : Int32)) hx hb dX8_hasCart_12 (by decide) ?_
        refine lv_goto (tgt := 17) hx hb dX8_hasCart_13 (by decide) ?_
        obtain ⟨rfl, rfl⟩ := mm_ret hf
        exact mm_zret (Or.inr rfl) X hP hS dX8_hasCart_17
  exact hgen _ _ hP hS
def fx_X10_isRegister (x0 : Int32) (σ : mm_M) : mm_R := if x0 < (0 : Int32) then some ((0 : Int32), σ) else if (5 : Int32) ≤ x0 then some ((0 : Int32), σ) else some ((1 : Int32), σ)
set_option maxHeartbeats 4000000 in
set_option maxRecDepth 100000 in
theorem cx_X10_isRegister (l : Launch) (D : va_G) (ad : mm_A) (cA : Nat → ClassId) (hI : mm_Inj ad) (x0 : Int32)  (σ : mm_M) (rv : Int32) (σ1 : mm_M) (hf : fx_X10_isRegister x0 σ = some (rv, σ1)) : Met l yX10_isRegister (Cond.code yX10_isRegister cX10_isRegister 1 (some .boolean) :: tb) (mm_rm 0 0) (mm_pre D ad cA [.int x0] σ) (mm_Q D ad cA (some (.int rv)) σ1) 0 0 (mm_AS ad) := by
  refine mm_start (by decide +kernel) hI (Nat.le_of_ble_eq_true rfl) ?_
  intro p e s m args below meth c X hP ls hl
  have hl : lv_has ls 1 [(0, .int x0)] := hl
  have hx := X.1
  have hb := X.2.1
  have hS : va_S (mm_AS ad) s.heap s.heap [] := va_S.rf
  have hgen : ∀ (H : Heap) (locs : List Loc), va_P D vwCl (mm_wd ad cA σ) H → va_S (mm_AS ad) s.heap H locs → W p l e (mm_rm 0 0) s m args below meth c H locs 0 0 (MQ below (mm_Q D ad cA (some (.int rv)) σ1) args s 0 0 (mm_AS ad)) (F0 m 0 ls []) := by
    intro H locs hP hS
    rw [fx_X10_isRegister] at hf
    refine lv_iload_n hx hb dX10_isRegister_0 rfl (lv_at hl 0 rfl) ?_
    refine lv_if_lt (tgt := 13) hx hb dX10_isRegister_1 (by decide) (fun c_1 => ?_) (fun c_1 => ?_)
    · replace hf := mm_it c_1 hf
      refine lv_iconst (v := (0 : Int32)) hx hb dX10_isRegister_13 (by decide) ?_
      obtain ⟨rfl, rfl⟩ := mm_ret hf
      exact mm_zret (Or.inl rfl) X hP hS dX10_isRegister_14
    · replace hf := mm_if c_1 hf
      refine lv_iload_n hx hb dX10_isRegister_4 rfl (lv_at hl 0 rfl) ?_
      refine lv_iconst (v := (5 : Int32)) hx hb dX10_isRegister_5 (by decide) ?_
      refine lv_icmp_ge (tgt := 13) hx hb dX10_isRegister_6 (by decide) (fun c_2 => ?_) (fun c_2 => ?_)
      · replace hf := mm_it c_2 hf
        refine lv_iconst (v := (0 : Int32)) hx hb dX10_isRegister_13 (by decide) ?_
        obtain ⟨rfl, rfl⟩ := mm_ret hf
        exact mm_zret (Or.inl rfl) X hP hS dX10_isRegister_14
      · replace hf := mm_if c_2 hf
        refine lv_iconst (v := (1 : Int32)) hx hb dX10_isRegister_9 (by decide) ?_
        refine lv_goto (tgt := 14) hx hb dX10_isRegister_10 (by decide) ?_
        obtain ⟨rfl, rfl⟩ := mm_ret hf
        exact mm_zret (Or.inr rfl) X hP hS dX10_isRegister_14
  exact hgen _ _ hP hS
def fx_X3_unlockedRegisters (r0 : Nat) (n0 : Nat) (σ : mm_M) : mm_R := mm_bd (fx_J9_max_7cf53 (0 : Int32) ((σ r0 6 n0 5) - (4 : Int32)) σ) fun r_1 s_1 => (some ((5 : Int32) - r_1, s_1))
set_option maxHeartbeats 4000000 in
set_option maxRecDepth 100000 in
theorem cx_X3_unlockedRegisters (l : Launch) (D : va_G) (ad : mm_A) (cA : Nat → ClassId) (hI : mm_Inj ad) (r0 : Nat) (n0 : Nat) (hr0 : r0 < 6) (hn0 : n0 < 4) (σ : mm_M) (rv : Int32) (σ1 : mm_M) (hf : fx_X3_unlockedRegisters r0 n0 σ = some (rv, σ1)) : Met l yX3_unlockedRegisters (Cond.code yX3_unlockedRegisters cX3_unlockedRegisters 1 (some .int) :: tb) (mm_rm 1 21) (mm_pre D ad cA [.ref (ad r0 6 n0)] σ) (mm_Q D ad cA (some (.int rv)) σ1) 0 0 (mm_AS ad) := by
  refine mm_start (by decide +kernel) hI (Nat.le_of_ble_eq_true rfl) ?_
  intro p e s m args below meth c X hP ls hl
  have hl : lv_has ls 1 [(0, .ref (ad r0 6 n0))] := hl
  have hx := X.1
  have hb := X.2.1
  have hS : va_S (mm_AS ad) s.heap s.heap [] := va_S.rf
  have hgen : ∀ (H : Heap) (locs : List Loc), va_P D vwCl (mm_wd ad cA σ) H → va_S (mm_AS ad) s.heap H locs → W p l e (mm_rm 1 21) s m args below meth c H locs 0 0 (MQ below (mm_Q D ad cA (some (.int rv)) σ1) args s 0 0 (mm_AS ad)) (F0 m 0 ls []) := by
    intro H locs hP hS
    rw [fx_X3_unlockedRegisters] at hf
    refine lv_iconst (v := (5 : Int32)) hx hb dX3_unlockedRegisters_0 (by decide) ?_
    refine lv_iconst (v := (0 : Int32)) hx hb dX3_unlockedRegisters_1 (by decide) ?_
    refine lv_aload_n hx hb dX3_unlockedRegisters_2 rfl (lv_at hl 0 rfl) ?_
    refine gf_6_5 X hP hr0 hn0 wd_78 dX3_unlockedRegisters_3 ?_
    refine lv_iconst (v := (4 : Int32)) hx hb dX3_unlockedRegisters_6 (by decide) ?_
    refine lv_isub hx hb dX3_unlockedRegisters_7 ?_
    obtain ⟨r_1, s_1, e_1, hf⟩ := mm_bd_ok hf
    refine mm_callS X hP hS hl.1 [.int (0 : Int32), .int ((σ r0 6 n0 5) - (4 : Int32))] [.int (5 : Int32)] (cx_J9_max_7cf53 l D ad cA hI (0 : Int32) ((σ r0 6 n0 5) - (4 : Int32)) σ r_1 s_1 e_1) wd_411 wd_412 wd_12 wd_413 hd_J9_max_7cf53 ⟨Nat.le_of_ble_eq_true rfl, Nat.le_of_ble_eq_true rfl⟩ rfl (Nat.le_of_ble_eq_true rfl) dX3_unlockedRegisters_8 (fun H locs hP hS => ?_)
    refine lv_isub hx hb dX3_unlockedRegisters_11 ?_
    obtain ⟨rfl, rfl⟩ := mm_ret hf
    exact mm_iret X hP hS dX3_unlockedRegisters_12
  exact hgen _ _ hP hS
def fx_X3_isLocked (r0 : Nat) (n0 : Nat) (x1 : Int32) (σ : mm_M) : mm_R := mm_bd (fx_X3_unlockedRegisters r0 n0 σ) fun r_1 s_1 => (if x1 < r_1 then some ((0 : Int32), s_1) else some ((1 : Int32), s_1))
set_option maxHeartbeats 4000000 in
set_option maxRecDepth 100000 in
theorem cx_X3_isLocked (l : Launch) (D : va_G) (ad : mm_A) (cA : Nat → ClassId) (hI : mm_Inj ad) (r0 : Nat) (n0 : Nat) (x1 : Int32) (hr0 : r0 < 6) (hn0 : n0 < 4) (σ : mm_M) (rv : Int32) (σ1 : mm_M) (hf : fx_X3_isLocked r0 n0 x1 σ = some (rv, σ1)) : Met l yX3_isLocked (Cond.code yX3_isLocked cX3_isLocked 2 (some .boolean) :: tb) (mm_rm 2 41) (mm_pre D ad cA [.ref (ad r0 6 n0), .int x1] σ) (mm_Q D ad cA (some (.int rv)) σ1) 0 0 (mm_AS ad) := by
  refine mm_start (by decide +kernel) hI (Nat.le_of_ble_eq_true rfl) ?_
  intro p e s m args below meth c X hP ls hl
  have hl : lv_has ls 2 [(0, .ref (ad r0 6 n0)), (1, .int x1)] := hl
  have hx := X.1
  have hb := X.2.1
  have hS : va_S (mm_AS ad) s.heap s.heap [] := va_S.rf
  have hgen : ∀ (H : Heap) (locs : List Loc), va_P D vwCl (mm_wd ad cA σ) H → va_S (mm_AS ad) s.heap H locs → W p l e (mm_rm 2 41) s m args below meth c H locs 0 0 (MQ below (mm_Q D ad cA (some (.int rv)) σ1) args s 0 0 (mm_AS ad)) (F0 m 0 ls []) := by
    intro H locs hP hS
    rw [fx_X3_isLocked] at hf
    refine lv_iload_n hx hb dX3_isLocked_0 rfl (lv_at hl 1 rfl) ?_
    refine lv_aload_n hx hb dX3_isLocked_1 rfl (lv_at hl 0 rfl) ?_
    obtain ⟨r_1, s_1, e_1, hf⟩ := mm_bd_ok hf
    refine mm_callV X hP hS hl.1 [] [.int x1] (cx_X3_unlockedRegisters l D ad cA hI r0 n0 hr0 hn0 σ r_1 s_1 e_1) (mm_kc r0 hr0 n0 hn0 0 (by decide)) rfl rfl wd_407 wd_408 wd_409 wd_4 wd_410 hd_X3_unlockedRegisters ⟨Nat.le_of_ble_eq_true rfl, Nat.le_of_ble_eq_true rfl⟩ rfl (Nat.le_of_ble_eq_true rfl) dX3_isLocked_2 (fun H locs hP hS => ?_)
    refine lv_icmp_lt (tgt := 12) hx hb dX3_isLocked_5 (by decide) (fun c_2 => ?_) (fun c_2 => ?_)
    · replace hf := mm_it c_2 hf
      refine lv_iconst (v := (0 : Int32)) hx hb dX3_isLocked_12 (by decide) ?_
      obtain ⟨rfl, rfl⟩ := mm_ret hf
      exact mm_zret (Or.inl rfl) X hP hS dX3_isLocked_13
    · replace hf := mm_if c_2 hf
      refine lv_iconst (v := (1 : Int32)) hx hb dX3_isLocked_8 (by decide) ?_
      refine lv_goto (tgt := 13) hx hb dX3_isLocked_9 (by decide) ?_
      obtain ⟨rfl, rfl⟩ := mm_ret hf
      exact mm_zret (Or.inr rfl) X hP hS dX3_isLocked_13
  exact hgen _ _ hP hS
def fx_X3_isOut (r0 : Nat) (n0 : Nat) (σ : mm_M) : mm_R := if (σ r0 6 n0 3) = (-1 : Int32) then some ((1 : Int32), σ) else some ((0 : Int32), σ)
set_option maxHeartbeats 4000000 in
set_option maxRecDepth 100000 in
theorem cx_X3_isOut (l : Launch) (D : va_G) (ad : mm_A) (cA : Nat → ClassId) (hI : mm_Inj ad) (r0 : Nat) (n0 : Nat) (hr0 : r0 < 6) (hn0 : n0 < 4) (σ : mm_M) (rv : Int32) (σ1 : mm_M) (hf : fx_X3_isOut r0 n0 σ = some (rv, σ1)) : Met l yX3_isOut (Cond.code yX3_isOut cX3_isOut 1 (some .boolean) :: tb) (mm_rm 0 0) (mm_pre D ad cA [.ref (ad r0 6 n0)] σ) (mm_Q D ad cA (some (.int rv)) σ1) 0 0 (mm_AS ad) := by
  refine mm_start (by decide +kernel) hI (Nat.le_of_ble_eq_true rfl) ?_
  intro p e s m args below meth c X hP ls hl
  have hl : lv_has ls 1 [(0, .ref (ad r0 6 n0))] := hl
  have hx := X.1
  have hb := X.2.1
  have hS : va_S (mm_AS ad) s.heap s.heap [] := va_S.rf
  have hgen : ∀ (H : Heap) (locs : List Loc), va_P D vwCl (mm_wd ad cA σ) H → va_S (mm_AS ad) s.heap H locs → W p l e (mm_rm 0 0) s m args below meth c H locs 0 0 (MQ below (mm_Q D ad cA (some (.int rv)) σ1) args s 0 0 (mm_AS ad)) (F0 m 0 ls []) := by
    intro H locs hP hS
    rw [fx_X3_isOut] at hf
    refine lv_aload_n hx hb dX3_isOut_0 rfl (lv_at hl 0 rfl) ?_
    refine gf_6_3 X hP hr0 hn0 wd_70 dX3_isOut_1 ?_
    refine lv_iconst (v := (-1 : Int32)) hx hb dX3_isOut_4 (by decide) ?_
    refine lv_icmp_ne (tgt := 12) hx hb dX3_isOut_5 (by decide) (fun c_1 => ?_) (fun c_1 => ?_)
    · replace hf := mm_if c_1 hf
      refine lv_iconst (v := (0 : Int32)) hx hb dX3_isOut_12 (by decide) ?_
      obtain ⟨rfl, rfl⟩ := mm_ret hf
      exact mm_zret (Or.inl rfl) X hP hS dX3_isOut_13
    · replace hf := mm_it c_1 hf
      refine lv_iconst (v := (1 : Int32)) hx hb dX3_isOut_8 (by decide) ?_
      refine lv_goto (tgt := 13) hx hb dX3_isOut_9 (by decide) ?_
      obtain ⟨rfl, rfl⟩ := mm_ret hf
      exact mm_zret (Or.inr rfl) X hP hS dX3_isOut_13
  exact hgen _ _ hP hS
def fx_X3_lay (r0 : Nat) (n0 : Nat) (x1 : Int32) (x2 : Int32) (x3 : Int32) (σ : mm_M) : mm_R := mm_gd (mm_ix x1 5 = true) (mm_lt (mm_u σ r0 7 n0 x1.toNatClampNeg x2) fun s_2 => (mm_gd (mm_ix x1 5 = true) (mm_lt (mm_u s_2 r0 8 n0 x1.toNatClampNeg x3) fun s_4 => (some (0, s_4)))))
set_option maxHeartbeats 4000000 in
set_option maxRecDepth 100000 in
theorem cx_X3_lay (l : Launch) (D : va_G) (ad : mm_A) (cA : Nat → ClassId) (hI : mm_Inj ad) (r0 : Nat) (n0 : Nat) (x1 : Int32) (x2 : Int32) (x3 : Int32) (hr0 : r0 < 6) (hn0 : n0 < 4) (σ : mm_M) (rv : Int32) (σ1 : mm_M) (hf : fx_X3_lay r0 n0 x1 x2 x3 σ = some (rv, σ1)) : Met l yX3_lay (Cond.code yX3_lay cX3_lay 4 none :: tb) (mm_rm 0 0) (mm_pre D ad cA [.ref (ad r0 6 n0), .int x1, .int x2, .int x3] σ) (mm_Q D ad cA none σ1) 0 0 (mm_AS ad) := by
  refine mm_start (by decide +kernel) hI (Nat.le_of_ble_eq_true rfl) ?_
  intro p e s m args below meth c X hP ls hl
  have hl : lv_has ls 4 [(0, .ref (ad r0 6 n0)), (1, .int x1), (2, .int x2), (3, .int x3)] := hl
  have hx := X.1
  have hb := X.2.1
  have hS : va_S (mm_AS ad) s.heap s.heap [] := va_S.rf
  have hgen : ∀ (H : Heap) (locs : List Loc), va_P D vwCl (mm_wd ad cA σ) H → va_S (mm_AS ad) s.heap H locs → W p l e (mm_rm 0 0) s m args below meth c H locs 0 0 (MQ below (mm_Q D ad cA none σ1) args s 0 0 (mm_AS ad)) (F0 m 0 ls []) := by
    intro H locs hP hS
    rw [fx_X3_lay] at hf
    refine lv_aload_n hx hb dX3_lay_0 rfl (lv_at hl 0 rfl) ?_
    refine gf_6_0 X hP hr0 hn0 wd_62 dX3_lay_1 ?_
    refine lv_iload_n hx hb dX3_lay_4 rfl (lv_at hl 1 rfl) ?_
    refine lv_iload_n hx hb dX3_lay_5 rfl (lv_at hl 2 rfl) ?_
    obtain ⟨h_1, hf⟩ := mm_gd_ok hf
    refine as_7 X hP hS hr0 hn0 h_1  dX3_lay_6 (fun H locs hP hS => ?_)
    obtain ⟨s_2, e_2, hf⟩ := mm_lt_ok hf
    rw [← e_2] at hP
    refine lv_aload_n hx hb dX3_lay_7 rfl (lv_at hl 0 rfl) ?_
    refine gf_6_1 X hP hr0 hn0 wd_65 dX3_lay_8 ?_
    refine lv_iload_n hx hb dX3_lay_11 rfl (lv_at hl 1 rfl) ?_
    refine lv_iload_n hx hb dX3_lay_12 rfl (lv_at hl 3 rfl) ?_
    obtain ⟨h_3, hf⟩ := mm_gd_ok hf
    refine as_8 X hP hS hr0 hn0 h_3  dX3_lay_13 (fun H locs hP hS => ?_)
    obtain ⟨s_4, e_4, hf⟩ := mm_lt_ok hf
    rw [← e_4] at hP
    obtain ⟨rfl, rfl⟩ := mm_ret hf
    exact mm_vret X hP hS dX3_lay_14
  exact hgen _ _ hP hS
def fx_X3_cardSet_L4 (r0 : Nat) (n0 : Nat)  : Nat → Int32 → Int32 → mm_M → mm_R
  | 0, _, _, _ => none
  | fu + 1, v1, v2, σ => if (5 : Int32) ≤ v2 then some (v1, σ) else mm_gd (mm_ix v2 5 = true) (if (σ r0 8 n0 v2.toNatClampNeg) ≤ (0 : Int32) then mm_li (v2 + (1 : Int32)) fun y_4 => (fx_X3_cardSet_L4 r0 n0 fu v1 y_4 σ) else mm_li (v1 ||| ((1 : Int32) <<< (v2 &&& 31))) fun y_5 => (mm_li (v2 + (1 : Int32)) fun y_6 => (fx_X3_cardSet_L4 r0 n0 fu y_5 y_6 σ)))
set_option maxHeartbeats 4000000 in
set_option maxRecDepth 100000 in
theorem cx_X3_cardSet_L4 {p : Program} {l : Launch} {e : Env} {s : State} {m : MethodId} {args : Array Value} {below : List Frame} {meth : Method} {c : Code} {D : va_G} {ad : mm_A} {cA : Nat → ClassId} (r0 : Nat) (n0 : Nat) (hr0 : r0 < 6) (hn0 : n0 < 4) (rv : Int32) (σ1 : mm_M)  (X : mm_X p s m args meth c cX3_cardSet 3 (some .int) RX3 D ad cA) : ∀ (fu : Nat), ∀ (v1 : Int32) (v2 : Int32) (σ : mm_M) (H : Heap) (locs : List Loc) (ls : Array Slot), fx_X3_cardSet_L4 r0 n0 fu v1 v2 σ = some (rv, σ1) → va_P D vwCl (mm_wd ad cA σ) H → va_S (mm_AS ad) s.heap H locs → lv_has ls 3 [(0, .ref (ad r0 6 n0)), (1, .int v1), (2, .int v2)] → W p l e (mm_rm 0 0) s m args below meth c H locs 0 0 (MQ below (mm_Q D ad cA (some (.int rv)) σ1) args s 0 0 (mm_AS ad)) (F0 m 4 ls []) := by
  have hx := X.1
  have hb := X.2.1
  have hI := X.2.2.2.2.2.2.2.2.2
  intro fu
  induction fu with
  | zero =>
    intro v1 v2 σ H locs ls hf
    exact mm_no hf
  | succ fu ih =>
    intro v1 v2 σ H locs ls hf hP hS hl
    rw [fx_X3_cardSet_L4] at hf
    refine lv_iload_n hx hb dX3_cardSet_4 rfl (lv_at hl 2 rfl) ?_
    refine lv_iconst (v := (5 : Int32)) hx hb dX3_cardSet_5 (by decide) ?_
    refine lv_icmp_ge (tgt := 30) hx hb dX3_cardSet_6 (by decide) (fun c_1 => ?_) (fun c_1 => ?_)
    · replace hf := mm_it c_1 hf
      refine lv_iload_n hx hb dX3_cardSet_30 rfl (lv_at hl 1 rfl) ?_
      obtain ⟨rfl, rfl⟩ := mm_ret hf
      exact mm_iret X hP hS dX3_cardSet_31
    · replace hf := mm_if c_1 hf
      refine lv_aload_n hx hb dX3_cardSet_9 rfl (lv_at hl 0 rfl) ?_
      refine gf_6_1 X hP hr0 hn0 wd_65 dX3_cardSet_10 ?_
      refine lv_iload_n hx hb dX3_cardSet_13 rfl (lv_at hl 2 rfl) ?_
      obtain ⟨h_2, hf⟩ := mm_gd_ok hf
      refine al_8 X hP hr0 hn0 h_2 dX3_cardSet_14 ?_
      refine lv_if_le (tgt := 24) hx hb dX3_cardSet_15 (by decide) (fun c_3 => ?_) (fun c_3 => ?_)
      · replace hf := mm_it c_3 hf
        obtain ⟨y_4, e_4, hf⟩ := mm_li_ok hf
        refine lv_iinc (v := y_4) (lv' := [(2, .int y_4), (0, .ref (ad r0 6 n0)), (1, .int v1)]) hx hb dX3_cardSet_24 hl (k := 2) rfl (by rw [e_4]; rfl) (by decide) rfl (fun ls hl => ?_)
        refine lv_goto (tgt := 4) hx hb dX3_cardSet_27 (by decide) ?_
        exact ih v1 y_4 σ H locs ls  hf hP hS (lv_sub hl [1, 2, 0] rfl)
      · replace hf := mm_if c_3 hf
        refine lv_iload_n hx hb dX3_cardSet_18 rfl (lv_at hl 1 rfl) ?_
        refine lv_iconst (v := (1 : Int32)) hx hb dX3_cardSet_19 (by decide) ?_
        refine lv_iload_n hx hb dX3_cardSet_20 rfl (lv_at hl 2 rfl) ?_
        refine lv_ishl hx hb dX3_cardSet_21 ?_
        refine lv_ior hx hb dX3_cardSet_22 ?_
        obtain ⟨y_5, e_5, hf⟩ := mm_li_ok hf
        rw [← e_5]
        refine lv_istore_n (lv' := [(1, .int y_5), (0, .ref (ad r0 6 n0)), (2, .int v2)]) hx hb dX3_cardSet_23 rfl hl (by decide) rfl (fun ls hl => ?_)
        obtain ⟨y_6, e_6, hf⟩ := mm_li_ok hf
        refine lv_iinc (v := y_6) (lv' := [(2, .int y_6), (1, .int y_5), (0, .ref (ad r0 6 n0))]) hx hb dX3_cardSet_24 hl (k := 2) rfl (by rw [e_6]; rfl) (by decide) rfl (fun ls hl => ?_)
        refine lv_goto (tgt := 4) hx hb dX3_cardSet_27 (by decide) ?_
        exact ih y_5 y_6 σ H locs ls  hf hP hS (lv_sub hl [2, 1, 0] rfl)
def fx_X3_cardSet (r0 : Nat) (n0 : Nat) (σ : mm_M) : mm_R := fx_X3_cardSet_L4 r0 n0 mm_FU (0 : Int32) (0 : Int32) σ
set_option maxHeartbeats 4000000 in
set_option maxRecDepth 100000 in
theorem cx_X3_cardSet (l : Launch) (D : va_G) (ad : mm_A) (cA : Nat → ClassId) (hI : mm_Inj ad) (r0 : Nat) (n0 : Nat) (hr0 : r0 < 6) (hn0 : n0 < 4) (σ : mm_M) (rv : Int32) (σ1 : mm_M) (hf : fx_X3_cardSet r0 n0 σ = some (rv, σ1)) : Met l yX3_cardSet (Cond.code yX3_cardSet cX3_cardSet 3 (some .int) :: tb) (mm_rm 0 0) (mm_pre D ad cA [.ref (ad r0 6 n0)] σ) (mm_Q D ad cA (some (.int rv)) σ1) 0 0 (mm_AS ad) := by
  refine mm_start (by decide +kernel) hI (Nat.le_of_ble_eq_true rfl) ?_
  intro p e s m args below meth c X hP ls hl
  have hl : lv_has ls 3 [(0, .ref (ad r0 6 n0))] := hl
  have hx := X.1
  have hb := X.2.1
  have hS : va_S (mm_AS ad) s.heap s.heap [] := va_S.rf
  have hgen : ∀ (H : Heap) (locs : List Loc), va_P D vwCl (mm_wd ad cA σ) H → va_S (mm_AS ad) s.heap H locs → W p l e (mm_rm 0 0) s m args below meth c H locs 0 0 (MQ below (mm_Q D ad cA (some (.int rv)) σ1) args s 0 0 (mm_AS ad)) (F0 m 0 ls []) := by
    intro H locs hP hS
    rw [fx_X3_cardSet] at hf
    refine lv_iconst (v := (0 : Int32)) hx hb dX3_cardSet_0 (by decide) ?_
    refine lv_istore_n (lv' := [(1, .int (0 : Int32)), (0, .ref (ad r0 6 n0))]) hx hb dX3_cardSet_1 rfl hl (by decide) rfl (fun ls hl => ?_)
    refine lv_iconst (v := (0 : Int32)) hx hb dX3_cardSet_2 (by decide) ?_
    refine lv_istore_n (lv' := [(2, .int (0 : Int32)), (1, .int (0 : Int32)), (0, .ref (ad r0 6 n0))]) hx hb dX3_cardSet_3 rfl hl (by decide) rfl (fun ls hl => ?_)
    exact cx_X3_cardSet_L4 r0 n0 hr0 hn0 rv σ1 X mm_FU (0 : Int32) (0 : Int32) σ H locs ls hf hP hS (lv_sub hl [2, 1, 0] rfl)
  exact hgen _ _ hP hS
def fx_J6_bitCount_0f7a4 (x0 : Int32) (σ : mm_M) : mm_R := mm_li (x0 - (((x0.toUInt32 >>> ((1 : Int32).toUInt32 &&& Int32.toUInt32 31)).toInt32) &&& (1431655765 : Int32))) fun y_1 => (mm_li ((y_1 &&& (858993459 : Int32)) + (((y_1.toUInt32 >>> ((2 : Int32).toUInt32 &&& Int32.toUInt32 31)).toInt32) &&& (858993459 : Int32))) fun y_2 => (mm_li ((y_2 + ((y_2.toUInt32 >>> ((4 : Int32).toUInt32 &&& Int32.toUInt32 31)).toInt32)) &&& (252645135 : Int32)) fun y_3 => (mm_li (y_3 + ((y_3.toUInt32 >>> ((8 : Int32).toUInt32 &&& Int32.toUInt32 31)).toInt32)) fun y_4 => (mm_li (y_4 + ((y_4.toUInt32 >>> ((16 : Int32).toUInt32 &&& Int32.toUInt32 31)).toInt32)) fun y_5 => (some (y_5 &&& (63 : Int32), σ))))))
set_option maxHeartbeats 4000000 in
set_option maxRecDepth 100000 in
theorem cx_J6_bitCount_0f7a4 (l : Launch) (D : va_G) (ad : mm_A) (cA : Nat → ClassId) (hI : mm_Inj ad) (x0 : Int32)  (σ : mm_M) (rv : Int32) (σ1 : mm_M) (hf : fx_J6_bitCount_0f7a4 x0 σ = some (rv, σ1)) : Met l yJ6_bitCount_0f7a4 (Cond.code yJ6_bitCount_0f7a4 cJ6_bitCount_0f7a4 1 (some .int) :: tb) (mm_rm 0 0) (mm_pre D ad cA [.int x0] σ) (mm_Q D ad cA (some (.int rv)) σ1) 0 0 (mm_AS ad) := by
  refine mm_startF (by decide +kernel) hI (Nat.le_of_ble_eq_true rfl) ?_
  intro p e s m args below meth c X hP ls hl
  have hl : lv_has ls 1 [(0, .int x0)] := hl
  have hx := X.1
  have hb := X.2.1
  have hS : va_S (mm_AS ad) s.heap s.heap [] := va_S.rf
  have hgen : ∀ (H : Heap) (locs : List Loc), va_P D vwCl (mm_wd ad cA σ) H → va_S (mm_AS ad) s.heap H locs → W p l e (mm_rm 0 0) s m args below meth c H locs 0 0 (MQ below (mm_Q D ad cA (some (.int rv)) σ1) args s 0 0 (mm_AS ad)) (F0 m 0 ls []) := by
    intro H locs hP hS
    rw [fx_J6_bitCount_0f7a4] at hf
    refine lv_iload_n hx hb dJ6_bitCount_0f7a4_0 rfl (lv_at hl 0 rfl) ?_
    refine lv_iload_n hx hb dJ6_bitCount_0f7a4_1 rfl (lv_at hl 0 rfl) ?_
    refine lv_iconst (v := (1 : Int32)) hx hb dJ6_bitCount_0f7a4_2 (by decide) ?_
    refine lv_iushr hx hb dJ6_bitCount_0f7a4_3 rfl ?_
    refine lv_ldcw (v := (1431655765 : Int32)) hx hb X.2.2.2.2.2.1 (X.2.2.2.2.2.2.1 _ wd_549) dJ6_bitCount_0f7a4_4 ?_
    refine lv_iand hx hb dJ6_bitCount_0f7a4_7 ?_
    refine lv_isub hx hb dJ6_bitCount_0f7a4_8 ?_
    obtain ⟨y_1, e_1, hf⟩ := mm_li_ok hf
    rw [← e_1]
    refine lv_istore_n (lv' := [(0, .int y_1)]) hx hb dJ6_bitCount_0f7a4_9 rfl hl (by decide) rfl (fun ls hl => ?_)
    refine lv_iload_n hx hb dJ6_bitCount_0f7a4_10 rfl (lv_at hl 0 rfl) ?_
    refine lv_ldcw (v := (858993459 : Int32)) hx hb X.2.2.2.2.2.1 (X.2.2.2.2.2.2.1 _ wd_550) dJ6_bitCount_0f7a4_11 ?_
    refine lv_iand hx hb dJ6_bitCount_0f7a4_14 ?_
    refine lv_iload_n hx hb dJ6_bitCount_0f7a4_15 rfl (lv_at hl 0 rfl) ?_
    refine lv_iconst (v := (2 : Int32)) hx hb dJ6_bitCount_0f7a4_16 (by decide) ?_
    refine lv_iushr hx hb dJ6_bitCount_0f7a4_17 rfl ?_
    refine lv_ldcw (v := (858993459 : Int32)) hx hb X.2.2.2.2.2.1 (X.2.2.2.2.2.2.1 _ wd_550) dJ6_bitCount_0f7a4_18 ?_
    refine lv_iand hx hb dJ6_bitCount_0f7a4_21 ?_
    refine lv_iadd hx hb dJ6_bitCount_0f7a4_22 ?_
    obtain ⟨y_2, e_2, hf⟩ := mm_li_ok hf
    rw [← e_2]
    refine lv_istore_n (lv' := [(0, .int y_2)]) hx hb dJ6_bitCount_0f7a4_23 rfl hl (by decide) rfl (fun ls hl => ?_)
    refine lv_iload_n hx hb dJ6_bitCount_0f7a4_24 rfl (lv_at hl 0 rfl) ?_
    refine lv_iload_n hx hb dJ6_bitCount_0f7a4_25 rfl (lv_at hl 0 rfl) ?_
    refine lv_iconst (v := (4 : Int32)) hx hb dJ6_bitCount_0f7a4_26 (by decide) ?_
    refine lv_iushr hx hb dJ6_bitCount_0f7a4_27 rfl ?_
    refine lv_iadd hx hb dJ6_bitCount_0f7a4_28 ?_
    refine lv_ldcw (v := (252645135 : Int32)) hx hb X.2.2.2.2.2.1 (X.2.2.2.2.2.2.1 _ wd_551) dJ6_bitCount_0f7a4_29 ?_
    refine lv_iand hx hb dJ6_bitCount_0f7a4_32 ?_
    obtain ⟨y_3, e_3, hf⟩ := mm_li_ok hf
    rw [← e_3]
    refine lv_istore_n (lv' := [(0, .int y_3)]) hx hb dJ6_bitCount_0f7a4_33 rfl hl (by decide) rfl (fun ls hl => ?_)
    refine lv_iload_n hx hb dJ6_bitCount_0f7a4_34 rfl (lv_at hl 0 rfl) ?_
    refine lv_iload_n hx hb dJ6_bitCount_0f7a4_35 rfl (lv_at hl 0 rfl) ?_
    refine lv_bipush (v := (8 : Int32)) hx hb dJ6_bitCount_0f7a4_36 (by decide) ?_
    refine lv_iushr hx hb dJ6_bitCount_0f7a4_38 rfl ?_
    refine lv_iadd hx hb dJ6_bitCount_0f7a4_39 ?_
    obtain ⟨y_4, e_4, hf⟩ := mm_li_ok hf
    rw [← e_4]
    refine lv_istore_n (lv' := [(0, .int y_4)]) hx hb dJ6_bitCount_0f7a4_40 rfl hl (by decide) rfl (fun ls hl => ?_)
    refine lv_iload_n hx hb dJ6_bitCount_0f7a4_41 rfl (lv_at hl 0 rfl) ?_
    refine lv_iload_n hx hb dJ6_bitCount_0f7a4_42 rfl (lv_at hl 0 rfl) ?_
    refine lv_bipush (v := (16 : Int32)) hx hb dJ6_bitCount_0f7a4_43 (by decide) ?_
    refine lv_iushr hx hb dJ6_bitCount_0f7a4_45 rfl ?_
    refine lv_iadd hx hb dJ6_bitCount_0f7a4_46 ?_
    obtain ⟨y_5, e_5, hf⟩ := mm_li_ok hf
    rw [← e_5]
    refine lv_istore_n (lv' := [(0, .int y_5)]) hx hb dJ6_bitCount_0f7a4_47 rfl hl (by decide) rfl (fun ls hl => ?_)
    refine lv_iload_n hx hb dJ6_bitCount_0f7a4_48 rfl (lv_at hl 0 rfl) ?_
    refine lv_bipush (v := (63 : Int32)) hx hb dJ6_bitCount_0f7a4_49 (by decide) ?_
    refine lv_iand hx hb dJ6_bitCount_0f7a4_51 ?_
    obtain ⟨rfl, rfl⟩ := mm_ret hf
    exact mm_iret X hP hS dJ6_bitCount_0f7a4_52
  exact hgen _ _ hP hS
def fx_X8_layCard (r0 : Nat) (x1 : Int32) (x2 : Int32) (x3 : Int32) (x4 : Int32) (σ : mm_M) : mm_R := mm_bd (fx_X8_hasCart r0 x1 σ) fun r_1 s_1 => (if r_1 = (0 : Int32) then some ((-1000001 : Int32), s_1) else mm_bd (fx_X10_isRegister x2 s_1) fun r_3 s_3 => (if r_3 = (0 : Int32) then some ((-1000001 : Int32), s_3) else mm_bd (fx_X10_isWithin x3 (0 : Int32) (6 : Int32) s_3) fun r_5 s_5 => (if r_5 = (0 : Int32) then some ((-1000001 : Int32), s_5) else mm_bd (fx_X10_isWithin x4 (1 : Int32) (999 : Int32) s_5) fun r_7 s_7 => (if r_7 = (0 : Int32) then some ((-1000001 : Int32), s_7) else mm_gd (mm_ix x1 4 = true) (mm_bd (fx_X3_isLocked r0 x1.toNatClampNeg x2 s_7) fun r_10 s_10 => (if r_10 = (0 : Int32) then mm_bd (fx_X3_isOut r0 x1.toNatClampNeg s_10) fun r_12 s_12 => (if r_12 = (0 : Int32) then if (s_12 r0 0 0 3) ≤ x2 then mm_bd (fx_X3_lay r0 x1.toNatClampNeg x2 x3 x4 s_12) fun _ s_15 => (mm_bd (fx_X3_cardSet r0 x1.toNatClampNeg s_15) fun r_16 s_16 => (mm_bd (fx_J6_bitCount_0f7a4 r_16 s_16) fun r_17 s_17 => (some (r_17, s_17)))) else some ((-1000002 : Int32), s_12) else some ((-1000002 : Int32), s_12)) else some ((-1000002 : Int32), s_10)))))))
set_option maxHeartbeats 4000000 in
set_option maxRecDepth 100000 in
theorem cx_X8_layCard (l : Launch) (D : va_G) (ad : mm_A) (cA : Nat → ClassId) (hI : mm_Inj ad) (r0 : Nat) (x1 : Int32) (x2 : Int32) (x3 : Int32) (x4 : Int32) (hr0 : r0 < 6) (σ : mm_M) (rv : Int32) (σ1 : mm_M) (hf : fx_X8_layCard r0 x1 x2 x3 x4 σ = some (rv, σ1)) : Met l yX8_layCard (Cond.code yX8_layCard cX8_layCard 6 (some .int) :: tb) (mm_rm 3 62) (mm_pre D ad cA [.ref (ad r0 0 0), .int x1, .int x2, .int x3, .int x4] σ) (mm_Q D ad cA (some (.int rv)) σ1) 0 0 (mm_AS ad) := by
  refine mm_start (by decide +kernel) hI (Nat.le_of_ble_eq_true rfl) ?_
  intro p e s m args below meth c X hP ls hl
  have hl : lv_has ls 6 [(0, .ref (ad r0 0 0)), (1, .int x1), (2, .int x2), (3, .int x3), (4, .int x4)] := hl
  have hx := X.1
  have hb := X.2.1
  have hS : va_S (mm_AS ad) s.heap s.heap [] := va_S.rf
  have hgen : ∀ (H : Heap) (locs : List Loc), va_P D vwCl (mm_wd ad cA σ) H → va_S (mm_AS ad) s.heap H locs → W p l e (mm_rm 3 62) s m args below meth c H locs 0 0 (MQ below (mm_Q D ad cA (some (.int rv)) σ1) args s 0 0 (mm_AS ad)) (F0 m 0 ls []) := by
    intro H locs hP hS
    rw [fx_X8_layCard] at hf
    refine lv_aload_n hx hb dX8_layCard_0 rfl (lv_at hl 0 rfl) ?_
    refine lv_iload_n hx hb dX8_layCard_1 rfl (lv_at hl 1 rfl) ?_
    obtain ⟨r_1, s_1, e_1, hf⟩ := mm_bd_ok hf
    refine mm_callV X hP hS hl.1 [.int x1] [] (cx_X8_hasCart l D ad cA hI r0 x1 hr0 σ r_1 s_1 e_1) (mm_kr r0 hr0 0 (by decide)) rfl rfl wd_535 wd_394 wd_395 wd_2 wd_396 hd_X8_hasCart ⟨Nat.le_of_ble_eq_true rfl, Nat.le_of_ble_eq_true rfl⟩ rfl (Nat.le_of_ble_eq_true rfl) dX8_layCard_2 (fun H locs hP hS => ?_)
    refine lv_if_eq (tgt := 37) hx hb dX8_layCard_5 (by decide) (fun c_2 => ?_) (fun c_2 => ?_)
    · replace hf := mm_it c_2 hf
      refine lv_ldc (v := (-1000001 : Int32)) hx hb X.2.2.2.2.2.1 (X.2.2.2.2.2.2.1 _ wd_454) dX8_layCard_37 ?_
      obtain ⟨rfl, rfl⟩ := mm_ret hf
      exact mm_iret X hP hS dX8_layCard_39
    · replace hf := mm_if c_2 hf
      refine lv_iload_n hx hb dX8_layCard_8 rfl (lv_at hl 2 rfl) ?_
      obtain ⟨r_3, s_3, e_3, hf⟩ := mm_bd_ok hf
      refine mm_callN (host := "LockedCarts") X hP hS hl.1 [.int x2] [] (cx_X10_isRegister l D ad cA hI x2 s_1 r_3 s_3 e_3) nw_14 wd_424 wd_1 wd_425 hd_X10_isRegister ⟨Nat.le_of_ble_eq_true rfl, Nat.le_of_ble_eq_true rfl⟩ rfl (Nat.le_of_ble_eq_true rfl) dX8_layCard_9 (fun H locs hP hS => ?_)
      refine lv_if_eq (tgt := 37) hx hb dX8_layCard_12 (by decide) (fun c_4 => ?_) (fun c_4 => ?_)
      · replace hf := mm_it c_4 hf
        refine lv_ldc (v := (-1000001 : Int32)) hx hb X.2.2.2.2.2.1 (X.2.2.2.2.2.2.1 _ wd_454) dX8_layCard_37 ?_
        obtain ⟨rfl, rfl⟩ := mm_ret hf
        exact mm_iret X hP hS dX8_layCard_39
      · replace hf := mm_if c_4 hf
        refine lv_iload_n hx hb dX8_layCard_15 rfl (lv_at hl 3 rfl) ?_
        refine lv_iconst (v := (0 : Int32)) hx hb dX8_layCard_16 (by decide) ?_
        refine lv_bipush (v := (6 : Int32)) hx hb dX8_layCard_17 (by decide) ?_
        obtain ⟨r_5, s_5, e_5, hf⟩ := mm_bd_ok hf
        refine mm_callN (host := "LockedCarts") X hP hS hl.1 [.int x3, .int (0 : Int32), .int (6 : Int32)] [] (cx_X10_isWithin l D ad cA hI x3 (0 : Int32) (6 : Int32) s_3 r_5 s_5 e_5) nw_12 wd_365 wd_1 wd_366 hd_X10_isWithin ⟨Nat.le_of_ble_eq_true rfl, Nat.le_of_ble_eq_true rfl⟩ rfl (Nat.le_of_ble_eq_true rfl) dX8_layCard_19 (fun H locs hP hS => ?_)
        refine lv_if_eq (tgt := 37) hx hb dX8_layCard_22 (by decide) (fun c_6 => ?_) (fun c_6 => ?_)
        · replace hf := mm_it c_6 hf
          refine lv_ldc (v := (-1000001 : Int32)) hx hb X.2.2.2.2.2.1 (X.2.2.2.2.2.2.1 _ wd_454) dX8_layCard_37 ?_
          obtain ⟨rfl, rfl⟩ := mm_ret hf
          exact mm_iret X hP hS dX8_layCard_39
        · replace hf := mm_if c_6 hf
          refine lv_iload hx hb dX8_layCard_25 (lv_at hl 4 rfl) ?_
          refine lv_iconst (v := (1 : Int32)) hx hb dX8_layCard_27 (by decide) ?_
          refine lv_sipush (v := (999 : Int32)) hx hb dX8_layCard_28 (by decide) ?_
          obtain ⟨r_7, s_7, e_7, hf⟩ := mm_bd_ok hf
          refine mm_callN (host := "LockedCarts") X hP hS hl.1 [.int x4, .int (1 : Int32), .int (999 : Int32)] [] (cx_X10_isWithin l D ad cA hI x4 (1 : Int32) (999 : Int32) s_5 r_7 s_7 e_7) nw_12 wd_365 wd_1 wd_366 hd_X10_isWithin ⟨Nat.le_of_ble_eq_true rfl, Nat.le_of_ble_eq_true rfl⟩ rfl (Nat.le_of_ble_eq_true rfl) dX8_layCard_31 (fun H locs hP hS => ?_)
          refine lv_if_ne (tgt := 40) hx hb dX8_layCard_34 (by decide) (fun c_8 => ?_) (fun c_8 => ?_)
          · replace hf := mm_if c_8 hf
            refine lv_aload_n hx hb dX8_layCard_40 rfl (lv_at hl 0 rfl) ?_
            refine gf_0_1 X hP hr0 wd_110 dX8_layCard_41 ?_
            refine lv_iload_n hx hb dX8_layCard_44 rfl (lv_at hl 1 rfl) ?_
            obtain ⟨h_9, hf⟩ := mm_gd_ok hf
            refine mm_cart X hP hr0 h_9 dX8_layCard_45 ?_
            refine lv_astore (lv' := [(5, .ref (ad r0 6 x1.toNatClampNeg)), (0, .ref (ad r0 0 0)), (1, .int x1), (2, .int x2), (3, .int x3), (4, .int x4)]) hx hb dX8_layCard_46 hl (by decide) rfl (fun ls hl => ?_)
            refine lv_aload hx hb dX8_layCard_48 (lv_at hl 0 rfl) ?_
            refine lv_iload_n hx hb dX8_layCard_50 rfl (lv_at hl 3 rfl) ?_
            obtain ⟨r_10, s_10, e_10, hf⟩ := mm_bd_ok hf
            refine mm_callV X hP hS hl.1 [.int x2] [] (cx_X3_isLocked l D ad cA hI r0 x1.toNatClampNeg x2 hr0 (mm_ix_lt h_9) s_7 r_10 s_10 e_10) (mm_kc r0 hr0 x1.toNatClampNeg (mm_ix_lt h_9) 0 (by decide)) rfl rfl wd_537 wd_538 wd_539 wd_4 wd_540 hd_X3_isLocked ⟨Nat.le_of_ble_eq_true rfl, Nat.le_of_ble_eq_true rfl⟩ rfl (Nat.le_of_ble_eq_true rfl) dX8_layCard_51 (fun H locs hP hS => ?_)
            refine lv_if_ne (tgt := 73) hx hb dX8_layCard_54 (by decide) (fun c_11 => ?_) (fun c_11 => ?_)
            · replace hf := mm_if c_11 hf
              refine lv_ldc (v := (-1000002 : Int32)) hx hb X.2.2.2.2.2.1 (X.2.2.2.2.2.2.1 _ wd_459) dX8_layCard_73 ?_
              obtain ⟨rfl, rfl⟩ := mm_ret hf
              exact mm_iret X hP hS dX8_layCard_75
            · replace hf := mm_it c_11 hf
              refine lv_aload hx hb dX8_layCard_57 (lv_at hl 0 rfl) ?_
              obtain ⟨r_12, s_12, e_12, hf⟩ := mm_bd_ok hf
              refine mm_callV X hP hS hl.1 [] [] (cx_X3_isOut l D ad cA hI r0 x1.toNatClampNeg hr0 (mm_ix_lt h_9) s_10 r_12 s_12 e_12) (mm_kc r0 hr0 x1.toNatClampNeg (mm_ix_lt h_9) 0 (by decide)) rfl rfl wd_313 wd_314 wd_315 wd_4 wd_316 hd_X3_isOut ⟨Nat.le_of_ble_eq_true rfl, Nat.le_of_ble_eq_true rfl⟩ rfl (Nat.le_of_ble_eq_true rfl) dX8_layCard_59 (fun H locs hP hS => ?_)
              refine lv_if_ne (tgt := 73) hx hb dX8_layCard_62 (by decide) (fun c_13 => ?_) (fun c_13 => ?_)
              · replace hf := mm_if c_13 hf
                refine lv_ldc (v := (-1000002 : Int32)) hx hb X.2.2.2.2.2.1 (X.2.2.2.2.2.2.1 _ wd_459) dX8_layCard_73 ?_
                obtain ⟨rfl, rfl⟩ := mm_ret hf
                exact mm_iret X hP hS dX8_layCard_75
              · replace hf := mm_it c_13 hf
                refine lv_iload_n hx hb dX8_layCard_65 rfl (lv_at hl 3 rfl) ?_
                refine lv_aload_n hx hb dX8_layCard_66 rfl (lv_at hl 1 rfl) ?_
                refine gf_0_3 X hP hr0 wd_120 dX8_layCard_67 ?_
                refine lv_icmp_ge (tgt := 76) hx hb dX8_layCard_70 (by decide) (fun c_14 => ?_) (fun c_14 => ?_)
                · replace hf := mm_it c_14 hf
                  refine lv_aload hx hb dX8_layCard_76 (lv_at hl 0 rfl) ?_
                  refine lv_iload_n hx hb dX8_layCard_78 rfl (lv_at hl 3 rfl) ?_
                  refine lv_iload_n hx hb dX8_layCard_79 rfl (lv_at hl 4 rfl) ?_
                  refine lv_iload hx hb dX8_layCard_80 (lv_at hl 5 rfl) ?_
                  obtain ⟨r_15, s_15, e_15, hf⟩ := mm_bd_ok hf
                  refine mm_callV X hP hS hl.1 [.int x2, .int x3, .int x4] [] (cx_X3_lay l D ad cA hI r0 x1.toNatClampNeg x2 x3 x4 hr0 (mm_ix_lt h_9) s_12 r_15 s_15 e_15) (mm_kc r0 hr0 x1.toNatClampNeg (mm_ix_lt h_9) 0 (by decide)) rfl rfl wd_541 wd_542 wd_543 wd_4 wd_544 hd_X3_lay ⟨Nat.le_of_ble_eq_true rfl, Nat.le_of_ble_eq_true rfl⟩ rfl (Nat.le_of_ble_eq_true rfl) dX8_layCard_82 (fun H locs hP hS => ?_)
                  refine lv_aload hx hb dX8_layCard_85 (lv_at hl 0 rfl) ?_
                  obtain ⟨r_16, s_16, e_16, hf⟩ := mm_bd_ok hf
                  refine mm_callV X hP hS hl.1 [] [] (cx_X3_cardSet l D ad cA hI r0 x1.toNatClampNeg hr0 (mm_ix_lt h_9) s_15 r_16 s_16 e_16) (mm_kc r0 hr0 x1.toNatClampNeg (mm_ix_lt h_9) 0 (by decide)) rfl rfl wd_545 wd_415 wd_416 wd_4 wd_417 hd_X3_cardSet ⟨Nat.le_of_ble_eq_true rfl, Nat.le_of_ble_eq_true rfl⟩ rfl (Nat.le_of_ble_eq_true rfl) dX8_layCard_87 (fun H locs hP hS => ?_)
                  obtain ⟨r_17, s_17, e_17, hf⟩ := mm_bd_ok hf
                  refine mm_callS X hP hS hl.1 [.int r_16] [] (cx_J6_bitCount_0f7a4 l D ad cA hI r_16 s_16 r_17 s_17 e_17) wd_546 wd_547 wd_14 wd_548 hd_J6_bitCount_0f7a4 ⟨Nat.le_of_ble_eq_true rfl, Nat.le_of_ble_eq_true rfl⟩ rfl (Nat.le_of_ble_eq_true rfl) dX8_layCard_90 (fun H locs hP hS => ?_)
                  obtain ⟨rfl, rfl⟩ := mm_ret hf
                  exact mm_iret X hP hS dX8_layCard_93
                · replace hf := mm_if c_14 hf
                  refine lv_ldc (v := (-1000002 : Int32)) hx hb X.2.2.2.2.2.1 (X.2.2.2.2.2.2.1 _ wd_459) dX8_layCard_73 ?_
                  obtain ⟨rfl, rfl⟩ := mm_ret hf
                  exact mm_iret X hP hS dX8_layCard_75
          · replace hf := mm_it c_8 hf
            refine lv_ldc (v := (-1000001 : Int32)) hx hb X.2.2.2.2.2.1 (X.2.2.2.2.2.2.1 _ wd_454) dX8_layCard_37 ?_
            obtain ⟨rfl, rfl⟩ := mm_ret hf
            exact mm_iret X hP hS dX8_layCard_39
  exact hgen _ _ hP hS
