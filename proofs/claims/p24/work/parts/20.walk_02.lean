def fx_X10_card (x1 : Int32) (x2 : Int32) (x3 : Int32) (x4 : Int32) (σ : mm_M) : mm_R := mm_bd (fx_X10_freshTrial  σ) fun _ s_1 => (mm_bd (fx_X8_layCard 1 x1 x2 x3 x4 s_1) fun r_2 s_2 => (mm_bd (fx_X10_keep r_2 s_2) fun r_3 s_3 => (some (r_3, s_3))))
set_option maxHeartbeats 4000000 in
set_option maxRecDepth 100000 in
theorem cx_X10_card (l : Launch) (D : va_G) (ad : mm_A) (cA : Nat → ClassId) (hI : mm_Inj ad) (x1 : Int32) (x2 : Int32) (x3 : Int32) (x4 : Int32)  (σ : mm_M) (rv : Int32) (σ1 : mm_M) (hf : fx_X10_card x1 x2 x3 x4 σ = some (rv, σ1)) : Met l yX10_card (Cond.code yX10_card cX10_card 5 (some .int) :: tb) (mm_rm 5 103) (mm_pre D ad cA [.ref (ad 6 9 0), .int x1, .int x2, .int x3, .int x4] σ) (mm_Q D ad cA (some (.int rv)) σ1) 0 0 (mm_AS ad) := by
  refine mm_start (by decide +kernel) hI (Nat.le_of_ble_eq_true rfl) ?_
  intro p e s m args below meth c X hP ls hl
  have hl : lv_has ls 5 [(0, .ref (ad 6 9 0)), (1, .int x1), (2, .int x2), (3, .int x3), (4, .int x4)] := hl
  have hx := X.1
  have hb := X.2.1
  have hS : va_S (mm_AS ad) s.heap s.heap [] := va_S.rf
  have hgen : ∀ (H : Heap) (locs : List Loc), va_P D vwCl (mm_wd ad cA σ) H → va_S (mm_AS ad) s.heap H locs → W p l e (mm_rm 5 103) s m args below meth c H locs 0 0 (MQ below (mm_Q D ad cA (some (.int rv)) σ1) args s 0 0 (mm_AS ad)) (F0 m 0 ls []) := by
    intro H locs hP hS
    rw [fx_X10_card] at hf
    refine lv_aload_n hx hb dX10_card_0 rfl (lv_at hl 0 rfl) ?_
    refine lv_aload_n hx hb dX10_card_1 rfl (lv_at hl 0 rfl) ?_
    obtain ⟨r_1, s_1, e_1, hf⟩ := mm_bd_ok hf
    refine mm_callV X hP hS hl.1 [] [.ref (ad 6 9 0)] (cx_X10_freshTrial l D ad cA hI  σ r_1 s_1 e_1) kp_9 rfl rfl wd_441 wd_443 wp_0 wd_1 wd_444 hd_X10_freshTrial ⟨Nat.le_of_ble_eq_true rfl, Nat.le_of_ble_eq_true rfl⟩ rfl (Nat.le_of_ble_eq_true rfl) dX10_card_2 (fun H locs hP hS => ?_)
    refine lv_iload_n hx hb dX10_card_5 rfl (lv_at hl 1 rfl) ?_
    refine lv_iload_n hx hb dX10_card_6 rfl (lv_at hl 2 rfl) ?_
    refine lv_iload_n hx hb dX10_card_7 rfl (lv_at hl 3 rfl) ?_
    refine lv_iload hx hb dX10_card_8 (lv_at hl 4 rfl) ?_
    obtain ⟨r_2, s_2, e_2, hf⟩ := mm_bd_ok hf
    refine mm_callV X hP hS hl.1 [.int x1, .int x2, .int x3, .int x4] [.ref (ad 6 9 0)] (cx_X8_layCard l D ad cA hI 1 x1 x2 x3 x4 (by decide) s_1 r_2 s_2 e_2) (mm_kr 1 (by decide) 0 (by decide)) rfl rfl wd_531 wd_532 wd_533 wd_2 wd_534 hd_X8_layCard ⟨Nat.le_of_ble_eq_true rfl, Nat.le_of_ble_eq_true rfl⟩ rfl (Nat.le_of_ble_eq_true rfl) dX10_card_10 (fun H locs hP hS => ?_)
    obtain ⟨r_3, s_3, e_3, hf⟩ := mm_bd_ok hf
    refine mm_callV X hP hS hl.1 [.int r_2] [] (cx_X10_keep l D ad cA hI r_2 s_2 r_3 s_3 e_3) kp_9 rfl rfl wd_465 wd_467 wp_1 wd_1 wd_468 hd_X10_keep ⟨Nat.le_of_ble_eq_true rfl, Nat.le_of_ble_eq_true rfl⟩ rfl (Nat.le_of_ble_eq_true rfl) dX10_card_13 (fun H locs hP hS => ?_)
    obtain ⟨rfl, rfl⟩ := mm_ret hf
    exact mm_iret X hP hS dX10_card_16
  exact hgen _ _ hP hS
def fx_J9_min_7cf53 (x0 : Int32) (x1 : Int32) (σ : mm_M) : mm_R := if x1 < x0 then some (x1, σ) else some (x0, σ)
set_option maxHeartbeats 4000000 in
set_option maxRecDepth 100000 in
theorem cx_J9_min_7cf53 (l : Launch) (D : va_G) (ad : mm_A) (cA : Nat → ClassId) (hI : mm_Inj ad) (x0 : Int32) (x1 : Int32)  (σ : mm_M) (rv : Int32) (σ1 : mm_M) (hf : fx_J9_min_7cf53 x0 x1 σ = some (rv, σ1)) : Met l yJ9_min_7cf53 (Cond.code yJ9_min_7cf53 cJ9_min_7cf53 2 (some .int) :: tb) (mm_rm 0 0) (mm_pre D ad cA [.int x0, .int x1] σ) (mm_Q D ad cA (some (.int rv)) σ1) 0 0 (mm_AS ad) := by
  refine mm_startF (by decide +kernel) hI (Nat.le_of_ble_eq_true rfl) ?_
  intro p e s m args below meth c X hP ls hl
  have hl : lv_has ls 2 [(0, .int x0), (1, .int x1)] := hl
  have hx := X.1
  have hb := X.2.1
  have hS : va_S (mm_AS ad) s.heap s.heap [] := va_S.rf
  have hgen : ∀ (H : Heap) (locs : List Loc), va_P D vwCl (mm_wd ad cA σ) H → va_S (mm_AS ad) s.heap H locs → W p l e (mm_rm 0 0) s m args below meth c H locs 0 0 (MQ below (mm_Q D ad cA (some (.int rv)) σ1) args s 0 0 (mm_AS ad)) (F0 m 0 ls []) := by
    intro H locs hP hS
    rw [fx_J9_min_7cf53] at hf
    refine lv_iload_n hx hb dJ9_min_7cf53_0 rfl (lv_at hl 0 rfl) ?_
    refine lv_iload_n hx hb dJ9_min_7cf53_1 rfl (lv_at hl 1 rfl) ?_
    refine lv_icmp_gt (tgt := 9) hx hb dJ9_min_7cf53_2 (by decide) (fun c_1 => ?_) (fun c_1 => ?_)
    · replace hf := mm_it c_1 hf
      refine lv_iload_n hx hb dJ9_min_7cf53_9 rfl (lv_at hl 1 rfl) ?_
      obtain ⟨rfl, rfl⟩ := mm_ret hf
      exact mm_iret X hP hS dJ9_min_7cf53_10
    · replace hf := mm_if c_1 hf
      refine lv_iload_n hx hb dJ9_min_7cf53_5 rfl (lv_at hl 0 rfl) ?_
      refine lv_goto (tgt := 10) hx hb dJ9_min_7cf53_6 (by decide) ?_
      obtain ⟨rfl, rfl⟩ := mm_ret hf
      exact mm_iret X hP hS dJ9_min_7cf53_10
  exact hgen _ _ hP hS
def fx_X3_addDamage (r0 : Nat) (n0 : Nat) (x1 : Int32) (σ : mm_M) : mm_R := mm_bd (fx_J9_min_7cf53 (9 : Int32) ((σ r0 6 n0 5) + x1) σ) fun r_1 s_1 => (mm_bd (fx_J9_max_7cf53 (0 : Int32) r_1 s_1) fun r_2 s_2 => (mm_lt (mm_u s_2 r0 6 n0 5 r_2) fun s_3 => (some (0, s_3))))
set_option maxHeartbeats 4000000 in
set_option maxRecDepth 100000 in
theorem cx_X3_addDamage (l : Launch) (D : va_G) (ad : mm_A) (cA : Nat → ClassId) (hI : mm_Inj ad) (r0 : Nat) (n0 : Nat) (x1 : Int32) (hr0 : r0 < 6) (hn0 : n0 < 4) (σ : mm_M) (rv : Int32) (σ1 : mm_M) (hf : fx_X3_addDamage r0 n0 x1 σ = some (rv, σ1)) : Met l yX3_addDamage (Cond.code yX3_addDamage cX3_addDamage 2 none :: tb) (mm_rm 1 21) (mm_pre D ad cA [.ref (ad r0 6 n0), .int x1] σ) (mm_Q D ad cA none σ1) 0 0 (mm_AS ad) := by
  refine mm_start (by decide +kernel) hI (Nat.le_of_ble_eq_true rfl) ?_
  intro p e s m args below meth c X hP ls hl
  have hl : lv_has ls 2 [(0, .ref (ad r0 6 n0)), (1, .int x1)] := hl
  have hx := X.1
  have hb := X.2.1
  have hS : va_S (mm_AS ad) s.heap s.heap [] := va_S.rf
  have hgen : ∀ (H : Heap) (locs : List Loc), va_P D vwCl (mm_wd ad cA σ) H → va_S (mm_AS ad) s.heap H locs → W p l e (mm_rm 1 21) s m args below meth c H locs 0 0 (MQ below (mm_Q D ad cA none σ1) args s 0 0 (mm_AS ad)) (F0 m 0 ls []) := by
    intro H locs hP hS
    rw [fx_X3_addDamage] at hf
    refine lv_aload_n hx hb dX3_addDamage_0 rfl (lv_at hl 0 rfl) ?_
    refine lv_iconst (v := (0 : Int32)) hx hb dX3_addDamage_1 (by decide) ?_
    refine lv_bipush (v := (9 : Int32)) hx hb dX3_addDamage_2 (by decide) ?_
    refine lv_aload_n hx hb dX3_addDamage_4 rfl (lv_at hl 0 rfl) ?_
    refine gf_6_5 X hP hr0 hn0 wd_78 dX3_addDamage_5 ?_
    refine lv_iload_n hx hb dX3_addDamage_8 rfl (lv_at hl 1 rfl) ?_
    refine lv_iadd hx hb dX3_addDamage_9 ?_
    obtain ⟨r_1, s_1, e_1, hf⟩ := mm_bd_ok hf
    refine mm_callS X hP hS hl.1 [.int (9 : Int32), .int ((σ r0 6 n0 5) + x1)] [.int (0 : Int32), .ref (ad r0 6 n0)] (cx_J9_min_7cf53 l D ad cA hI (9 : Int32) ((σ r0 6 n0 5) + x1) σ r_1 s_1 e_1) wd_564 wd_565 wd_12 wd_566 hd_J9_min_7cf53 ⟨Nat.le_of_ble_eq_true rfl, Nat.le_of_ble_eq_true rfl⟩ rfl (Nat.le_of_ble_eq_true rfl) dX3_addDamage_10 (fun H locs hP hS => ?_)
    obtain ⟨r_2, s_2, e_2, hf⟩ := mm_bd_ok hf
    refine mm_callS X hP hS hl.1 [.int (0 : Int32), .int r_1] [.ref (ad r0 6 n0)] (cx_J9_max_7cf53 l D ad cA hI (0 : Int32) r_1 s_1 r_2 s_2 e_2) wd_411 wd_412 wd_12 wd_413 hd_J9_max_7cf53 ⟨Nat.le_of_ble_eq_true rfl, Nat.le_of_ble_eq_true rfl⟩ rfl (Nat.le_of_ble_eq_true rfl) dX3_addDamage_13 (fun H locs hP hS => ?_)
    refine pf_6_5 X hP hS hr0 hn0 wd_78  dX3_addDamage_16 (fun H locs hP hS => ?_)
    obtain ⟨s_3, e_3, hf⟩ := mm_lt_ok hf
    rw [← e_3] at hP
    obtain ⟨rfl, rfl⟩ := mm_ret hf
    exact mm_vret X hP hS dX3_addDamage_19
  exact hgen _ _ hP hS
def fx_X8_harm (r0 : Nat) (x1 : Int32) (x2 : Int32) (σ : mm_M) : mm_R := mm_bd (fx_X8_hasCart r0 x1 σ) fun r_1 s_1 => (if r_1 = (0 : Int32) then some ((-1000001 : Int32), s_1) else mm_bd (fx_X10_isWithin x2 (-9 : Int32) (9 : Int32) s_1) fun r_3 s_3 => (if r_3 = (0 : Int32) then some ((-1000001 : Int32), s_3) else mm_gd (mm_ix x1 4 = true) (mm_bd (fx_X3_isOut r0 x1.toNatClampNeg s_3) fun r_6 s_6 => (if r_6 = (0 : Int32) then mm_bd (fx_X3_addDamage r0 x1.toNatClampNeg x2 s_6) fun _ s_8 => (some (s_8 r0 6 x1.toNatClampNeg 5, s_8)) else some ((-1000002 : Int32), s_6)))))
set_option maxHeartbeats 4000000 in
set_option maxRecDepth 100000 in
theorem cx_X8_harm (l : Launch) (D : va_G) (ad : mm_A) (cA : Nat → ClassId) (hI : mm_Inj ad) (r0 : Nat) (x1 : Int32) (x2 : Int32) (hr0 : r0 < 6) (σ : mm_M) (rv : Int32) (σ1 : mm_M) (hf : fx_X8_harm r0 x1 x2 σ = some (rv, σ1)) : Met l yX8_harm (Cond.code yX8_harm cX8_harm 4 (some .int) :: tb) (mm_rm 2 42) (mm_pre D ad cA [.ref (ad r0 0 0), .int x1, .int x2] σ) (mm_Q D ad cA (some (.int rv)) σ1) 0 0 (mm_AS ad) := by
  refine mm_start (by decide +kernel) hI (Nat.le_of_ble_eq_true rfl) ?_
  intro p e s m args below meth c X hP ls hl
  have hl : lv_has ls 4 [(0, .ref (ad r0 0 0)), (1, .int x1), (2, .int x2)] := hl
  have hx := X.1
  have hb := X.2.1
  have hS : va_S (mm_AS ad) s.heap s.heap [] := va_S.rf
  have hgen : ∀ (H : Heap) (locs : List Loc), va_P D vwCl (mm_wd ad cA σ) H → va_S (mm_AS ad) s.heap H locs → W p l e (mm_rm 2 42) s m args below meth c H locs 0 0 (MQ below (mm_Q D ad cA (some (.int rv)) σ1) args s 0 0 (mm_AS ad)) (F0 m 0 ls []) := by
    intro H locs hP hS
    rw [fx_X8_harm] at hf
    refine lv_aload_n hx hb dX8_harm_0 rfl (lv_at hl 0 rfl) ?_
    refine lv_iload_n hx hb dX8_harm_1 rfl (lv_at hl 1 rfl) ?_
    obtain ⟨r_1, s_1, e_1, hf⟩ := mm_bd_ok hf
    refine mm_callV X hP hS hl.1 [.int x1] [] (cx_X8_hasCart l D ad cA hI r0 x1 hr0 σ r_1 s_1 e_1) (mm_kr r0 hr0 0 (by decide)) rfl rfl wd_535 wd_394 wd_395 wd_2 wd_396 hd_X8_hasCart ⟨Nat.le_of_ble_eq_true rfl, Nat.le_of_ble_eq_true rfl⟩ rfl (Nat.le_of_ble_eq_true rfl) dX8_harm_2 (fun H locs hP hS => ?_)
    refine lv_if_eq (tgt := 19) hx hb dX8_harm_5 (by decide) (fun c_2 => ?_) (fun c_2 => ?_)
    · replace hf := mm_it c_2 hf
      refine lv_ldc (v := (-1000001 : Int32)) hx hb X.2.2.2.2.2.1 (X.2.2.2.2.2.2.1 _ wd_454) dX8_harm_19 ?_
      obtain ⟨rfl, rfl⟩ := mm_ret hf
      exact mm_iret X hP hS dX8_harm_21
    · replace hf := mm_if c_2 hf
      refine lv_iload_n hx hb dX8_harm_8 rfl (lv_at hl 2 rfl) ?_
      refine lv_bipush (v := (-9 : Int32)) hx hb dX8_harm_9 (by decide) ?_
      refine lv_bipush (v := (9 : Int32)) hx hb dX8_harm_11 (by decide) ?_
      obtain ⟨r_3, s_3, e_3, hf⟩ := mm_bd_ok hf
      refine mm_callN (host := "LockedCarts") X hP hS hl.1 [.int x2, .int (-9 : Int32), .int (9 : Int32)] [] (cx_X10_isWithin l D ad cA hI x2 (-9 : Int32) (9 : Int32) s_1 r_3 s_3 e_3) nw_12 wd_365 wd_1 wd_366 hd_X10_isWithin ⟨Nat.le_of_ble_eq_true rfl, Nat.le_of_ble_eq_true rfl⟩ rfl (Nat.le_of_ble_eq_true rfl) dX8_harm_13 (fun H locs hP hS => ?_)
      refine lv_if_ne (tgt := 22) hx hb dX8_harm_16 (by decide) (fun c_4 => ?_) (fun c_4 => ?_)
      · replace hf := mm_if c_4 hf
        refine lv_aload_n hx hb dX8_harm_22 rfl (lv_at hl 0 rfl) ?_
        refine gf_0_1 X hP hr0 wd_110 dX8_harm_23 ?_
        refine lv_iload_n hx hb dX8_harm_26 rfl (lv_at hl 1 rfl) ?_
        obtain ⟨h_5, hf⟩ := mm_gd_ok hf
        refine mm_cart X hP hr0 h_5 dX8_harm_27 ?_
        refine lv_astore_n (lv' := [(3, .ref (ad r0 6 x1.toNatClampNeg)), (0, .ref (ad r0 0 0)), (1, .int x1), (2, .int x2)]) hx hb dX8_harm_28 rfl hl (by decide) rfl (fun ls hl => ?_)
        refine lv_aload_n hx hb dX8_harm_29 rfl (lv_at hl 0 rfl) ?_
        obtain ⟨r_6, s_6, e_6, hf⟩ := mm_bd_ok hf
        refine mm_callV X hP hS hl.1 [] [] (cx_X3_isOut l D ad cA hI r0 x1.toNatClampNeg hr0 (mm_ix_lt h_5) s_3 r_6 s_6 e_6) (mm_kc r0 hr0 x1.toNatClampNeg (mm_ix_lt h_5) 0 (by decide)) rfl rfl wd_313 wd_314 wd_315 wd_4 wd_316 hd_X3_isOut ⟨Nat.le_of_ble_eq_true rfl, Nat.le_of_ble_eq_true rfl⟩ rfl (Nat.le_of_ble_eq_true rfl) dX8_harm_30 (fun H locs hP hS => ?_)
        refine lv_if_eq (tgt := 39) hx hb dX8_harm_33 (by decide) (fun c_7 => ?_) (fun c_7 => ?_)
        · replace hf := mm_it c_7 hf
          refine lv_aload_n hx hb dX8_harm_39 rfl (lv_at hl 0 rfl) ?_
          refine lv_iload_n hx hb dX8_harm_40 rfl (lv_at hl 3 rfl) ?_
          obtain ⟨r_8, s_8, e_8, hf⟩ := mm_bd_ok hf
          refine mm_callV X hP hS hl.1 [.int x2] [] (cx_X3_addDamage l D ad cA hI r0 x1.toNatClampNeg x2 hr0 (mm_ix_lt h_5) s_6 r_8 s_8 e_8) (mm_kc r0 hr0 x1.toNatClampNeg (mm_ix_lt h_5) 0 (by decide)) rfl rfl wd_560 wd_561 wd_562 wd_4 wd_563 hd_X3_addDamage ⟨Nat.le_of_ble_eq_true rfl, Nat.le_of_ble_eq_true rfl⟩ rfl (Nat.le_of_ble_eq_true rfl) dX8_harm_41 (fun H locs hP hS => ?_)
          refine lv_aload_n hx hb dX8_harm_44 rfl (lv_at hl 0 rfl) ?_
          refine gf_6_5 X hP hr0 (mm_ix_lt h_5) wd_79 dX8_harm_45 ?_
          obtain ⟨rfl, rfl⟩ := mm_ret hf
          exact mm_iret X hP hS dX8_harm_48
        · replace hf := mm_if c_7 hf
          refine lv_ldc (v := (-1000002 : Int32)) hx hb X.2.2.2.2.2.1 (X.2.2.2.2.2.2.1 _ wd_459) dX8_harm_36 ?_
          obtain ⟨rfl, rfl⟩ := mm_ret hf
          exact mm_iret X hP hS dX8_harm_38
      · replace hf := mm_it c_4 hf
        refine lv_ldc (v := (-1000001 : Int32)) hx hb X.2.2.2.2.2.1 (X.2.2.2.2.2.2.1 _ wd_454) dX8_harm_19 ?_
        obtain ⟨rfl, rfl⟩ := mm_ret hf
        exact mm_iret X hP hS dX8_harm_21
  exact hgen _ _ hP hS
def fx_X10_damage (x1 : Int32) (x2 : Int32) (σ : mm_M) : mm_R := mm_bd (fx_X10_freshTrial  σ) fun _ s_1 => (mm_bd (fx_X8_harm 1 x1 x2 s_1) fun r_2 s_2 => (mm_bd (fx_X10_keep r_2 s_2) fun r_3 s_3 => (some (r_3, s_3))))
set_option maxHeartbeats 4000000 in
set_option maxRecDepth 100000 in
theorem cx_X10_damage (l : Launch) (D : va_G) (ad : mm_A) (cA : Nat → ClassId) (hI : mm_Inj ad) (x1 : Int32) (x2 : Int32)  (σ : mm_M) (rv : Int32) (σ1 : mm_M) (hf : fx_X10_damage x1 x2 σ = some (rv, σ1)) : Met l yX10_damage (Cond.code yX10_damage cX10_damage 3 (some .int) :: tb) (mm_rm 5 103) (mm_pre D ad cA [.ref (ad 6 9 0), .int x1, .int x2] σ) (mm_Q D ad cA (some (.int rv)) σ1) 0 0 (mm_AS ad) := by
  refine mm_start (by decide +kernel) hI (Nat.le_of_ble_eq_true rfl) ?_
  intro p e s m args below meth c X hP ls hl
  have hl : lv_has ls 3 [(0, .ref (ad 6 9 0)), (1, .int x1), (2, .int x2)] := hl
  have hx := X.1
  have hb := X.2.1
  have hS : va_S (mm_AS ad) s.heap s.heap [] := va_S.rf
  have hgen : ∀ (H : Heap) (locs : List Loc), va_P D vwCl (mm_wd ad cA σ) H → va_S (mm_AS ad) s.heap H locs → W p l e (mm_rm 5 103) s m args below meth c H locs 0 0 (MQ below (mm_Q D ad cA (some (.int rv)) σ1) args s 0 0 (mm_AS ad)) (F0 m 0 ls []) := by
    intro H locs hP hS
    rw [fx_X10_damage] at hf
    refine lv_aload_n hx hb dX10_damage_0 rfl (lv_at hl 0 rfl) ?_
    refine lv_aload_n hx hb dX10_damage_1 rfl (lv_at hl 0 rfl) ?_
    obtain ⟨r_1, s_1, e_1, hf⟩ := mm_bd_ok hf
    refine mm_callV X hP hS hl.1 [] [.ref (ad 6 9 0)] (cx_X10_freshTrial l D ad cA hI  σ r_1 s_1 e_1) kp_9 rfl rfl wd_441 wd_443 wp_0 wd_1 wd_444 hd_X10_freshTrial ⟨Nat.le_of_ble_eq_true rfl, Nat.le_of_ble_eq_true rfl⟩ rfl (Nat.le_of_ble_eq_true rfl) dX10_damage_2 (fun H locs hP hS => ?_)
    refine lv_iload_n hx hb dX10_damage_5 rfl (lv_at hl 1 rfl) ?_
    refine lv_iload_n hx hb dX10_damage_6 rfl (lv_at hl 2 rfl) ?_
    obtain ⟨r_2, s_2, e_2, hf⟩ := mm_bd_ok hf
    refine mm_callV X hP hS hl.1 [.int x1, .int x2] [.ref (ad 6 9 0)] (cx_X8_harm l D ad cA hI 1 x1 x2 (by decide) s_1 r_2 s_2 e_2) (mm_kr 1 (by decide) 0 (by decide)) rfl rfl wd_556 wd_557 wd_558 wd_2 wd_559 hd_X8_harm ⟨Nat.le_of_ble_eq_true rfl, Nat.le_of_ble_eq_true rfl⟩ rfl (Nat.le_of_ble_eq_true rfl) dX10_damage_7 (fun H locs hP hS => ?_)
    obtain ⟨r_3, s_3, e_3, hf⟩ := mm_bd_ok hf
    refine mm_callV X hP hS hl.1 [.int r_2] [] (cx_X10_keep l D ad cA hI r_2 s_2 r_3 s_3 e_3) kp_9 rfl rfl wd_465 wd_467 wp_1 wd_1 wd_468 hd_X10_keep ⟨Nat.le_of_ble_eq_true rfl, Nat.le_of_ble_eq_true rfl⟩ rfl (Nat.le_of_ble_eq_true rfl) dX10_damage_10 (fun H locs hP hS => ?_)
    obtain ⟨rfl, rfl⟩ := mm_ret hf
    exact mm_iret X hP hS dX10_damage_13
  exact hgen _ _ hP hS
def fx_X8_timesOut_L4 (r0 : Nat)  : Nat → Int32 → Int32 → mm_M → mm_R
  | 0, _, _, _ => none
  | fu + 1, v1, v2, σ => if (σ r0 0 0 2) ≤ v2 then some (v1, σ) else mm_gd (mm_ix v2 4 = true) (mm_li (v1 + (σ r0 6 v2.toNatClampNeg 7)) fun y_3 => (mm_li (v2 + (1 : Int32)) fun y_4 => (fx_X8_timesOut_L4 r0 fu y_3 y_4 σ)))
set_option maxHeartbeats 4000000 in
set_option maxRecDepth 100000 in
theorem cx_X8_timesOut_L4 {p : Program} {l : Launch} {e : Env} {s : State} {m : MethodId} {args : Array Value} {below : List Frame} {meth : Method} {c : Code} {D : va_G} {ad : mm_A} {cA : Nat → ClassId} (r0 : Nat) (hr0 : r0 < 6) (rv : Int32) (σ1 : mm_M)  (X : mm_X p s m args meth c cX8_timesOut 3 (some .int) RX8 D ad cA) : ∀ (fu : Nat), ∀ (v1 : Int32) (v2 : Int32) (σ : mm_M) (H : Heap) (locs : List Loc) (ls : Array Slot), fx_X8_timesOut_L4 r0 fu v1 v2 σ = some (rv, σ1) → va_P D vwCl (mm_wd ad cA σ) H → va_S (mm_AS ad) s.heap H locs → lv_has ls 3 [(0, .ref (ad r0 0 0)), (1, .int v1), (2, .int v2)] → W p l e (mm_rm 0 0) s m args below meth c H locs 0 0 (MQ below (mm_Q D ad cA (some (.int rv)) σ1) args s 0 0 (mm_AS ad)) (F0 m 4 ls []) := by
  have hx := X.1
  have hb := X.2.1
  have hI := X.2.2.2.2.2.2.2.2.2
  intro fu
  induction fu with
  | zero =>
    intro v1 v2 σ H locs ls hf
    exact mm_no hf
  | succ fu ih =>
    intro v1 v2 σ H locs ls hf hP hS hl
    rw [fx_X8_timesOut_L4] at hf
    refine lv_iload_n hx hb dX8_timesOut_4 rfl (lv_at hl 2 rfl) ?_
    refine lv_aload_n hx hb dX8_timesOut_5 rfl (lv_at hl 0 rfl) ?_
    refine gf_0_2 X hP hr0 wd_117 dX8_timesOut_6 ?_
    refine lv_icmp_ge (tgt := 30) hx hb dX8_timesOut_9 (by decide) (fun c_1 => ?_) (fun c_1 => ?_)
    · replace hf := mm_it c_1 hf
      refine lv_iload_n hx hb dX8_timesOut_30 rfl (lv_at hl 1 rfl) ?_
      obtain ⟨rfl, rfl⟩ := mm_ret hf
      exact mm_iret X hP hS dX8_timesOut_31
    · replace hf := mm_if c_1 hf
      refine lv_iload_n hx hb dX8_timesOut_12 rfl (lv_at hl 1 rfl) ?_
      refine lv_aload_n hx hb dX8_timesOut_13 rfl (lv_at hl 0 rfl) ?_
      refine gf_0_1 X hP hr0 wd_110 dX8_timesOut_14 ?_
      refine lv_iload_n hx hb dX8_timesOut_17 rfl (lv_at hl 2 rfl) ?_
      obtain ⟨h_2, hf⟩ := mm_gd_ok hf
      refine mm_cart X hP hr0 h_2 dX8_timesOut_18 ?_
      refine gf_6_7 X hP hr0 (mm_ix_lt h_2) wd_84 dX8_timesOut_19 ?_
      refine lv_iadd hx hb dX8_timesOut_22 ?_
      obtain ⟨y_3, e_3, hf⟩ := mm_li_ok hf
      rw [← e_3]
      refine lv_istore_n (lv' := [(1, .int y_3), (0, .ref (ad r0 0 0)), (2, .int v2)]) hx hb dX8_timesOut_23 rfl hl (by decide) rfl (fun ls hl => ?_)
      obtain ⟨y_4, e_4, hf⟩ := mm_li_ok hf
      refine lv_iinc (v := y_4) (lv' := [(2, .int y_4), (1, .int y_3), (0, .ref (ad r0 0 0))]) hx hb dX8_timesOut_24 hl (k := 2) rfl (by rw [e_4]; rfl) (by decide) rfl (fun ls hl => ?_)
      refine lv_goto (tgt := 4) hx hb dX8_timesOut_27 (by decide) ?_
      exact ih y_3 y_4 σ H locs ls  hf hP hS (lv_sub hl [2, 1, 0] rfl)
def fx_X8_timesOut (r0 : Nat) (σ : mm_M) : mm_R := fx_X8_timesOut_L4 r0 mm_FU (0 : Int32) (0 : Int32) σ
set_option maxHeartbeats 4000000 in
set_option maxRecDepth 100000 in
theorem cx_X8_timesOut (l : Launch) (D : va_G) (ad : mm_A) (cA : Nat → ClassId) (hI : mm_Inj ad) (r0 : Nat) (hr0 : r0 < 6) (σ : mm_M) (rv : Int32) (σ1 : mm_M) (hf : fx_X8_timesOut r0 σ = some (rv, σ1)) : Met l yX8_timesOut (Cond.code yX8_timesOut cX8_timesOut 3 (some .int) :: tb) (mm_rm 0 0) (mm_pre D ad cA [.ref (ad r0 0 0)] σ) (mm_Q D ad cA (some (.int rv)) σ1) 0 0 (mm_AS ad) := by
  refine mm_start (by decide +kernel) hI (Nat.le_of_ble_eq_true rfl) ?_
  intro p e s m args below meth c X hP ls hl
  have hl : lv_has ls 3 [(0, .ref (ad r0 0 0))] := hl
  have hx := X.1
  have hb := X.2.1
  have hS : va_S (mm_AS ad) s.heap s.heap [] := va_S.rf
  have hgen : ∀ (H : Heap) (locs : List Loc), va_P D vwCl (mm_wd ad cA σ) H → va_S (mm_AS ad) s.heap H locs → W p l e (mm_rm 0 0) s m args below meth c H locs 0 0 (MQ below (mm_Q D ad cA (some (.int rv)) σ1) args s 0 0 (mm_AS ad)) (F0 m 0 ls []) := by
    intro H locs hP hS
    rw [fx_X8_timesOut] at hf
    refine lv_iconst (v := (0 : Int32)) hx hb dX8_timesOut_0 (by decide) ?_
    refine lv_istore_n (lv' := [(1, .int (0 : Int32)), (0, .ref (ad r0 0 0))]) hx hb dX8_timesOut_1 rfl hl (by decide) rfl (fun ls hl => ?_)
    refine lv_iconst (v := (0 : Int32)) hx hb dX8_timesOut_2 (by decide) ?_
    refine lv_istore_n (lv' := [(2, .int (0 : Int32)), (1, .int (0 : Int32)), (0, .ref (ad r0 0 0))]) hx hb dX8_timesOut_3 rfl hl (by decide) rfl (fun ls hl => ?_)
    exact cx_X8_timesOut_L4 r0 hr0 rv σ1 X mm_FU (0 : Int32) (0 : Int32) σ H locs ls hf hP hS (lv_sub hl [2, 1, 0] rfl)
  exact hgen _ _ hP hS
def fx_X3_hasCard (r0 : Nat) (n0 : Nat) (x1 : Int32) (σ : mm_M) : mm_R := mm_gd (mm_ix x1 5 = true) (if (σ r0 8 n0 x1.toNatClampNeg) ≤ (0 : Int32) then some ((0 : Int32), σ) else some ((1 : Int32), σ))
set_option maxHeartbeats 4000000 in
set_option maxRecDepth 100000 in
theorem cx_X3_hasCard (l : Launch) (D : va_G) (ad : mm_A) (cA : Nat → ClassId) (hI : mm_Inj ad) (r0 : Nat) (n0 : Nat) (x1 : Int32) (hr0 : r0 < 6) (hn0 : n0 < 4) (σ : mm_M) (rv : Int32) (σ1 : mm_M) (hf : fx_X3_hasCard r0 n0 x1 σ = some (rv, σ1)) : Met l yX3_hasCard (Cond.code yX3_hasCard cX3_hasCard 2 (some .boolean) :: tb) (mm_rm 0 0) (mm_pre D ad cA [.ref (ad r0 6 n0), .int x1] σ) (mm_Q D ad cA (some (.int rv)) σ1) 0 0 (mm_AS ad) := by
  refine mm_start (by decide +kernel) hI (Nat.le_of_ble_eq_true rfl) ?_
  intro p e s m args below meth c X hP ls hl
  have hl : lv_has ls 2 [(0, .ref (ad r0 6 n0)), (1, .int x1)] := hl
  have hx := X.1
  have hb := X.2.1
  have hS : va_S (mm_AS ad) s.heap s.heap [] := va_S.rf
  have hgen : ∀ (H : Heap) (locs : List Loc), va_P D vwCl (mm_wd ad cA σ) H → va_S (mm_AS ad) s.heap H locs → W p l e (mm_rm 0 0) s m args below meth c H locs 0 0 (MQ below (mm_Q D ad cA (some (.int rv)) σ1) args s 0 0 (mm_AS ad)) (F0 m 0 ls []) := by
    intro H locs hP hS
    rw [fx_X3_hasCard] at hf
    refine lv_aload_n hx hb dX3_hasCard_0 rfl (lv_at hl 0 rfl) ?_
    refine gf_6_1 X hP hr0 hn0 wd_65 dX3_hasCard_1 ?_
    refine lv_iload_n hx hb dX3_hasCard_4 rfl (lv_at hl 1 rfl) ?_
    obtain ⟨h_1, hf⟩ := mm_gd_ok hf
    refine al_8 X hP hr0 hn0 h_1 dX3_hasCard_5 ?_
    refine lv_if_le (tgt := 13) hx hb dX3_hasCard_6 (by decide) (fun c_2 => ?_) (fun c_2 => ?_)
    · replace hf := mm_it c_2 hf
      refine lv_iconst (v := (0 : Int32)) hx hb dX3_hasCard_13 (by decide) ?_
      obtain ⟨rfl, rfl⟩ := mm_ret hf
      exact mm_zret (Or.inl rfl) X hP hS dX3_hasCard_14
    · replace hf := mm_if c_2 hf
      refine lv_iconst (v := (1 : Int32)) hx hb dX3_hasCard_9 (by decide) ?_
      refine lv_goto (tgt := 14) hx hb dX3_hasCard_10 (by decide) ?_
      obtain ⟨rfl, rfl⟩ := mm_ret hf
      exact mm_zret (Or.inr rfl) X hP hS dX3_hasCard_14
  exact hgen _ _ hP hS
def fx_X2_insert_J75 (r1 : Nat) (x2 : Int32) (x3 : Int32)  (v6 : Int32) (σ : mm_M) : mm_R := mm_gd (mm_ix v6 4 = true) (mm_lt (mm_u σ 7 14 0 v6.toNatClampNeg x2) fun s_15 => (some (0, s_15)))
set_option maxHeartbeats 4000000 in
set_option maxRecDepth 100000 in
theorem cx_X2_insert_J75 {p : Program} {l : Launch} {e : Env} {s : State} {m : MethodId} {args : Array Value} {below : List Frame} {meth : Method} {c : Code} {D : va_G} {ad : mm_A} {cA : Nat → ClassId} (r1 : Nat) (x2 : Int32) (x3 : Int32) (hr1 : r1 < 6) (rv : Int32) (σ1 : mm_M)  (X : mm_X p s m args meth c cX2_insert 7 none RX2 D ad cA) : ∀ (v6 : Int32) (σ : mm_M) (H : Heap) (locs : List Loc) (ls : Array Slot), fx_X2_insert_J75 r1 x2 x3 v6 σ = some (rv, σ1) → va_P D vwCl (mm_wd ad cA σ) H → va_S (mm_AS ad) s.heap H locs → lv_has ls 7 [(0, .ref (ad 7 13 0)), (2, .int x2), (6, .int v6)] → W p l e (mm_rm 0 0) s m args below meth c H locs 0 0 (MQ below (mm_Q D ad cA none σ1) args s 0 0 (mm_AS ad)) (F0 m 75 ls []) := by
  have hx := X.1
  have hb := X.2.1
  have hI := X.2.2.2.2.2.2.2.2.2
  intro v6 σ H locs ls hf hP hS hl
  rw [fx_X2_insert_J75] at hf
  refine lv_aload_n hx hb dX2_insert_75 rfl (lv_at hl 0 rfl) ?_
  refine gf_13_0 X hP  wd_178 dX2_insert_76 ?_
  refine lv_iload hx hb dX2_insert_79 (lv_at hl 2 rfl) ?_
  refine lv_iload_n hx hb dX2_insert_81 rfl (lv_at hl 1 rfl) ?_
  obtain ⟨h_14, hf⟩ := mm_gd_ok hf
  refine as_14 X hP hS  h_14  dX2_insert_82 (fun H locs hP hS => ?_)
  obtain ⟨s_15, e_15, hf⟩ := mm_lt_ok hf
  rw [← e_15] at hP
  obtain ⟨rfl, rfl⟩ := mm_ret hf
  exact mm_vret X hP hS dX2_insert_83
def fx_X2_insert_L23 (r1 : Nat) (x2 : Int32) (x3 : Int32)  : Nat → Int32 → Int32 → Int32 → mm_M → mm_R
  | 0, _, _, _, _ => none
  | fu + 1, v4, v5, v6, σ => if v6 ≤ (0 : Int32) then fx_X2_insert_J75 r1 x2 x3 v6 σ else mm_gd (mm_ix (v6 - (1 : Int32)) 4 = true) (mm_gd (mm_ix (σ 7 14 0 (v6 - (1 : Int32)).toNatClampNeg) 4 = true) (mm_gd (mm_ix v4 5 = true) (if v5 ≤ (σ r1 8 ((σ 7 14 0 (v6 - (1 : Int32)).toNatClampNeg).toNatClampNeg) v4.toNatClampNeg) then fx_X2_insert_J75 r1 x2 x3 v6 σ else mm_gd (mm_ix (v6 - (1 : Int32)) 4 = true) (mm_gd (mm_ix v6 4 = true) (mm_lt (mm_u σ 7 14 0 v6.toNatClampNeg (σ 7 14 0 (v6 - (1 : Int32)).toNatClampNeg)) fun s_12 => (mm_li (v6 + (-1 : Int32)) fun y_13 => (fx_X2_insert_L23 r1 x2 x3 fu v4 v5 y_13 s_12)))))))
set_option maxHeartbeats 4000000 in
set_option maxRecDepth 100000 in
theorem cx_X2_insert_L23 {p : Program} {l : Launch} {e : Env} {s : State} {m : MethodId} {args : Array Value} {below : List Frame} {meth : Method} {c : Code} {D : va_G} {ad : mm_A} {cA : Nat → ClassId} (r1 : Nat) (x2 : Int32) (x3 : Int32) (hr1 : r1 < 6) (rv : Int32) (σ1 : mm_M)  (X : mm_X p s m args meth c cX2_insert 7 none RX2 D ad cA) : ∀ (fu : Nat), ∀ (v4 : Int32) (v5 : Int32) (v6 : Int32) (σ : mm_M) (H : Heap) (locs : List Loc) (ls : Array Slot), fx_X2_insert_L23 r1 x2 x3 fu v4 v5 v6 σ = some (rv, σ1) → va_P D vwCl (mm_wd ad cA σ) H → va_S (mm_AS ad) s.heap H locs → lv_has ls 7 [(0, .ref (ad 7 13 0)), (1, .ref (ad r1 0 0)), (2, .int x2), (4, .int v4), (5, .int v5), (6, .int v6)] → W p l e (mm_rm 0 0) s m args below meth c H locs 0 0 (MQ below (mm_Q D ad cA none σ1) args s 0 0 (mm_AS ad)) (F0 m 23 ls []) := by
  have hx := X.1
  have hb := X.2.1
  have hI := X.2.2.2.2.2.2.2.2.2
  intro fu
  induction fu with
  | zero =>
    intro v4 v5 v6 σ H locs ls hf
    exact mm_no hf
  | succ fu ih =>
    intro v4 v5 v6 σ H locs ls hf hP hS hl
    rw [fx_X2_insert_L23] at hf
    refine lv_iload hx hb dX2_insert_23 (lv_at hl 5 rfl) ?_
    refine lv_if_le (tgt := 75) hx hb dX2_insert_25 (by decide) (fun c_5 => ?_) (fun c_5 => ?_)
    · replace hf := mm_it c_5 hf
      exact cx_X2_insert_J75 r1 x2 x3 hr1 rv σ1 X v6 σ H locs ls hf hP hS (lv_sub hl [0, 2, 5] rfl)
    · replace hf := mm_if c_5 hf
      refine lv_aload_n hx hb dX2_insert_28 rfl (lv_at hl 1 rfl) ?_
      refine gf_0_1 X hP hr1 wd_111 dX2_insert_29 ?_
      refine lv_aload_n hx hb dX2_insert_32 rfl (lv_at hl 0 rfl) ?_
      refine gf_13_0 X hP  wd_178 dX2_insert_33 ?_
      refine lv_iload hx hb dX2_insert_36 (lv_at hl 5 rfl) ?_
      refine lv_iconst (v := (1 : Int32)) hx hb dX2_insert_38 (by decide) ?_
      refine lv_isub hx hb dX2_insert_39 ?_
      obtain ⟨h_6, hf⟩ := mm_gd_ok hf
      refine al_14 X hP  h_6 dX2_insert_40 ?_
      obtain ⟨h_7, hf⟩ := mm_gd_ok hf
      refine mm_cart X hP hr1 h_7 dX2_insert_41 ?_
      refine gf_6_1 X hP hr1 (mm_ix_lt h_7) wd_66 dX2_insert_42 ?_
      refine lv_iload hx hb dX2_insert_45 (lv_at hl 3 rfl) ?_
      obtain ⟨h_8, hf⟩ := mm_gd_ok hf
      refine al_8 X hP hr1 (mm_ix_lt h_7) h_8 dX2_insert_47 ?_
      refine lv_iload hx hb dX2_insert_48 (lv_at hl 4 rfl) ?_
      refine lv_icmp_ge (tgt := 75) hx hb dX2_insert_50 (by decide) (fun c_9 => ?_) (fun c_9 => ?_)
      · replace hf := mm_it c_9 hf
        exact cx_X2_insert_J75 r1 x2 x3 hr1 rv σ1 X v6 σ H locs ls hf hP hS (lv_sub hl [0, 2, 5] rfl)
      · replace hf := mm_if c_9 hf
        refine lv_aload_n hx hb dX2_insert_53 rfl (lv_at hl 0 rfl) ?_
        refine gf_13_0 X hP  wd_178 dX2_insert_54 ?_
        refine lv_iload hx hb dX2_insert_57 (lv_at hl 5 rfl) ?_
        refine lv_aload_n hx hb dX2_insert_59 rfl (lv_at hl 0 rfl) ?_
        refine gf_13_0 X hP  wd_178 dX2_insert_60 ?_
        refine lv_iload hx hb dX2_insert_63 (lv_at hl 5 rfl) ?_
        refine lv_iconst (v := (1 : Int32)) hx hb dX2_insert_65 (by decide) ?_
        refine lv_isub hx hb dX2_insert_66 ?_
        obtain ⟨h_10, hf⟩ := mm_gd_ok hf
        refine al_14 X hP  h_10 dX2_insert_67 ?_
        obtain ⟨h_11, hf⟩ := mm_gd_ok hf
        refine as_14 X hP hS  h_11  dX2_insert_68 (fun H locs hP hS => ?_)
        obtain ⟨s_12, e_12, hf⟩ := mm_lt_ok hf
        rw [← e_12] at hP
        obtain ⟨y_13, e_13, hf⟩ := mm_li_ok hf
        refine lv_iinc (v := y_13) (lv' := [(6, .int y_13), (0, .ref (ad 7 13 0)), (1, .ref (ad r1 0 0)), (2, .int x2), (4, .int v4), (5, .int v5)]) hx hb dX2_insert_69 hl (k := 5) rfl (by rw [e_13]; rfl) (by decide) rfl (fun ls hl => ?_)
        refine lv_goto (tgt := 23) hx hb dX2_insert_72 (by decide) ?_
        exact ih v4 v5 y_13 s_12 H locs ls  hf hP hS (lv_sub hl [1, 2, 3, 4, 5, 0] rfl)
def fx_X2_insert (r1 : Nat) (x2 : Int32) (x3 : Int32) (σ : mm_M) : mm_R := mm_li (σ r1 0 0 3) fun y_1 => (mm_gd (mm_ix x2 4 = true) (mm_gd (mm_ix y_1 5 = true) (mm_li (σ r1 8 x2.toNatClampNeg y_1.toNatClampNeg) fun y_4 => (fx_X2_insert_L23 r1 x2 x3 mm_FU y_1 y_4 x3 σ))))
set_option maxHeartbeats 4000000 in
set_option maxRecDepth 100000 in
theorem cx_X2_insert (l : Launch) (D : va_G) (ad : mm_A) (cA : Nat → ClassId) (hI : mm_Inj ad) (r1 : Nat) (x2 : Int32) (x3 : Int32) (hr1 : r1 < 6) (σ : mm_M) (rv : Int32) (σ1 : mm_M) (hf : fx_X2_insert r1 x2 x3 σ = some (rv, σ1)) : Met l yX2_insert (Cond.code yX2_insert cX2_insert 7 none :: tb) (mm_rm 0 0) (mm_pre D ad cA [.ref (ad 7 13 0), .ref (ad r1 0 0), .int x2, .int x3] σ) (mm_Q D ad cA none σ1) 0 0 (mm_AS ad) := by
  refine mm_start (by decide +kernel) hI (Nat.le_of_ble_eq_true rfl) ?_
  intro p e s m args below meth c X hP ls hl
  have hl : lv_has ls 7 [(0, .ref (ad 7 13 0)), (1, .ref (ad r1 0 0)), (2, .int x2), (3, .int x3)] := hl
  have hx := X.1
  have hb := X.2.1
  have hS : va_S (mm_AS ad) s.heap s.heap [] := va_S.rf
  have hgen : ∀ (H : Heap) (locs : List Loc), va_P D vwCl (mm_wd ad cA σ) H → va_S (mm_AS ad) s.heap H locs → W p l e (mm_rm 0 0) s m args below meth c H locs 0 0 (MQ below (mm_Q D ad cA none σ1) args s 0 0 (mm_AS ad)) (F0 m 0 ls []) := by
    intro H locs hP hS
    rw [fx_X2_insert] at hf
    refine lv_aload_n hx hb dX2_insert_0 rfl (lv_at hl 1 rfl) ?_
    refine gf_0_3 X hP hr1 wd_119 dX2_insert_1 ?_
    obtain ⟨y_1, e_1, hf⟩ := mm_li_ok hf
    rw [← e_1]
    refine lv_istore (lv' := [(4, .int y_1), (0, .ref (ad 7 13 0)), (1, .ref (ad r1 0 0)), (2, .int x2), (3, .int x3)]) hx hb dX2_insert_4 hl (by decide) rfl (fun ls hl => ?_)
    refine lv_aload_n hx hb dX2_insert_6 rfl (lv_at hl 2 rfl) ?_
    refine gf_0_1 X hP hr1 wd_111 dX2_insert_7 ?_
    refine lv_iload_n hx hb dX2_insert_10 rfl (lv_at hl 3 rfl) ?_
    obtain ⟨h_2, hf⟩ := mm_gd_ok hf
    refine mm_cart X hP hr1 h_2 dX2_insert_11 ?_
    refine gf_6_1 X hP hr1 (mm_ix_lt h_2) wd_66 dX2_insert_12 ?_
    refine lv_iload hx hb dX2_insert_15 (lv_at hl 0 rfl) ?_
    obtain ⟨h_3, hf⟩ := mm_gd_ok hf
    refine al_8 X hP hr1 (mm_ix_lt h_2) h_3 dX2_insert_17 ?_
    obtain ⟨y_4, e_4, hf⟩ := mm_li_ok hf
    rw [← e_4]
    refine lv_istore (lv' := [(5, .int y_4), (4, .int y_1), (0, .ref (ad 7 13 0)), (1, .ref (ad r1 0 0)), (2, .int x2), (3, .int x3)]) hx hb dX2_insert_18 hl (by decide) rfl (fun ls hl => ?_)
    refine lv_iload_n hx hb dX2_insert_20 rfl (lv_at hl 5 rfl) ?_
    refine lv_istore (lv' := [(6, .int x3), (5, .int y_4), (4, .int y_1), (0, .ref (ad 7 13 0)), (1, .ref (ad r1 0 0)), (2, .int x2), (3, .int x3)]) hx hb dX2_insert_21 hl (by decide) rfl (fun ls hl => ?_)
    exact cx_X2_insert_L23 r1 x2 x3 hr1 rv σ1 X mm_FU y_1 y_4 x3 σ H locs ls hf hP hS (lv_sub hl [3, 4, 5, 2, 1, 0] rfl)
  exact hgen _ _ hP hS
def fx_X2_arrange_L4 (r1 : Nat)  : Nat → Int32 → Int32 → mm_M → mm_R
  | 0, _, _, _ => none
  | fu + 1, v2, v3, σ => if (σ r1 0 0 2) ≤ v3 then some (v2, σ) else mm_gd (mm_ix v3 4 = true) (mm_bd (fx_X3_isOut r1 v3.toNatClampNeg σ) fun r_3 s_3 => (if r_3 = (0 : Int32) then mm_bd (fx_X3_hasCard r1 v3.toNatClampNeg (s_3 r1 0 0 3) s_3) fun r_6 s_6 => (if r_6 = (0 : Int32) then mm_li (v3 + (1 : Int32)) fun y_8 => (fx_X2_arrange_L4 r1 fu v2 y_8 s_6) else mm_bd (fx_X2_insert r1 v3 v2 s_6) fun _ s_9 => (mm_li (v2 + (1 : Int32)) fun y_10 => (mm_li (v3 + (1 : Int32)) fun y_11 => (fx_X2_arrange_L4 r1 fu y_10 y_11 s_9)))) else mm_li (v3 + (1 : Int32)) fun y_5 => (fx_X2_arrange_L4 r1 fu v2 y_5 s_3)))
set_option maxHeartbeats 4000000 in
set_option maxRecDepth 100000 in
theorem cx_X2_arrange_L4 {p : Program} {l : Launch} {e : Env} {s : State} {m : MethodId} {args : Array Value} {below : List Frame} {meth : Method} {c : Code} {D : va_G} {ad : mm_A} {cA : Nat → ClassId} (r1 : Nat) (hr1 : r1 < 6) (rv : Int32) (σ1 : mm_M)  (X : mm_X p s m args meth c cX2_arrange 5 (some .int) RX2 D ad cA) : ∀ (fu : Nat), ∀ (v2 : Int32) (v3 : Int32) (σ : mm_M) (H : Heap) (locs : List Loc) (ls : Array Slot), fx_X2_arrange_L4 r1 fu v2 v3 σ = some (rv, σ1) → va_P D vwCl (mm_wd ad cA σ) H → va_S (mm_AS ad) s.heap H locs → lv_has ls 5 [(0, .ref (ad 7 13 0)), (1, .ref (ad r1 0 0)), (2, .int v2), (3, .int v3)] → W p l e (mm_rm 1 26) s m args below meth c H locs 0 0 (MQ below (mm_Q D ad cA (some (.int rv)) σ1) args s 0 0 (mm_AS ad)) (F0 m 4 ls []) := by
  have hx := X.1
  have hb := X.2.1
  have hI := X.2.2.2.2.2.2.2.2.2
  intro fu
  induction fu with
  | zero =>
    intro v2 v3 σ H locs ls hf
    exact mm_no hf
  | succ fu ih =>
    intro v2 v3 σ H locs ls hf hP hS hl
    rw [fx_X2_arrange_L4] at hf
    refine lv_iload_n hx hb dX2_arrange_4 rfl (lv_at hl 3 rfl) ?_
    refine lv_aload_n hx hb dX2_arrange_5 rfl (lv_at hl 1 rfl) ?_
    refine gf_0_2 X hP hr1 wd_115 dX2_arrange_6 ?_
    refine lv_icmp_ge (tgt := 56) hx hb dX2_arrange_9 (by decide) (fun c_1 => ?_) (fun c_1 => ?_)
    · replace hf := mm_it c_1 hf
      refine lv_iload_n hx hb dX2_arrange_56 rfl (lv_at hl 2 rfl) ?_
      obtain ⟨rfl, rfl⟩ := mm_ret hf
      exact mm_iret X hP hS dX2_arrange_57
    · replace hf := mm_if c_1 hf
      refine lv_aload_n hx hb dX2_arrange_12 rfl (lv_at hl 1 rfl) ?_
      refine gf_0_1 X hP hr1 wd_111 dX2_arrange_13 ?_
      refine lv_iload_n hx hb dX2_arrange_16 rfl (lv_at hl 3 rfl) ?_
      obtain ⟨h_2, hf⟩ := mm_gd_ok hf
      refine mm_cart X hP hr1 h_2 dX2_arrange_17 ?_
      refine lv_astore (lv' := [(4, .ref (ad r1 6 v3.toNatClampNeg)), (0, .ref (ad 7 13 0)), (1, .ref (ad r1 0 0)), (2, .int v2), (3, .int v3)]) hx hb dX2_arrange_18 hl (by decide) rfl (fun ls hl => ?_)
      refine lv_aload hx hb dX2_arrange_20 (lv_at hl 0 rfl) ?_
      obtain ⟨r_3, s_3, e_3, hf⟩ := mm_bd_ok hf
      refine mm_callV X hP hS hl.1 [] [] (cx_X3_isOut l D ad cA hI r1 v3.toNatClampNeg hr1 (mm_ix_lt h_2) σ r_3 s_3 e_3) (mm_kc r1 hr1 v3.toNatClampNeg (mm_ix_lt h_2) 0 (by decide)) rfl rfl wd_588 wd_314 wd_315 wd_4 wd_316 hd_X3_isOut ⟨Nat.le_of_ble_eq_true rfl, Nat.le_of_ble_eq_true rfl⟩ rfl (Nat.le_of_ble_eq_true rfl) dX2_arrange_22 (fun H locs hP hS => ?_)
      refine lv_if_ne (tgt := 50) hx hb dX2_arrange_25 (by decide) (fun c_4 => ?_) (fun c_4 => ?_)
      · replace hf := mm_if c_4 hf
        obtain ⟨y_5, e_5, hf⟩ := mm_li_ok hf
        refine lv_iinc (v := y_5) (lv' := [(3, .int y_5), (4, .ref (ad r1 6 v3.toNatClampNeg)), (0, .ref (ad 7 13 0)), (1, .ref (ad r1 0 0)), (2, .int v2)]) hx hb dX2_arrange_50 hl (k := 4) rfl (by rw [e_5]; rfl) (by decide) rfl (fun ls hl => ?_)
        refine lv_goto (tgt := 4) hx hb dX2_arrange_53 (by decide) ?_
        exact ih v2 y_5 s_3 H locs ls  hf hP hS (lv_sub hl [2, 3, 4, 0] rfl)
      · replace hf := mm_it c_4 hf
        refine lv_aload hx hb dX2_arrange_28 (lv_at hl 0 rfl) ?_
        refine lv_aload_n hx hb dX2_arrange_30 rfl (lv_at hl 2 rfl) ?_
        refine gf_0_3 X hP hr1 wd_119 dX2_arrange_31 ?_
        obtain ⟨r_6, s_6, e_6, hf⟩ := mm_bd_ok hf
        refine mm_callV X hP hS hl.1 [.int (s_3 r1 0 0 3)] [] (cx_X3_hasCard l D ad cA hI r1 v3.toNatClampNeg (s_3 r1 0 0 3) hr1 (mm_ix_lt h_2) s_3 r_6 s_6 e_6) (mm_kc r1 hr1 v3.toNatClampNeg (mm_ix_lt h_2) 0 (by decide)) rfl rfl wd_589 wd_427 wd_428 wd_4 wd_429 hd_X3_hasCard ⟨Nat.le_of_ble_eq_true rfl, Nat.le_of_ble_eq_true rfl⟩ rfl (Nat.le_of_ble_eq_true rfl) dX2_arrange_34 (fun H locs hP hS => ?_)
        refine lv_if_eq (tgt := 50) hx hb dX2_arrange_37 (by decide) (fun c_7 => ?_) (fun c_7 => ?_)
        · replace hf := mm_it c_7 hf
          obtain ⟨y_8, e_8, hf⟩ := mm_li_ok hf
          refine lv_iinc (v := y_8) (lv' := [(3, .int y_8), (4, .ref (ad r1 6 v3.toNatClampNeg)), (0, .ref (ad 7 13 0)), (1, .ref (ad r1 0 0)), (2, .int v2)]) hx hb dX2_arrange_50 hl (k := 4) rfl (by rw [e_8]; rfl) (by decide) rfl (fun ls hl => ?_)
          refine lv_goto (tgt := 4) hx hb dX2_arrange_53 (by decide) ?_
          exact ih v2 y_8 s_6 H locs ls  hf hP hS (lv_sub hl [2, 3, 4, 0] rfl)
        · replace hf := mm_if c_7 hf
          refine lv_aload_n hx hb dX2_arrange_40 rfl (lv_at hl 1 rfl) ?_
          refine lv_aload_n hx hb dX2_arrange_41 rfl (lv_at hl 2 rfl) ?_
          refine lv_iload_n hx hb dX2_arrange_42 rfl (lv_at hl 4 rfl) ?_
          refine lv_iload_n hx hb dX2_arrange_43 rfl (lv_at hl 3 rfl) ?_
          obtain ⟨r_9, s_9, e_9, hf⟩ := mm_bd_ok hf
          refine mm_callV X hP hS hl.1 [.ref (ad r1 0 0), .int v3, .int v2] [] (cx_X2_insert l D ad cA hI r1 v3 v2 hr1 s_6 r_9 s_9 e_9) kp_13 rfl rfl wd_590 wd_592 wp_4 wd_7 wd_593 hd_X2_insert ⟨Nat.le_of_ble_eq_true rfl, Nat.le_of_ble_eq_true rfl⟩ rfl (Nat.le_of_ble_eq_true rfl) dX2_arrange_44 (fun H locs hP hS => ?_)
          obtain ⟨y_10, e_10, hf⟩ := mm_li_ok hf
          refine lv_iinc (v := y_10) (lv' := [(2, .int y_10), (4, .ref (ad r1 6 v3.toNatClampNeg)), (0, .ref (ad 7 13 0)), (1, .ref (ad r1 0 0)), (3, .int v3)]) hx hb dX2_arrange_47 hl (k := 3) rfl (by rw [e_10]; rfl) (by decide) rfl (fun ls hl => ?_)
          obtain ⟨y_11, e_11, hf⟩ := mm_li_ok hf
          refine lv_iinc (v := y_11) (lv' := [(3, .int y_11), (2, .int y_10), (4, .ref (ad r1 6 v3.toNatClampNeg)), (0, .ref (ad 7 13 0)), (1, .ref (ad r1 0 0))]) hx hb dX2_arrange_50 hl (k := 4) rfl (by rw [e_11]; rfl) (by decide) rfl (fun ls hl => ?_)
          refine lv_goto (tgt := 4) hx hb dX2_arrange_53 (by decide) ?_
          exact ih y_10 y_11 s_9 H locs ls  hf hP hS (lv_sub hl [3, 4, 1, 0] rfl)
def fx_X2_arrange (r1 : Nat) (σ : mm_M) : mm_R := fx_X2_arrange_L4 r1 mm_FU (0 : Int32) (0 : Int32) σ
set_option maxHeartbeats 4000000 in
set_option maxRecDepth 100000 in
theorem cx_X2_arrange (l : Launch) (D : va_G) (ad : mm_A) (cA : Nat → ClassId) (hI : mm_Inj ad) (r1 : Nat) (hr1 : r1 < 6) (σ : mm_M) (rv : Int32) (σ1 : mm_M) (hf : fx_X2_arrange r1 σ = some (rv, σ1)) : Met l yX2_arrange (Cond.code yX2_arrange cX2_arrange 5 (some .int) :: tb) (mm_rm 1 26) (mm_pre D ad cA [.ref (ad 7 13 0), .ref (ad r1 0 0)] σ) (mm_Q D ad cA (some (.int rv)) σ1) 0 0 (mm_AS ad) := by
  refine mm_start (by decide +kernel) hI (Nat.le_of_ble_eq_true rfl) ?_
  intro p e s m args below meth c X hP ls hl
  have hl : lv_has ls 5 [(0, .ref (ad 7 13 0)), (1, .ref (ad r1 0 0))] := hl
  have hx := X.1
  have hb := X.2.1
  have hS : va_S (mm_AS ad) s.heap s.heap [] := va_S.rf
  have hgen : ∀ (H : Heap) (locs : List Loc), va_P D vwCl (mm_wd ad cA σ) H → va_S (mm_AS ad) s.heap H locs → W p l e (mm_rm 1 26) s m args below meth c H locs 0 0 (MQ below (mm_Q D ad cA (some (.int rv)) σ1) args s 0 0 (mm_AS ad)) (F0 m 0 ls []) := by
    intro H locs hP hS
    rw [fx_X2_arrange] at hf
    refine lv_iconst (v := (0 : Int32)) hx hb dX2_arrange_0 (by decide) ?_
    refine lv_istore_n (lv' := [(2, .int (0 : Int32)), (0, .ref (ad 7 13 0)), (1, .ref (ad r1 0 0))]) hx hb dX2_arrange_1 rfl hl (by decide) rfl (fun ls hl => ?_)
    refine lv_iconst (v := (0 : Int32)) hx hb dX2_arrange_2 (by decide) ?_
    refine lv_istore_n (lv' := [(3, .int (0 : Int32)), (2, .int (0 : Int32)), (0, .ref (ad 7 13 0)), (1, .ref (ad r1 0 0))]) hx hb dX2_arrange_3 rfl hl (by decide) rfl (fun ls hl => ?_)
    exact cx_X2_arrange_L4 r1 hr1 rv σ1 X mm_FU (0 : Int32) (0 : Int32) σ H locs ls hf hP hS (lv_sub hl [2, 3, 1, 0] rfl)
  exact hgen _ _ hP hS
def fx_X1_kindOn (r0 : Nat) (x1 : Int32) (σ : mm_M) : mm_R := if x1 < (0 : Int32) then some ((-1 : Int32), σ) else if (64 : Int32) ≤ x1 then some ((-1 : Int32), σ) else mm_gd (mm_ix x1 64 = true) (some (σ r0 2 0 x1.toNatClampNeg, σ))
set_option maxHeartbeats 4000000 in
set_option maxRecDepth 100000 in
theorem cx_X1_kindOn (l : Launch) (D : va_G) (ad : mm_A) (cA : Nat → ClassId) (hI : mm_Inj ad) (r0 : Nat) (x1 : Int32) (hr0 : r0 < 6) (σ : mm_M) (rv : Int32) (σ1 : mm_M) (hf : fx_X1_kindOn r0 x1 σ = some (rv, σ1)) : Met l yX1_kindOn (Cond.code yX1_kindOn cX1_kindOn 2 (some .int) :: tb) (mm_rm 0 0) (mm_pre D ad cA [.ref (ad r0 1 0), .int x1] σ) (mm_Q D ad cA (some (.int rv)) σ1) 0 0 (mm_AS ad) := by
  refine mm_start (by decide +kernel) hI (Nat.le_of_ble_eq_true rfl) ?_
  intro p e s m args below meth c X hP ls hl
  have hl : lv_has ls 2 [(0, .ref (ad r0 1 0)), (1, .int x1)] := hl
  have hx := X.1
  have hb := X.2.1
  have hS : va_S (mm_AS ad) s.heap s.heap [] := va_S.rf
  have hgen : ∀ (H : Heap) (locs : List Loc), va_P D vwCl (mm_wd ad cA σ) H → va_S (mm_AS ad) s.heap H locs → W p l e (mm_rm 0 0) s m args below meth c H locs 0 0 (MQ below (mm_Q D ad cA (some (.int rv)) σ1) args s 0 0 (mm_AS ad)) (F0 m 0 ls []) := by
    intro H locs hP hS
    rw [fx_X1_kindOn] at hf
    refine lv_iload_n hx hb dX1_kindOn_0 rfl (lv_at hl 1 rfl) ?_
    refine lv_if_lt (tgt := 19) hx hb dX1_kindOn_1 (by decide) (fun c_1 => ?_) (fun c_1 => ?_)
    · replace hf := mm_it c_1 hf
      refine lv_iconst (v := (-1 : Int32)) hx hb dX1_kindOn_19 (by decide) ?_
      obtain ⟨rfl, rfl⟩ := mm_ret hf
      exact mm_iret X hP hS dX1_kindOn_20
    · replace hf := mm_if c_1 hf
      refine lv_iload_n hx hb dX1_kindOn_4 rfl (lv_at hl 1 rfl) ?_
      refine lv_bipush (v := (64 : Int32)) hx hb dX1_kindOn_5 (by decide) ?_
      refine lv_icmp_ge (tgt := 19) hx hb dX1_kindOn_7 (by decide) (fun c_2 => ?_) (fun c_2 => ?_)
      · replace hf := mm_it c_2 hf
        refine lv_iconst (v := (-1 : Int32)) hx hb dX1_kindOn_19 (by decide) ?_
        obtain ⟨rfl, rfl⟩ := mm_ret hf
        exact mm_iret X hP hS dX1_kindOn_20
      · replace hf := mm_if c_2 hf
        refine lv_aload_n hx hb dX1_kindOn_10 rfl (lv_at hl 0 rfl) ?_
        refine gf_1_0 X hP hr0 wd_36 dX1_kindOn_11 ?_
        refine lv_iload_n hx hb dX1_kindOn_14 rfl (lv_at hl 1 rfl) ?_
        obtain ⟨h_3, hf⟩ := mm_gd_ok hf
        refine al_2 X hP hr0 h_3 dX1_kindOn_15 ?_
        refine lv_goto (tgt := 20) hx hb dX1_kindOn_16 (by decide) ?_
        obtain ⟨rfl, rfl⟩ := mm_ret hf
        exact mm_iret X hP hS dX1_kindOn_20
  exact hgen _ _ hP hS
def fx_X0_askAll_J116 (r1 : Nat) (k2 : Int32 → mm_M → mm_R) (v2 : Int32) (w1 : Int32) (w2 : Int32) (σ : mm_M) : mm_R := mm_gd (mm_ix w1 4 = true) (mm_gd (w2 = 0 ∨ w2 = 1) (mm_lt (mm_u σ 7 19 0 w1.toNatClampNeg w2) fun s_22 => (mm_li (v2 + (1 : Int32)) fun y_23 => (k2 y_23 s_22))))
set_option maxHeartbeats 4000000 in
set_option maxRecDepth 100000 in
theorem cx_X0_askAll_J116 {p : Program} {l : Launch} {e : Env} {s : State} {m : MethodId} {args : Array Value} {below : List Frame} {meth : Method} {c : Code} {D : va_G} {ad : mm_A} {cA : Nat → ClassId} (r1 : Nat) (hr1 : r1 < 6) (rv : Int32) (σ1 : mm_M) (k2 : Int32 → mm_M → mm_R) (hk2 : ∀ (v2 : Int32) (σ : mm_M) (H : Heap) (locs : List Loc) (ls : Array Slot), k2 v2 σ = some (rv, σ1) → va_P D vwCl (mm_wd ad cA σ) H → va_S (mm_AS ad) s.heap H locs → lv_has ls 6 [(0, .ref (ad 7 16 0)), (1, .ref (ad r1 0 0)), (2, .int v2)] → W p l e (mm_rm 1 22) s m args below meth c H locs 0 0 (MQ below (mm_Q D ad cA none σ1) args s 0 0 (mm_AS ad)) (F0 m 2 ls [])) (X : mm_X p s m args meth c cX0_askAll 6 none RX0 D ad cA) : ∀ (v2 : Int32) (w1 : Int32) (w2 : Int32) (σ : mm_M) (H : Heap) (locs : List Loc) (ls : Array Slot), fx_X0_askAll_J116 r1 k2 v2 w1 w2 σ = some (rv, σ1) → va_P D vwCl (mm_wd ad cA σ) H → va_S (mm_AS ad) s.heap H locs → lv_has ls 6 [(0, .ref (ad 7 16 0)), (1, .ref (ad r1 0 0)), (2, .int v2)] → W p l e (mm_rm 1 22) s m args below meth c H locs 0 0 (MQ below (mm_Q D ad cA none σ1) args s 0 0 (mm_AS ad)) (F0 m 116 ls [.int w2, .int w1, .ref (ad 7 19 0)]) := by
  have hx := X.1
  have hb := X.2.1
  have hI := X.2.2.2.2.2.2.2.2.2
  intro v2 w1 w2 σ H locs ls hf hP hS hl
  rw [fx_X0_askAll_J116] at hf
  obtain ⟨h_20, hf⟩ := mm_gd_ok hf
  obtain ⟨h_21, hf⟩ := mm_gd_ok hf
  refine as_19 X hP hS  h_20 h_21 dX0_askAll_116 (fun H locs hP hS => ?_)
  obtain ⟨s_22, e_22, hf⟩ := mm_lt_ok hf
  rw [← e_22] at hP
  obtain ⟨y_23, e_23, hf⟩ := mm_li_ok hf
  refine lv_iinc (v := y_23) (lv' := [(2, .int y_23), (0, .ref (ad 7 16 0)), (1, .ref (ad r1 0 0))]) hx hb dX0_askAll_117 hl (k := 2) rfl (by rw [e_23]; rfl) (by decide) rfl (fun ls hl => ?_)
  refine lv_goto (tgt := 2) hx hb dX0_askAll_120 (by decide) ?_
  exact hk2 y_23 s_22 H locs ls  hf hP hS (lv_sub hl [1, 2, 0] rfl)
def fx_X0_askAll_J115 (r1 : Nat) (k2 : Int32 → mm_M → mm_R) (v2 : Int32) (w1 : Int32) (σ : mm_M) : mm_R := fx_X0_askAll_J116 r1 k2 v2 w1 (0 : Int32) σ
set_option maxHeartbeats 4000000 in
set_option maxRecDepth 100000 in
theorem cx_X0_askAll_J115 {p : Program} {l : Launch} {e : Env} {s : State} {m : MethodId} {args : Array Value} {below : List Frame} {meth : Method} {c : Code} {D : va_G} {ad : mm_A} {cA : Nat → ClassId} (r1 : Nat) (hr1 : r1 < 6) (rv : Int32) (σ1 : mm_M) (k2 : Int32 → mm_M → mm_R) (hk2 : ∀ (v2 : Int32) (σ : mm_M) (H : Heap) (locs : List Loc) (ls : Array Slot), k2 v2 σ = some (rv, σ1) → va_P D vwCl (mm_wd ad cA σ) H → va_S (mm_AS ad) s.heap H locs → lv_has ls 6 [(0, .ref (ad 7 16 0)), (1, .ref (ad r1 0 0)), (2, .int v2)] → W p l e (mm_rm 1 22) s m args below meth c H locs 0 0 (MQ below (mm_Q D ad cA none σ1) args s 0 0 (mm_AS ad)) (F0 m 2 ls [])) (X : mm_X p s m args meth c cX0_askAll 6 none RX0 D ad cA) : ∀ (v2 : Int32) (w1 : Int32) (σ : mm_M) (H : Heap) (locs : List Loc) (ls : Array Slot), fx_X0_askAll_J115 r1 k2 v2 w1 σ = some (rv, σ1) → va_P D vwCl (mm_wd ad cA σ) H → va_S (mm_AS ad) s.heap H locs → lv_has ls 6 [(0, .ref (ad 7 16 0)), (1, .ref (ad r1 0 0)), (2, .int v2)] → W p l e (mm_rm 1 22) s m args below meth c H locs 0 0 (MQ below (mm_Q D ad cA none σ1) args s 0 0 (mm_AS ad)) (F0 m 115 ls [.int w1, .ref (ad 7 19 0)]) := by
  have hx := X.1
  have hb := X.2.1
  have hI := X.2.2.2.2.2.2.2.2.2
  intro v2 w1 σ H locs ls hf hP hS hl
  rw [fx_X0_askAll_J115] at hf
  refine lv_iconst (v := (0 : Int32)) hx hb dX0_askAll_115 (by decide) ?_
  exact cx_X0_askAll_J116 r1 hr1 rv σ1 k2 hk2 X v2 w1 (0 : Int32) σ H locs ls hf hP hS (lv_sub hl [0, 1, 2] rfl)
def fx_X0_askAll_J83 (r1 : Nat) (k2 : Int32 → mm_M → mm_R) (v2 : Int32) (v3 : Int32) (v5 : Int32) (w1 : Int32) (w2 : Int32) (σ : mm_M) : mm_R := mm_gd (mm_ix w1 4 = true) (mm_lt (mm_u σ 7 18 0 w1.toNatClampNeg w2) fun s_15 => (mm_gd (mm_ix v2 4 = true) (if (s_15 7 17 0 v2.toNatClampNeg) = (0 : Int32) then fx_X0_askAll_J115 r1 k2 v2 v2 s_15 else mm_bd (fx_X1_hasWall r1 v3 v5 s_15) fun r_18 s_18 => (if r_18 = (0 : Int32) then fx_X0_askAll_J116 r1 k2 v2 v2 (1 : Int32) s_18 else fx_X0_askAll_J115 r1 k2 v2 v2 s_18))))
set_option maxHeartbeats 4000000 in
set_option maxRecDepth 100000 in
theorem cx_X0_askAll_J83 {p : Program} {l : Launch} {e : Env} {s : State} {m : MethodId} {args : Array Value} {below : List Frame} {meth : Method} {c : Code} {D : va_G} {ad : mm_A} {cA : Nat → ClassId} (r1 : Nat) (hr1 : r1 < 6) (rv : Int32) (σ1 : mm_M) (k2 : Int32 → mm_M → mm_R) (hk2 : ∀ (v2 : Int32) (σ : mm_M) (H : Heap) (locs : List Loc) (ls : Array Slot), k2 v2 σ = some (rv, σ1) → va_P D vwCl (mm_wd ad cA σ) H → va_S (mm_AS ad) s.heap H locs → lv_has ls 6 [(0, .ref (ad 7 16 0)), (1, .ref (ad r1 0 0)), (2, .int v2)] → W p l e (mm_rm 1 22) s m args below meth c H locs 0 0 (MQ below (mm_Q D ad cA none σ1) args s 0 0 (mm_AS ad)) (F0 m 2 ls [])) (X : mm_X p s m args meth c cX0_askAll 6 none RX0 D ad cA) : ∀ (v2 : Int32) (v3 : Int32) (v5 : Int32) (w1 : Int32) (w2 : Int32) (σ : mm_M) (H : Heap) (locs : List Loc) (ls : Array Slot), fx_X0_askAll_J83 r1 k2 v2 v3 v5 w1 w2 σ = some (rv, σ1) → va_P D vwCl (mm_wd ad cA σ) H → va_S (mm_AS ad) s.heap H locs → lv_has ls 6 [(0, .ref (ad 7 16 0)), (1, .ref (ad r1 0 0)), (2, .int v2), (3, .int v3), (5, .int v5)] → W p l e (mm_rm 1 22) s m args below meth c H locs 0 0 (MQ below (mm_Q D ad cA none σ1) args s 0 0 (mm_AS ad)) (F0 m 83 ls [.int w2, .int w1, .ref (ad 7 18 0)]) := by
  have hx := X.1
  have hb := X.2.1
  have hI := X.2.2.2.2.2.2.2.2.2
  intro v2 v3 v5 w1 w2 σ H locs ls hf hP hS hl
  rw [fx_X0_askAll_J83] at hf
  obtain ⟨h_14, hf⟩ := mm_gd_ok hf
  refine as_18 X hP hS  h_14  dX0_askAll_83 (fun H locs hP hS => ?_)
  obtain ⟨s_15, e_15, hf⟩ := mm_lt_ok hf
  rw [← e_15] at hP
  refine lv_aload_n hx hb dX0_askAll_84 rfl (lv_at hl 0 rfl) ?_
  refine gf_16_2 X hP  wd_194 dX0_askAll_85 ?_
  refine lv_iload_n hx hb dX0_askAll_88 rfl (lv_at hl 2 rfl) ?_
  refine lv_aload_n hx hb dX0_askAll_89 rfl (lv_at hl 0 rfl) ?_
  refine gf_16_0 X hP  wd_192 dX0_askAll_90 ?_
  refine lv_iload_n hx hb dX0_askAll_93 rfl (lv_at hl 2 rfl) ?_
  obtain ⟨h_16, hf⟩ := mm_gd_ok hf
  refine al_17 X hP  h_16 dX0_askAll_94 ?_
  refine lv_if_eq (tgt := 115) hx hb dX0_askAll_95 (by decide) (fun c_17 => ?_) (fun c_17 => ?_)
  · replace hf := mm_it c_17 hf
    exact cx_X0_askAll_J115 r1 hr1 rv σ1 k2 hk2 X v2 v2 s_15 H locs ls hf hP hS (lv_sub hl [0, 1, 2] rfl)
  · replace hf := mm_if c_17 hf
    refine lv_aload_n hx hb dX0_askAll_98 rfl (lv_at hl 1 rfl) ?_
    refine gf_0_0 X hP hr1 wd_107 dX0_askAll_99 ?_
    refine lv_iload_n hx hb dX0_askAll_102 rfl (lv_at hl 3 rfl) ?_
    refine lv_iload hx hb dX0_askAll_103 (lv_at hl 4 rfl) ?_
    obtain ⟨r_18, s_18, e_18, hf⟩ := mm_bd_ok hf
    refine mm_callV X hP hS hl.1 [.int v3, .int v5] [.int v2, .ref (ad 7 19 0)] (cx_X1_hasWall l D ad cA hI r1 v3 v5 hr1 s_15 r_18 s_18 e_18) (mm_kr r1 hr1 1 (by decide)) rfl rfl wd_625 wd_515 wd_516 wd_3 wd_517 hd_X1_hasWall ⟨Nat.le_of_ble_eq_true rfl, Nat.le_of_ble_eq_true rfl⟩ rfl (Nat.le_of_ble_eq_true rfl) dX0_askAll_105 (fun H locs hP hS => ?_)
    refine lv_if_ne (tgt := 115) hx hb dX0_askAll_108 (by decide) (fun c_19 => ?_) (fun c_19 => ?_)
    · replace hf := mm_if c_19 hf
      exact cx_X0_askAll_J115 r1 hr1 rv σ1 k2 hk2 X v2 v2 s_18 H locs ls hf hP hS (lv_sub hl [0, 1, 2] rfl)
    · replace hf := mm_it c_19 hf
      refine lv_iconst (v := (1 : Int32)) hx hb dX0_askAll_111 (by decide) ?_
      refine lv_goto (tgt := 116) hx hb dX0_askAll_112 (by decide) ?_
      exact cx_X0_askAll_J116 r1 hr1 rv σ1 k2 hk2 X v2 v2 (1 : Int32) s_18 H locs ls hf hP hS (lv_sub hl [0, 1, 2] rfl)
def fx_X0_askAll_J58 (r1 : Nat) (k2 : Int32 → mm_M → mm_R) (v2 : Int32) (v3 : Int32) (v5 : Int32) (w1 : Int32) (w2 : Int32) (σ : mm_M) : mm_R := mm_gd (mm_ix w1 4 = true) (mm_gd (w2 = 0 ∨ w2 = 1) (mm_lt (mm_u σ 7 17 0 w1.toNatClampNeg w2) fun s_10 => (mm_gd (mm_ix v2 4 = true) (if (s_10 7 17 0 v2.toNatClampNeg) = (0 : Int32) then fx_X0_askAll_J83 r1 k2 v2 v3 v5 v2 (-1 : Int32) s_10 else mm_bd (fx_X1_neighbour v3 v5 s_10) fun r_13 s_13 => (fx_X0_askAll_J83 r1 k2 v2 v3 v5 v2 r_13 s_13)))))
set_option maxHeartbeats 4000000 in
set_option maxRecDepth 100000 in
theorem cx_X0_askAll_J58 {p : Program} {l : Launch} {e : Env} {s : State} {m : MethodId} {args : Array Value} {below : List Frame} {meth : Method} {c : Code} {D : va_G} {ad : mm_A} {cA : Nat → ClassId} (r1 : Nat) (hr1 : r1 < 6) (rv : Int32) (σ1 : mm_M) (k2 : Int32 → mm_M → mm_R) (hk2 : ∀ (v2 : Int32) (σ : mm_M) (H : Heap) (locs : List Loc) (ls : Array Slot), k2 v2 σ = some (rv, σ1) → va_P D vwCl (mm_wd ad cA σ) H → va_S (mm_AS ad) s.heap H locs → lv_has ls 6 [(0, .ref (ad 7 16 0)), (1, .ref (ad r1 0 0)), (2, .int v2)] → W p l e (mm_rm 1 22) s m args below meth c H locs 0 0 (MQ below (mm_Q D ad cA none σ1) args s 0 0 (mm_AS ad)) (F0 m 2 ls [])) (X : mm_X p s m args meth c cX0_askAll 6 none RX0 D ad cA) : ∀ (v2 : Int32) (v3 : Int32) (v5 : Int32) (w1 : Int32) (w2 : Int32) (σ : mm_M) (H : Heap) (locs : List Loc) (ls : Array Slot), fx_X0_askAll_J58 r1 k2 v2 v3 v5 w1 w2 σ = some (rv, σ1) → va_P D vwCl (mm_wd ad cA σ) H → va_S (mm_AS ad) s.heap H locs → lv_has ls 6 [(0, .ref (ad 7 16 0)), (1, .ref (ad r1 0 0)), (2, .int v2), (3, .int v3), (5, .int v5)] → W p l e (mm_rm 1 22) s m args below meth c H locs 0 0 (MQ below (mm_Q D ad cA none σ1) args s 0 0 (mm_AS ad)) (F0 m 58 ls [.int w2, .int w1, .ref (ad 7 17 0)]) := by
  have hx := X.1
  have hb := X.2.1
  have hI := X.2.2.2.2.2.2.2.2.2
  intro v2 v3 v5 w1 w2 σ H locs ls hf hP hS hl
  rw [fx_X0_askAll_J58] at hf
  obtain ⟨h_8, hf⟩ := mm_gd_ok hf
  obtain ⟨h_9, hf⟩ := mm_gd_ok hf
  refine as_17 X hP hS  h_8 h_9 dX0_askAll_58 (fun H locs hP hS => ?_)
  obtain ⟨s_10, e_10, hf⟩ := mm_lt_ok hf
  rw [← e_10] at hP
  refine lv_aload_n hx hb dX0_askAll_59 rfl (lv_at hl 0 rfl) ?_
  refine gf_16_1 X hP  wd_193 dX0_askAll_60 ?_
  refine lv_iload_n hx hb dX0_askAll_63 rfl (lv_at hl 2 rfl) ?_
  refine lv_aload_n hx hb dX0_askAll_64 rfl (lv_at hl 0 rfl) ?_
  refine gf_16_0 X hP  wd_192 dX0_askAll_65 ?_
  refine lv_iload_n hx hb dX0_askAll_68 rfl (lv_at hl 2 rfl) ?_
  obtain ⟨h_11, hf⟩ := mm_gd_ok hf
  refine al_17 X hP  h_11 dX0_askAll_69 ?_
  refine lv_if_eq (tgt := 82) hx hb dX0_askAll_70 (by decide) (fun c_12 => ?_) (fun c_12 => ?_)
  · replace hf := mm_it c_12 hf
    refine lv_iconst (v := (-1 : Int32)) hx hb dX0_askAll_82 (by decide) ?_
    exact cx_X0_askAll_J83 r1 hr1 rv σ1 k2 hk2 X v2 v3 v5 v2 (-1 : Int32) s_10 H locs ls hf hP hS (lv_sub hl [0, 1, 2, 3, 4] rfl)
  · replace hf := mm_if c_12 hf
    refine lv_iload_n hx hb dX0_askAll_73 rfl (lv_at hl 3 rfl) ?_
    refine lv_iload hx hb dX0_askAll_74 (lv_at hl 4 rfl) ?_
    obtain ⟨r_13, s_13, e_13, hf⟩ := mm_bd_ok hf
    refine mm_callS X hP hS hl.1 [.int v3, .int v5] [.int v2, .ref (ad 7 18 0)] (cx_X1_neighbour l D ad cA hI v3 v5 s_10 r_13 s_13 e_13) wd_624 wd_509 wd_3 wd_510 hd_X1_neighbour ⟨Nat.le_of_ble_eq_true rfl, Nat.le_of_ble_eq_true rfl⟩ rfl (Nat.le_of_ble_eq_true rfl) dX0_askAll_76 (fun H locs hP hS => ?_)
    refine lv_goto (tgt := 83) hx hb dX0_askAll_79 (by decide) ?_
    exact cx_X0_askAll_J83 r1 hr1 rv σ1 k2 hk2 X v2 v3 v5 v2 r_13 s_13 H locs ls hf hP hS (lv_sub hl [0, 1, 2, 3, 4] rfl)
def fx_X0_askAll_J57 (r1 : Nat) (k2 : Int32 → mm_M → mm_R) (v2 : Int32) (v3 : Int32) (v5 : Int32) (w1 : Int32) (σ : mm_M) : mm_R := fx_X0_askAll_J58 r1 k2 v2 v3 v5 w1 (0 : Int32) σ
set_option maxHeartbeats 4000000 in
set_option maxRecDepth 100000 in
theorem cx_X0_askAll_J57 {p : Program} {l : Launch} {e : Env} {s : State} {m : MethodId} {args : Array Value} {below : List Frame} {meth : Method} {c : Code} {D : va_G} {ad : mm_A} {cA : Nat → ClassId} (r1 : Nat) (hr1 : r1 < 6) (rv : Int32) (σ1 : mm_M) (k2 : Int32 → mm_M → mm_R) (hk2 : ∀ (v2 : Int32) (σ : mm_M) (H : Heap) (locs : List Loc) (ls : Array Slot), k2 v2 σ = some (rv, σ1) → va_P D vwCl (mm_wd ad cA σ) H → va_S (mm_AS ad) s.heap H locs → lv_has ls 6 [(0, .ref (ad 7 16 0)), (1, .ref (ad r1 0 0)), (2, .int v2)] → W p l e (mm_rm 1 22) s m args below meth c H locs 0 0 (MQ below (mm_Q D ad cA none σ1) args s 0 0 (mm_AS ad)) (F0 m 2 ls [])) (X : mm_X p s m args meth c cX0_askAll 6 none RX0 D ad cA) : ∀ (v2 : Int32) (v3 : Int32) (v5 : Int32) (w1 : Int32) (σ : mm_M) (H : Heap) (locs : List Loc) (ls : Array Slot), fx_X0_askAll_J57 r1 k2 v2 v3 v5 w1 σ = some (rv, σ1) → va_P D vwCl (mm_wd ad cA σ) H → va_S (mm_AS ad) s.heap H locs → lv_has ls 6 [(0, .ref (ad 7 16 0)), (1, .ref (ad r1 0 0)), (2, .int v2), (3, .int v3), (5, .int v5)] → W p l e (mm_rm 1 22) s m args below meth c H locs 0 0 (MQ below (mm_Q D ad cA none σ1) args s 0 0 (mm_AS ad)) (F0 m 57 ls [.int w1, .ref (ad 7 17 0)]) := by
  have hx := X.1
  have hb := X.2.1
  have hI := X.2.2.2.2.2.2.2.2.2
  intro v2 v3 v5 w1 σ H locs ls hf hP hS hl
  rw [fx_X0_askAll_J57] at hf
  refine lv_iconst (v := (0 : Int32)) hx hb dX0_askAll_57 (by decide) ?_
  exact cx_X0_askAll_J58 r1 hr1 rv σ1 k2 hk2 X v2 v3 v5 w1 (0 : Int32) σ H locs ls hf hP hS (lv_sub hl [0, 1, 2, 3, 4] rfl)
def fx_X0_askAll_L2 (r1 : Nat)  : Nat → Int32 → mm_M → mm_R
  | 0, _, _ => none
  | fu + 1, v2, σ => if (σ r1 0 0 2) ≤ v2 then some (0, σ) else mm_gd (mm_ix v2 4 = true) (mm_li (σ r1 6 v2.toNatClampNeg 3) fun y_3 => (mm_bd (fx_X1_kindOn r1 y_3 σ) fun r_4 s_4 => (mm_li (r_4 - (1 : Int32)) fun y_5 => (if r_4 < (1 : Int32) then fx_X0_askAll_J57 r1 (fun z0 z => fx_X0_askAll_L2 r1 fu z0 z) v2 y_3 y_5 v2 s_4 else if (4 : Int32) < r_4 then fx_X0_askAll_J57 r1 (fun z0 z => fx_X0_askAll_L2 r1 fu z0 z) v2 y_3 y_5 v2 s_4 else fx_X0_askAll_J58 r1 (fun z0 z => fx_X0_askAll_L2 r1 fu z0 z) v2 y_3 y_5 v2 (1 : Int32) s_4))))
set_option maxHeartbeats 4000000 in
set_option maxRecDepth 100000 in
theorem cx_X0_askAll_L2 {p : Program} {l : Launch} {e : Env} {s : State} {m : MethodId} {args : Array Value} {below : List Frame} {meth : Method} {c : Code} {D : va_G} {ad : mm_A} {cA : Nat → ClassId} (r1 : Nat) (hr1 : r1 < 6) (rv : Int32) (σ1 : mm_M)  (X : mm_X p s m args meth c cX0_askAll 6 none RX0 D ad cA) : ∀ (fu : Nat), ∀ (v2 : Int32) (σ : mm_M) (H : Heap) (locs : List Loc) (ls : Array Slot), fx_X0_askAll_L2 r1 fu v2 σ = some (rv, σ1) → va_P D vwCl (mm_wd ad cA σ) H → va_S (mm_AS ad) s.heap H locs → lv_has ls 6 [(0, .ref (ad 7 16 0)), (1, .ref (ad r1 0 0)), (2, .int v2)] → W p l e (mm_rm 1 22) s m args below meth c H locs 0 0 (MQ below (mm_Q D ad cA none σ1) args s 0 0 (mm_AS ad)) (F0 m 2 ls []) := by
  have hx := X.1
  have hb := X.2.1
  have hI := X.2.2.2.2.2.2.2.2.2
  intro fu
  induction fu with
  | zero =>
    intro v2 σ H locs ls hf
    exact mm_no hf
  | succ fu ih =>
    intro v2 σ H locs ls hf hP hS hl
    rw [fx_X0_askAll_L2] at hf
    refine lv_iload_n hx hb dX0_askAll_2 rfl (lv_at hl 2 rfl) ?_
    refine lv_aload_n hx hb dX0_askAll_3 rfl (lv_at hl 1 rfl) ?_
    refine gf_0_2 X hP hr1 wd_116 dX0_askAll_4 ?_
    refine lv_icmp_ge (tgt := 123) hx hb dX0_askAll_7 (by decide) (fun c_1 => ?_) (fun c_1 => ?_)
    · replace hf := mm_it c_1 hf
      obtain ⟨rfl, rfl⟩ := mm_ret hf
      exact mm_vret X hP hS dX0_askAll_123
    · replace hf := mm_if c_1 hf
      refine lv_aload_n hx hb dX0_askAll_10 rfl (lv_at hl 1 rfl) ?_
      refine gf_0_1 X hP hr1 wd_112 dX0_askAll_11 ?_
      refine lv_iload_n hx hb dX0_askAll_14 rfl (lv_at hl 2 rfl) ?_
      obtain ⟨h_2, hf⟩ := mm_gd_ok hf
      refine mm_cart X hP hr1 h_2 dX0_askAll_15 ?_
      refine gf_6_3 X hP hr1 (mm_ix_lt h_2) wd_71 dX0_askAll_16 ?_
      obtain ⟨y_3, e_3, hf⟩ := mm_li_ok hf
      rw [← e_3]
      refine lv_istore_n (lv' := [(3, .int y_3), (0, .ref (ad 7 16 0)), (1, .ref (ad r1 0 0)), (2, .int v2)]) hx hb dX0_askAll_19 rfl hl (by decide) rfl (fun ls hl => ?_)
      refine lv_aload_n hx hb dX0_askAll_20 rfl (lv_at hl 2 rfl) ?_
      refine gf_0_0 X hP hr1 wd_107 dX0_askAll_21 ?_
      refine lv_iload_n hx hb dX0_askAll_24 rfl (lv_at hl 0 rfl) ?_
      obtain ⟨r_4, s_4, e_4, hf⟩ := mm_bd_ok hf
      refine mm_callV X hP hS hl.1 [.int y_3] [] (cx_X1_kindOn l D ad cA hI r1 y_3 hr1 σ r_4 s_4 e_4) (mm_kr r1 hr1 1 (by decide)) rfl rfl wd_623 wd_372 wd_373 wd_3 wd_374 hd_X1_kindOn ⟨Nat.le_of_ble_eq_true rfl, Nat.le_of_ble_eq_true rfl⟩ rfl (Nat.le_of_ble_eq_true rfl) dX0_askAll_25 (fun H locs hP hS => ?_)
      refine lv_istore (lv' := [(4, .int r_4), (3, .int y_3), (0, .ref (ad 7 16 0)), (1, .ref (ad r1 0 0)), (2, .int v2)]) hx hb dX0_askAll_28 hl (by decide) rfl (fun ls hl => ?_)
      refine lv_iload hx hb dX0_askAll_30 (lv_at hl 0 rfl) ?_
      refine lv_iconst (v := (1 : Int32)) hx hb dX0_askAll_32 (by decide) ?_
      refine lv_isub hx hb dX0_askAll_33 ?_
      obtain ⟨y_5, e_5, hf⟩ := mm_li_ok hf
      rw [← e_5]
      refine lv_istore (lv' := [(5, .int y_5), (4, .int r_4), (3, .int y_3), (0, .ref (ad 7 16 0)), (1, .ref (ad r1 0 0)), (2, .int v2)]) hx hb dX0_askAll_34 hl (by decide) rfl (fun ls hl => ?_)
      refine lv_aload_n hx hb dX0_askAll_36 rfl (lv_at hl 3 rfl) ?_
      refine gf_16_0 X hP  wd_192 dX0_askAll_37 ?_
      refine lv_iload_n hx hb dX0_askAll_40 rfl (lv_at hl 5 rfl) ?_
      refine lv_iload hx hb dX0_askAll_41 (lv_at hl 1 rfl) ?_
      refine lv_iconst (v := (1 : Int32)) hx hb dX0_askAll_43 (by decide) ?_
      refine lv_icmp_lt (tgt := 57) hx hb dX0_askAll_44 (by decide) (fun c_6 => ?_) (fun c_6 => ?_)
      · replace hf := mm_it c_6 hf
        exact cx_X0_askAll_J57 r1 hr1 rv σ1 (fun z0 z => fx_X0_askAll_L2 r1 fu z0 z) ih X v2 y_3 y_5 v2 s_4 H locs ls hf hP hS (lv_sub hl [3, 4, 5, 2, 0] rfl)
      · replace hf := mm_if c_6 hf
        refine lv_iload hx hb dX0_askAll_47 (lv_at hl 1 rfl) ?_
        refine lv_iconst (v := (4 : Int32)) hx hb dX0_askAll_49 (by decide) ?_
        refine lv_icmp_gt (tgt := 57) hx hb dX0_askAll_50 (by decide) (fun c_7 => ?_) (fun c_7 => ?_)
        · replace hf := mm_it c_7 hf
          exact cx_X0_askAll_J57 r1 hr1 rv σ1 (fun z0 z => fx_X0_askAll_L2 r1 fu z0 z) ih X v2 y_3 y_5 v2 s_4 H locs ls hf hP hS (lv_sub hl [3, 4, 5, 2, 0] rfl)
        · replace hf := mm_if c_7 hf
          refine lv_iconst (v := (1 : Int32)) hx hb dX0_askAll_53 (by decide) ?_
          refine lv_goto (tgt := 58) hx hb dX0_askAll_54 (by decide) ?_
          exact cx_X0_askAll_J58 r1 hr1 rv σ1 (fun z0 z => fx_X0_askAll_L2 r1 fu z0 z) ih X v2 y_3 y_5 v2 (1 : Int32) s_4 H locs ls hf hP hS (lv_sub hl [3, 4, 5, 2, 0] rfl)
def fx_X0_askAll (r1 : Nat) (σ : mm_M) : mm_R := fx_X0_askAll_L2 r1 mm_FU (0 : Int32) σ
set_option maxHeartbeats 4000000 in
set_option maxRecDepth 100000 in
theorem cx_X0_askAll (l : Launch) (D : va_G) (ad : mm_A) (cA : Nat → ClassId) (hI : mm_Inj ad) (r1 : Nat) (hr1 : r1 < 6) (σ : mm_M) (rv : Int32) (σ1 : mm_M) (hf : fx_X0_askAll r1 σ = some (rv, σ1)) : Met l yX0_askAll (Cond.code yX0_askAll cX0_askAll 6 none :: tb) (mm_rm 1 22) (mm_pre D ad cA [.ref (ad 7 16 0), .ref (ad r1 0 0)] σ) (mm_Q D ad cA none σ1) 0 0 (mm_AS ad) := by
  refine mm_start (by decide +kernel) hI (Nat.le_of_ble_eq_true rfl) ?_
  intro p e s m args below meth c X hP ls hl
  have hl : lv_has ls 6 [(0, .ref (ad 7 16 0)), (1, .ref (ad r1 0 0))] := hl
  have hx := X.1
  have hb := X.2.1
  have hS : va_S (mm_AS ad) s.heap s.heap [] := va_S.rf
  have hgen : ∀ (H : Heap) (locs : List Loc), va_P D vwCl (mm_wd ad cA σ) H → va_S (mm_AS ad) s.heap H locs → W p l e (mm_rm 1 22) s m args below meth c H locs 0 0 (MQ below (mm_Q D ad cA none σ1) args s 0 0 (mm_AS ad)) (F0 m 0 ls []) := by
    intro H locs hP hS
    rw [fx_X0_askAll] at hf
    refine lv_iconst (v := (0 : Int32)) hx hb dX0_askAll_0 (by decide) ?_
    refine lv_istore_n (lv' := [(2, .int (0 : Int32)), (0, .ref (ad 7 16 0)), (1, .ref (ad r1 0 0))]) hx hb dX0_askAll_1 rfl hl (by decide) rfl (fun ls hl => ?_)
    exact cx_X0_askAll_L2 r1 hr1 rv σ1 X mm_FU (0 : Int32) σ H locs ls hf hP hS (lv_sub hl [1, 2, 0] rfl)
  exact hgen _ _ hP hS
def fx_X0_isHindered_J100 (r1 : Nat) (x2 : Int32) (k2 : Int32 → mm_M → mm_R) (v3 : Int32) (v4 : Int32) (w0 : Int32) (σ : mm_M) : mm_R := if v4 = (0 : Int32) then if w0 = (0 : Int32) then mm_li (v3 + (1 : Int32)) fun y_21 => (k2 y_21 σ) else some ((1 : Int32), σ) else some ((1 : Int32), σ)
set_option maxHeartbeats 4000000 in
set_option maxRecDepth 100000 in
theorem cx_X0_isHindered_J100 {p : Program} {l : Launch} {e : Env} {s : State} {m : MethodId} {args : Array Value} {below : List Frame} {meth : Method} {c : Code} {D : va_G} {ad : mm_A} {cA : Nat → ClassId} (r1 : Nat) (x2 : Int32) (hr1 : r1 < 6) (rv : Int32) (σ1 : mm_M) (k2 : Int32 → mm_M → mm_R) (hk2 : ∀ (v3 : Int32) (σ : mm_M) (H : Heap) (locs : List Loc) (ls : Array Slot), k2 v3 σ = some (rv, σ1) → va_P D vwCl (mm_wd ad cA σ) H → va_S (mm_AS ad) s.heap H locs → lv_has ls 6 [(0, .ref (ad 7 16 0)), (1, .ref (ad r1 0 0)), (2, .int x2), (3, .int v3)] → W p l e (mm_rm 0 0) s m args below meth c H locs 0 0 (MQ below (mm_Q D ad cA (some (.int rv)) σ1) args s 0 0 (mm_AS ad)) (F0 m 2 ls [])) (X : mm_X p s m args meth c cX0_isHindered 6 (some .boolean) RX0 D ad cA) : ∀ (v3 : Int32) (v4 : Int32) (w0 : Int32) (σ : mm_M) (H : Heap) (locs : List Loc) (ls : Array Slot), fx_X0_isHindered_J100 r1 x2 k2 v3 v4 w0 σ = some (rv, σ1) → va_P D vwCl (mm_wd ad cA σ) H → va_S (mm_AS ad) s.heap H locs → lv_has ls 6 [(0, .ref (ad 7 16 0)), (1, .ref (ad r1 0 0)), (2, .int x2), (3, .int v3), (4, .int v4)] → W p l e (mm_rm 0 0) s m args below meth c H locs 0 0 (MQ below (mm_Q D ad cA (some (.int rv)) σ1) args s 0 0 (mm_AS ad)) (F0 m 100 ls [.int w0]) := by
  have hx := X.1
  have hb := X.2.1
  have hI := X.2.2.2.2.2.2.2.2.2
  intro v3 v4 w0 σ H locs ls hf hP hS hl
  rw [fx_X0_isHindered_J100] at hf
  refine lv_istore (lv' := [(5, .int w0), (0, .ref (ad 7 16 0)), (1, .ref (ad r1 0 0)), (2, .int x2), (3, .int v3), (4, .int v4)]) hx hb dX0_isHindered_100 hl (by decide) rfl (fun ls hl => ?_)
  refine lv_iload hx hb dX0_isHindered_102 (lv_at hl 5 rfl) ?_
  refine lv_if_ne (tgt := 112) hx hb dX0_isHindered_104 (by decide) (fun c_19 => ?_) (fun c_19 => ?_)
  · replace hf := mm_if c_19 hf
    refine lv_iconst (v := (1 : Int32)) hx hb dX0_isHindered_112 (by decide) ?_
    obtain ⟨rfl, rfl⟩ := mm_ret hf
    exact mm_zret (Or.inr rfl) X hP hS dX0_isHindered_113
  · replace hf := mm_it c_19 hf
    refine lv_iload hx hb dX0_isHindered_107 (lv_at hl 0 rfl) ?_
    refine lv_if_eq (tgt := 114) hx hb dX0_isHindered_109 (by decide) (fun c_20 => ?_) (fun c_20 => ?_)
    · replace hf := mm_it c_20 hf
      obtain ⟨y_21, e_21, hf⟩ := mm_li_ok hf
      refine lv_iinc (v := y_21) (lv' := [(3, .int y_21), (5, .int w0), (0, .ref (ad 7 16 0)), (1, .ref (ad r1 0 0)), (2, .int x2), (4, .int v4)]) hx hb dX0_isHindered_114 hl (k := 4) rfl (by rw [e_21]; rfl) (by decide) rfl (fun ls hl => ?_)
      refine lv_goto (tgt := 2) hx hb dX0_isHindered_117 (by decide) ?_
      exact hk2 y_21 σ H locs ls  hf hP hS (lv_sub hl [2, 3, 4, 0] rfl)
    · replace hf := mm_if c_20 hf
      refine lv_iconst (v := (1 : Int32)) hx hb dX0_isHindered_112 (by decide) ?_
      obtain ⟨rfl, rfl⟩ := mm_ret hf
      exact mm_zret (Or.inr rfl) X hP hS dX0_isHindered_113
def fx_X0_isHindered_J99 (r1 : Nat) (x2 : Int32) (k2 : Int32 → mm_M → mm_R) (v3 : Int32) (v4 : Int32) (σ : mm_M) : mm_R := fx_X0_isHindered_J100 r1 x2 k2 v3 v4 (0 : Int32) σ
set_option maxHeartbeats 4000000 in
set_option maxRecDepth 100000 in
theorem cx_X0_isHindered_J99 {p : Program} {l : Launch} {e : Env} {s : State} {m : MethodId} {args : Array Value} {below : List Frame} {meth : Method} {c : Code} {D : va_G} {ad : mm_A} {cA : Nat → ClassId} (r1 : Nat) (x2 : Int32) (hr1 : r1 < 6) (rv : Int32) (σ1 : mm_M) (k2 : Int32 → mm_M → mm_R) (hk2 : ∀ (v3 : Int32) (σ : mm_M) (H : Heap) (locs : List Loc) (ls : Array Slot), k2 v3 σ = some (rv, σ1) → va_P D vwCl (mm_wd ad cA σ) H → va_S (mm_AS ad) s.heap H locs → lv_has ls 6 [(0, .ref (ad 7 16 0)), (1, .ref (ad r1 0 0)), (2, .int x2), (3, .int v3)] → W p l e (mm_rm 0 0) s m args below meth c H locs 0 0 (MQ below (mm_Q D ad cA (some (.int rv)) σ1) args s 0 0 (mm_AS ad)) (F0 m 2 ls [])) (X : mm_X p s m args meth c cX0_isHindered 6 (some .boolean) RX0 D ad cA) : ∀ (v3 : Int32) (v4 : Int32) (σ : mm_M) (H : Heap) (locs : List Loc) (ls : Array Slot), fx_X0_isHindered_J99 r1 x2 k2 v3 v4 σ = some (rv, σ1) → va_P D vwCl (mm_wd ad cA σ) H → va_S (mm_AS ad) s.heap H locs → lv_has ls 6 [(0, .ref (ad 7 16 0)), (1, .ref (ad r1 0 0)), (2, .int x2), (3, .int v3), (4, .int v4)] → W p l e (mm_rm 0 0) s m args below meth c H locs 0 0 (MQ below (mm_Q D ad cA (some (.int rv)) σ1) args s 0 0 (mm_AS ad)) (F0 m 99 ls []) := by
  have hx := X.1
  have hb := X.2.1
  have hI := X.2.2.2.2.2.2.2.2.2
  intro v3 v4 σ H locs ls hf hP hS hl
  rw [fx_X0_isHindered_J99] at hf
  refine lv_iconst (v := (0 : Int32)) hx hb dX0_isHindered_99 (by decide) ?_
  exact cx_X0_isHindered_J100 r1 x2 hr1 rv σ1 k2 hk2 X v3 v4 (0 : Int32) σ H locs ls hf hP hS (lv_sub hl [0, 1, 2, 3, 4] rfl)
def fx_X0_isHindered_J57 (r1 : Nat) (x2 : Int32) (k2 : Int32 → mm_M → mm_R) (v3 : Int32) (w0 : Int32) (σ : mm_M) : mm_R := mm_gd (mm_ix x2 4 = true) (mm_gd (mm_ix v3 4 = true) (if (σ 7 18 0 x2.toNatClampNeg) = (σ r1 6 v3.toNatClampNeg 3) then mm_gd (mm_ix v3 4 = true) (mm_gd (mm_ix x2 4 = true) (if (σ 7 18 0 v3.toNatClampNeg) = (σ r1 6 x2.toNatClampNeg 3) then fx_X0_isHindered_J100 r1 x2 k2 v3 w0 (1 : Int32) σ else fx_X0_isHindered_J99 r1 x2 k2 v3 w0 σ)) else fx_X0_isHindered_J99 r1 x2 k2 v3 w0 σ))
set_option maxHeartbeats 4000000 in
set_option maxRecDepth 100000 in
theorem cx_X0_isHindered_J57 {p : Program} {l : Launch} {e : Env} {s : State} {m : MethodId} {args : Array Value} {below : List Frame} {meth : Method} {c : Code} {D : va_G} {ad : mm_A} {cA : Nat → ClassId} (r1 : Nat) (x2 : Int32) (hr1 : r1 < 6) (rv : Int32) (σ1 : mm_M) (k2 : Int32 → mm_M → mm_R) (hk2 : ∀ (v3 : Int32) (σ : mm_M) (H : Heap) (locs : List Loc) (ls : Array Slot), k2 v3 σ = some (rv, σ1) → va_P D vwCl (mm_wd ad cA σ) H → va_S (mm_AS ad) s.heap H locs → lv_has ls 6 [(0, .ref (ad 7 16 0)), (1, .ref (ad r1 0 0)), (2, .int x2), (3, .int v3)] → W p l e (mm_rm 0 0) s m args below meth c H locs 0 0 (MQ below (mm_Q D ad cA (some (.int rv)) σ1) args s 0 0 (mm_AS ad)) (F0 m 2 ls [])) (X : mm_X p s m args meth c cX0_isHindered 6 (some .boolean) RX0 D ad cA) : ∀ (v3 : Int32) (w0 : Int32) (σ : mm_M) (H : Heap) (locs : List Loc) (ls : Array Slot), fx_X0_isHindered_J57 r1 x2 k2 v3 w0 σ = some (rv, σ1) → va_P D vwCl (mm_wd ad cA σ) H → va_S (mm_AS ad) s.heap H locs → lv_has ls 6 [(0, .ref (ad 7 16 0)), (1, .ref (ad r1 0 0)), (2, .int x2), (3, .int v3)] → W p l e (mm_rm 0 0) s m args below meth c H locs 0 0 (MQ below (mm_Q D ad cA (some (.int rv)) σ1) args s 0 0 (mm_AS ad)) (F0 m 57 ls [.int w0]) := by
  have hx := X.1
  have hb := X.2.1
  have hI := X.2.2.2.2.2.2.2.2.2
  intro v3 w0 σ H locs ls hf hP hS hl
  rw [fx_X0_isHindered_J57] at hf
  refine lv_istore (lv' := [(4, .int w0), (0, .ref (ad 7 16 0)), (1, .ref (ad r1 0 0)), (2, .int x2), (3, .int v3)]) hx hb dX0_isHindered_57 hl (by decide) rfl (fun ls hl => ?_)
  refine lv_aload_n hx hb dX0_isHindered_59 rfl (lv_at hl 1 rfl) ?_
  refine gf_16_1 X hP  wd_193 dX0_isHindered_60 ?_
  refine lv_iload_n hx hb dX0_isHindered_63 rfl (lv_at hl 3 rfl) ?_
  obtain ⟨h_13, hf⟩ := mm_gd_ok hf
  refine al_18 X hP  h_13 dX0_isHindered_64 ?_
  refine lv_aload_n hx hb dX0_isHindered_65 rfl (lv_at hl 2 rfl) ?_
  refine gf_0_1 X hP hr1 wd_112 dX0_isHindered_66 ?_
  refine lv_iload_n hx hb dX0_isHindered_69 rfl (lv_at hl 4 rfl) ?_
  obtain ⟨h_14, hf⟩ := mm_gd_ok hf
  refine mm_cart X hP hr1 h_14 dX0_isHindered_70 ?_
  refine gf_6_3 X hP hr1 (mm_ix_lt h_14) wd_71 dX0_isHindered_71 ?_
  refine lv_icmp_ne (tgt := 99) hx hb dX0_isHindered_74 (by decide) (fun c_15 => ?_) (fun c_15 => ?_)
  · replace hf := mm_if c_15 hf
    exact cx_X0_isHindered_J99 r1 x2 hr1 rv σ1 k2 hk2 X v3 w0 σ H locs ls hf hP hS (lv_sub hl [1, 2, 3, 4, 0] rfl)
  · replace hf := mm_it c_15 hf
    refine lv_aload_n hx hb dX0_isHindered_77 rfl (lv_at hl 1 rfl) ?_
    refine gf_16_1 X hP  wd_193 dX0_isHindered_78 ?_
    refine lv_iload_n hx hb dX0_isHindered_81 rfl (lv_at hl 4 rfl) ?_
    obtain ⟨h_16, hf⟩ := mm_gd_ok hf
    refine al_18 X hP  h_16 dX0_isHindered_82 ?_
    refine lv_aload_n hx hb dX0_isHindered_83 rfl (lv_at hl 2 rfl) ?_
    refine gf_0_1 X hP hr1 wd_112 dX0_isHindered_84 ?_
    refine lv_iload_n hx hb dX0_isHindered_87 rfl (lv_at hl 3 rfl) ?_
    obtain ⟨h_17, hf⟩ := mm_gd_ok hf
    refine mm_cart X hP hr1 h_17 dX0_isHindered_88 ?_
    refine gf_6_3 X hP hr1 (mm_ix_lt h_17) wd_71 dX0_isHindered_89 ?_
    refine lv_icmp_ne (tgt := 99) hx hb dX0_isHindered_92 (by decide) (fun c_18 => ?_) (fun c_18 => ?_)
    · replace hf := mm_if c_18 hf
      exact cx_X0_isHindered_J99 r1 x2 hr1 rv σ1 k2 hk2 X v3 w0 σ H locs ls hf hP hS (lv_sub hl [1, 2, 3, 4, 0] rfl)
    · replace hf := mm_it c_18 hf
      refine lv_iconst (v := (1 : Int32)) hx hb dX0_isHindered_95 (by decide) ?_
      refine lv_goto (tgt := 100) hx hb dX0_isHindered_96 (by decide) ?_
      exact cx_X0_isHindered_J100 r1 x2 hr1 rv σ1 k2 hk2 X v3 w0 (1 : Int32) σ H locs ls hf hP hS (lv_sub hl [1, 2, 3, 4, 0] rfl)
def fx_X0_isHindered_L2 (r1 : Nat) (x2 : Int32)  : Nat → Int32 → mm_M → mm_R
  | 0, _, _ => none
  | fu + 1, v3, σ => if (σ r1 0 0 2) ≤ v3 then some ((0 : Int32), σ) else if v3 = x2 then mm_li (v3 + (1 : Int32)) fun y_3 => (fx_X0_isHindered_L2 r1 x2 fu y_3 σ) else mm_gd (mm_ix v3 4 = true) (if (σ 7 17 0 v3.toNatClampNeg) = (0 : Int32) then mm_li (v3 + (1 : Int32)) fun y_6 => (fx_X0_isHindered_L2 r1 x2 fu y_6 σ) else mm_gd (mm_ix x2 4 = true) (if (σ 7 18 0 x2.toNatClampNeg) = (-1 : Int32) then mm_li (v3 + (1 : Int32)) fun y_12 => (fx_X0_isHindered_L2 r1 x2 fu y_12 σ) else mm_gd (mm_ix v3 4 = true) (mm_gd (mm_ix x2 4 = true) (if (σ 7 18 0 v3.toNatClampNeg) = (σ 7 18 0 x2.toNatClampNeg) then fx_X0_isHindered_J57 r1 x2 (fun z0 z => fx_X0_isHindered_L2 r1 x2 fu z0 z) v3 (1 : Int32) σ else fx_X0_isHindered_J57 r1 x2 (fun z0 z => fx_X0_isHindered_L2 r1 x2 fu z0 z) v3 (0 : Int32) σ))))
set_option maxHeartbeats 4000000 in
set_option maxRecDepth 100000 in
theorem cx_X0_isHindered_L2 {p : Program} {l : Launch} {e : Env} {s : State} {m : MethodId} {args : Array Value} {below : List Frame} {meth : Method} {c : Code} {D : va_G} {ad : mm_A} {cA : Nat → ClassId} (r1 : Nat) (x2 : Int32) (hr1 : r1 < 6) (rv : Int32) (σ1 : mm_M)  (X : mm_X p s m args meth c cX0_isHindered 6 (some .boolean) RX0 D ad cA) : ∀ (fu : Nat), ∀ (v3 : Int32) (σ : mm_M) (H : Heap) (locs : List Loc) (ls : Array Slot), fx_X0_isHindered_L2 r1 x2 fu v3 σ = some (rv, σ1) → va_P D vwCl (mm_wd ad cA σ) H → va_S (mm_AS ad) s.heap H locs → lv_has ls 6 [(0, .ref (ad 7 16 0)), (1, .ref (ad r1 0 0)), (2, .int x2), (3, .int v3)] → W p l e (mm_rm 0 0) s m args below meth c H locs 0 0 (MQ below (mm_Q D ad cA (some (.int rv)) σ1) args s 0 0 (mm_AS ad)) (F0 m 2 ls []) := by
  have hx := X.1
  have hb := X.2.1
  have hI := X.2.2.2.2.2.2.2.2.2
  intro fu
  induction fu with
  | zero =>
    intro v3 σ H locs ls hf
    exact mm_no hf
  | succ fu ih =>
    intro v3 σ H locs ls hf hP hS hl
    rw [fx_X0_isHindered_L2] at hf
    refine lv_iload_n hx hb dX0_isHindered_2 rfl (lv_at hl 3 rfl) ?_
    refine lv_aload_n hx hb dX0_isHindered_3 rfl (lv_at hl 1 rfl) ?_
    refine gf_0_2 X hP hr1 wd_116 dX0_isHindered_4 ?_
    refine lv_icmp_ge (tgt := 120) hx hb dX0_isHindered_7 (by decide) (fun c_1 => ?_) (fun c_1 => ?_)
    · replace hf := mm_it c_1 hf
      refine lv_iconst (v := (0 : Int32)) hx hb dX0_isHindered_120 (by decide) ?_
      obtain ⟨rfl, rfl⟩ := mm_ret hf
      exact mm_zret (Or.inl rfl) X hP hS dX0_isHindered_121
    · replace hf := mm_if c_1 hf
      refine lv_iload_n hx hb dX0_isHindered_10 rfl (lv_at hl 3 rfl) ?_
      refine lv_iload_n hx hb dX0_isHindered_11 rfl (lv_at hl 2 rfl) ?_
      refine lv_icmp_eq (tgt := 114) hx hb dX0_isHindered_12 (by decide) (fun c_2 => ?_) (fun c_2 => ?_)
      · replace hf := mm_it c_2 hf
        obtain ⟨y_3, e_3, hf⟩ := mm_li_ok hf
        refine lv_iinc (v := y_3) (lv' := [(3, .int y_3), (0, .ref (ad 7 16 0)), (1, .ref (ad r1 0 0)), (2, .int x2)]) hx hb dX0_isHindered_114 hl (k := 3) rfl (by rw [e_3]; rfl) (by decide) rfl (fun ls hl => ?_)
        refine lv_goto (tgt := 2) hx hb dX0_isHindered_117 (by decide) ?_
        exact ih y_3 σ H locs ls  hf hP hS (lv_sub hl [1, 2, 3, 0] rfl)
      · replace hf := mm_if c_2 hf
        refine lv_aload_n hx hb dX0_isHindered_15 rfl (lv_at hl 0 rfl) ?_
        refine gf_16_0 X hP  wd_192 dX0_isHindered_16 ?_
        refine lv_iload_n hx hb dX0_isHindered_19 rfl (lv_at hl 3 rfl) ?_
        obtain ⟨h_4, hf⟩ := mm_gd_ok hf
        refine al_17 X hP  h_4 dX0_isHindered_20 ?_
        refine lv_if_eq (tgt := 114) hx hb dX0_isHindered_21 (by decide) (fun c_5 => ?_) (fun c_5 => ?_)
        · replace hf := mm_it c_5 hf
          obtain ⟨y_6, e_6, hf⟩ := mm_li_ok hf
          refine lv_iinc (v := y_6) (lv' := [(3, .int y_6), (0, .ref (ad 7 16 0)), (1, .ref (ad r1 0 0)), (2, .int x2)]) hx hb dX0_isHindered_114 hl (k := 3) rfl (by rw [e_6]; rfl) (by decide) rfl (fun ls hl => ?_)
          refine lv_goto (tgt := 2) hx hb dX0_isHindered_117 (by decide) ?_
          exact ih y_6 σ H locs ls  hf hP hS (lv_sub hl [1, 2, 3, 0] rfl)
        · replace hf := mm_if c_5 hf
          refine lv_aload_n hx hb dX0_isHindered_24 rfl (lv_at hl 0 rfl) ?_
          refine gf_16_1 X hP  wd_193 dX0_isHindered_25 ?_
          refine lv_iload_n hx hb dX0_isHindered_28 rfl (lv_at hl 2 rfl) ?_
          obtain ⟨h_7, hf⟩ := mm_gd_ok hf
          refine al_18 X hP  h_7 dX0_isHindered_29 ?_
          refine lv_iconst (v := (-1 : Int32)) hx hb dX0_isHindered_30 (by decide) ?_
          refine lv_icmp_ne (tgt := 37) hx hb dX0_isHindered_31 (by decide) (fun c_8 => ?_) (fun c_8 => ?_)
          · replace hf := mm_if c_8 hf
            refine lv_aload_n hx hb dX0_isHindered_37 rfl (lv_at hl 0 rfl) ?_
            refine gf_16_1 X hP  wd_193 dX0_isHindered_38 ?_
            refine lv_iload_n hx hb dX0_isHindered_41 rfl (lv_at hl 3 rfl) ?_
            obtain ⟨h_9, hf⟩ := mm_gd_ok hf
            refine al_18 X hP  h_9 dX0_isHindered_42 ?_
            refine lv_aload_n hx hb dX0_isHindered_43 rfl (lv_at hl 0 rfl) ?_
            refine gf_16_1 X hP  wd_193 dX0_isHindered_44 ?_
            refine lv_iload_n hx hb dX0_isHindered_47 rfl (lv_at hl 2 rfl) ?_
            obtain ⟨h_10, hf⟩ := mm_gd_ok hf
            refine al_18 X hP  h_10 dX0_isHindered_48 ?_
            refine lv_icmp_ne (tgt := 56) hx hb dX0_isHindered_49 (by decide) (fun c_11 => ?_) (fun c_11 => ?_)
            · replace hf := mm_if c_11 hf
              refine lv_iconst (v := (0 : Int32)) hx hb dX0_isHindered_56 (by decide) ?_
              exact cx_X0_isHindered_J57 r1 x2 hr1 rv σ1 (fun z0 z => fx_X0_isHindered_L2 r1 x2 fu z0 z) ih X v3 (0 : Int32) σ H locs ls hf hP hS (lv_sub hl [0, 1, 2, 3] rfl)
            · replace hf := mm_it c_11 hf
              refine lv_iconst (v := (1 : Int32)) hx hb dX0_isHindered_52 (by decide) ?_
              refine lv_goto (tgt := 57) hx hb dX0_isHindered_53 (by decide) ?_
              exact cx_X0_isHindered_J57 r1 x2 hr1 rv σ1 (fun z0 z => fx_X0_isHindered_L2 r1 x2 fu z0 z) ih X v3 (1 : Int32) σ H locs ls hf hP hS (lv_sub hl [0, 1, 2, 3] rfl)
          · replace hf := mm_it c_8 hf
            refine lv_goto (tgt := 114) hx hb dX0_isHindered_34 (by decide) ?_
            obtain ⟨y_12, e_12, hf⟩ := mm_li_ok hf
            refine lv_iinc (v := y_12) (lv' := [(3, .int y_12), (0, .ref (ad 7 16 0)), (1, .ref (ad r1 0 0)), (2, .int x2)]) hx hb dX0_isHindered_114 hl (k := 3) rfl (by rw [e_12]; rfl) (by decide) rfl (fun ls hl => ?_)
            refine lv_goto (tgt := 2) hx hb dX0_isHindered_117 (by decide) ?_
            exact ih y_12 σ H locs ls  hf hP hS (lv_sub hl [1, 2, 3, 0] rfl)
def fx_X0_isHindered (r1 : Nat) (x2 : Int32) (σ : mm_M) : mm_R := fx_X0_isHindered_L2 r1 x2 mm_FU (0 : Int32) σ
set_option maxHeartbeats 4000000 in
set_option maxRecDepth 100000 in
theorem cx_X0_isHindered (l : Launch) (D : va_G) (ad : mm_A) (cA : Nat → ClassId) (hI : mm_Inj ad) (r1 : Nat) (x2 : Int32) (hr1 : r1 < 6) (σ : mm_M) (rv : Int32) (σ1 : mm_M) (hf : fx_X0_isHindered r1 x2 σ = some (rv, σ1)) : Met l yX0_isHindered (Cond.code yX0_isHindered cX0_isHindered 6 (some .boolean) :: tb) (mm_rm 0 0) (mm_pre D ad cA [.ref (ad 7 16 0), .ref (ad r1 0 0), .int x2] σ) (mm_Q D ad cA (some (.int rv)) σ1) 0 0 (mm_AS ad) := by
  refine mm_start (by decide +kernel) hI (Nat.le_of_ble_eq_true rfl) ?_
  intro p e s m args below meth c X hP ls hl
  have hl : lv_has ls 6 [(0, .ref (ad 7 16 0)), (1, .ref (ad r1 0 0)), (2, .int x2)] := hl
  have hx := X.1
  have hb := X.2.1
  have hS : va_S (mm_AS ad) s.heap s.heap [] := va_S.rf
  have hgen : ∀ (H : Heap) (locs : List Loc), va_P D vwCl (mm_wd ad cA σ) H → va_S (mm_AS ad) s.heap H locs → W p l e (mm_rm 0 0) s m args below meth c H locs 0 0 (MQ below (mm_Q D ad cA (some (.int rv)) σ1) args s 0 0 (mm_AS ad)) (F0 m 0 ls []) := by
    intro H locs hP hS
    rw [fx_X0_isHindered] at hf
    refine lv_iconst (v := (0 : Int32)) hx hb dX0_isHindered_0 (by decide) ?_
    refine lv_istore_n (lv' := [(3, .int (0 : Int32)), (0, .ref (ad 7 16 0)), (1, .ref (ad r1 0 0)), (2, .int x2)]) hx hb dX0_isHindered_1 rfl hl (by decide) rfl (fun ls hl => ?_)
    exact cx_X0_isHindered_L2 r1 x2 hr1 rv σ1 X mm_FU (0 : Int32) σ H locs ls hf hP hS (lv_sub hl [1, 2, 3, 0] rfl)
  exact hgen _ _ hP hS
def fx_X8_enter_J24 (r0 : Nat) (r1 : Nat) (n1 : Nat) (x2 : Int32)   (σ : mm_M) : mm_R := mm_lt (mm_u σ r1 6 n1 3 (-1 : Int32)) fun s_6 => (mm_lt (mm_u s_6 r1 6 n1 7 ((s_6 r1 6 n1 7) + (1 : Int32))) fun s_7 => (some (0, s_7)))
set_option maxHeartbeats 4000000 in
set_option maxRecDepth 100000 in
theorem cx_X8_enter_J24 {p : Program} {l : Launch} {e : Env} {s : State} {m : MethodId} {args : Array Value} {below : List Frame} {meth : Method} {c : Code} {D : va_G} {ad : mm_A} {cA : Nat → ClassId} (r0 : Nat) (r1 : Nat) (n1 : Nat) (x2 : Int32) (hr0 : r0 < 6) (hr1 : r1 < 6) (hn1 : n1 < 4) (rv : Int32) (σ1 : mm_M)  (X : mm_X p s m args meth c cX8_enter 3 none RX8 D ad cA) : ∀ (σ : mm_M) (H : Heap) (locs : List Loc) (ls : Array Slot), fx_X8_enter_J24 r0 r1 n1 x2  σ = some (rv, σ1) → va_P D vwCl (mm_wd ad cA σ) H → va_S (mm_AS ad) s.heap H locs → lv_has ls 3 [(1, .ref (ad r1 6 n1))] → W p l e (mm_rm 0 0) s m args below meth c H locs 0 0 (MQ below (mm_Q D ad cA none σ1) args s 0 0 (mm_AS ad)) (F0 m 24 ls []) := by
  have hx := X.1
  have hb := X.2.1
  have hI := X.2.2.2.2.2.2.2.2.2
  intro σ H locs ls hf hP hS hl
  rw [fx_X8_enter_J24] at hf
  refine lv_aload_n hx hb dX8_enter_24 rfl (lv_at hl 0 rfl) ?_
  refine lv_iconst (v := (-1 : Int32)) hx hb dX8_enter_25 (by decide) ?_
  refine pf_6_3 X hP hS hr1 hn1 wd_72  dX8_enter_26 (fun H locs hP hS => ?_)
  obtain ⟨s_6, e_6, hf⟩ := mm_lt_ok hf
  rw [← e_6] at hP
  refine lv_aload_n hx hb dX8_enter_29 rfl (lv_at hl 0 rfl) ?_
  refine lv_dup hx hb dX8_enter_30 rfl ?_
  refine gf_6_7 X hP hr1 hn1 wd_84 dX8_enter_31 ?_
  refine lv_iconst (v := (1 : Int32)) hx hb dX8_enter_34 (by decide) ?_
  refine lv_iadd hx hb dX8_enter_35 ?_
  refine pf_6_7 X hP hS hr1 hn1 wd_84  dX8_enter_36 (fun H locs hP hS => ?_)
  obtain ⟨s_7, e_7, hf⟩ := mm_lt_ok hf
  rw [← e_7] at hP
  refine lv_goto (tgt := 47) hx hb dX8_enter_39 (by decide) ?_
  obtain ⟨rfl, rfl⟩ := mm_ret hf
  exact mm_vret X hP hS dX8_enter_47
def fx_X8_enter (r0 : Nat) (r1 : Nat) (n1 : Nat) (x2 : Int32) (σ : mm_M) : mm_R := if x2 < (0 : Int32) then fx_X8_enter_J24 r0 r1 n1 x2 σ else if (64 : Int32) ≤ x2 then fx_X8_enter_J24 r0 r1 n1 x2 σ else mm_gd (mm_ix x2 64 = true) (if (σ r0 2 0 x2.toNatClampNeg) = (7 : Int32) then fx_X8_enter_J24 r0 r1 n1 x2 σ else mm_lt (mm_u σ r1 6 n1 3 x2) fun s_5 => (some (0, s_5)))
set_option maxHeartbeats 4000000 in
set_option maxRecDepth 100000 in
theorem cx_X8_enter (l : Launch) (D : va_G) (ad : mm_A) (cA : Nat → ClassId) (hI : mm_Inj ad) (r0 : Nat) (r1 : Nat) (n1 : Nat) (x2 : Int32) (hr0 : r0 < 6) (hr1 : r1 < 6) (hn1 : n1 < 4) (σ : mm_M) (rv : Int32) (σ1 : mm_M) (hf : fx_X8_enter r0 r1 n1 x2 σ = some (rv, σ1)) : Met l yX8_enter (Cond.code yX8_enter cX8_enter 3 none :: tb) (mm_rm 0 0) (mm_pre D ad cA [.ref (ad r0 0 0), .ref (ad r1 6 n1), .int x2] σ) (mm_Q D ad cA none σ1) 0 0 (mm_AS ad) := by
  refine mm_start (by decide +kernel) hI (Nat.le_of_ble_eq_true rfl) ?_
  intro p e s m args below meth c X hP ls hl
  have hl : lv_has ls 3 [(0, .ref (ad r0 0 0)), (1, .ref (ad r1 6 n1)), (2, .int x2)] := hl
  have hx := X.1
  have hb := X.2.1
  have hS : va_S (mm_AS ad) s.heap s.heap [] := va_S.rf
  have hgen : ∀ (H : Heap) (locs : List Loc), va_P D vwCl (mm_wd ad cA σ) H → va_S (mm_AS ad) s.heap H locs → W p l e (mm_rm 0 0) s m args below meth c H locs 0 0 (MQ below (mm_Q D ad cA none σ1) args s 0 0 (mm_AS ad)) (F0 m 0 ls []) := by
    intro H locs hP hS
    rw [fx_X8_enter] at hf
    refine lv_iload_n hx hb dX8_enter_0 rfl (lv_at hl 2 rfl) ?_
    refine lv_if_lt (tgt := 24) hx hb dX8_enter_1 (by decide) (fun c_1 => ?_) (fun c_1 => ?_)
    · replace hf := mm_it c_1 hf
      exact cx_X8_enter_J24 r0 r1 n1 x2 hr0 hr1 hn1 rv σ1 X σ H locs ls hf hP hS (lv_sub hl [1] rfl)
    · replace hf := mm_if c_1 hf
      refine lv_iload_n hx hb dX8_enter_4 rfl (lv_at hl 2 rfl) ?_
      refine lv_bipush (v := (64 : Int32)) hx hb dX8_enter_5 (by decide) ?_
      refine lv_icmp_ge (tgt := 24) hx hb dX8_enter_7 (by decide) (fun c_2 => ?_) (fun c_2 => ?_)
      · replace hf := mm_it c_2 hf
        exact cx_X8_enter_J24 r0 r1 n1 x2 hr0 hr1 hn1 rv σ1 X σ H locs ls hf hP hS (lv_sub hl [1] rfl)
      · replace hf := mm_if c_2 hf
        refine lv_aload_n hx hb dX8_enter_10 rfl (lv_at hl 0 rfl) ?_
        refine gf_0_0 X hP hr0 wd_106 dX8_enter_11 ?_
        refine gf_1_0 X hP hr0 wd_37 dX8_enter_14 ?_
        refine lv_iload_n hx hb dX8_enter_17 rfl (lv_at hl 2 rfl) ?_
        obtain ⟨h_3, hf⟩ := mm_gd_ok hf
        refine al_2 X hP hr0 h_3 dX8_enter_18 ?_
        refine lv_bipush (v := (7 : Int32)) hx hb dX8_enter_19 (by decide) ?_
        refine lv_icmp_ne (tgt := 42) hx hb dX8_enter_21 (by decide) (fun c_4 => ?_) (fun c_4 => ?_)
        · replace hf := mm_if c_4 hf
          refine lv_aload_n hx hb dX8_enter_42 rfl (lv_at hl 1 rfl) ?_
          refine lv_iload_n hx hb dX8_enter_43 rfl (lv_at hl 2 rfl) ?_
          refine pf_6_3 X hP hS hr1 hn1 wd_72  dX8_enter_44 (fun H locs hP hS => ?_)
          obtain ⟨s_5, e_5, hf⟩ := mm_lt_ok hf
          rw [← e_5] at hP
          obtain ⟨rfl, rfl⟩ := mm_ret hf
          exact mm_vret X hP hS dX8_enter_47
        · replace hf := mm_it c_4 hf
          exact cx_X8_enter_J24 r0 r1 n1 x2 hr0 hr1 hn1 rv σ1 X σ H locs ls hf hP hS (lv_sub hl [1] rfl)
  exact hgen _ _ hP hS
def fx_X0_isBlocked (r1 : Nat) (x2 : Int32) (σ : mm_M) : mm_R := mm_gd (mm_ix x2 4 = true) (mm_bd (fx_X8_cartOn r1 (σ 7 18 0 x2.toNatClampNeg) σ) fun r_2 s_2 => (if r_2 = (-1 : Int32) then some ((0 : Int32), s_2) else mm_gd (mm_ix r_2 4 = true) (if (s_2 7 19 0 r_2.toNatClampNeg) = (0 : Int32) then some ((1 : Int32), s_2) else some ((0 : Int32), s_2))))
set_option maxHeartbeats 4000000 in
set_option maxRecDepth 100000 in
theorem cx_X0_isBlocked (l : Launch) (D : va_G) (ad : mm_A) (cA : Nat → ClassId) (hI : mm_Inj ad) (r1 : Nat) (x2 : Int32) (hr1 : r1 < 6) (σ : mm_M) (rv : Int32) (σ1 : mm_M) (hf : fx_X0_isBlocked r1 x2 σ = some (rv, σ1)) : Met l yX0_isBlocked (Cond.code yX0_isBlocked cX0_isBlocked 4 (some .boolean) :: tb) (mm_rm 1 22) (mm_pre D ad cA [.ref (ad 7 16 0), .ref (ad r1 0 0), .int x2] σ) (mm_Q D ad cA (some (.int rv)) σ1) 0 0 (mm_AS ad) := by
  refine mm_start (by decide +kernel) hI (Nat.le_of_ble_eq_true rfl) ?_
  intro p e s m args below meth c X hP ls hl
  have hl : lv_has ls 4 [(0, .ref (ad 7 16 0)), (1, .ref (ad r1 0 0)), (2, .int x2)] := hl
  have hx := X.1
  have hb := X.2.1
  have hS : va_S (mm_AS ad) s.heap s.heap [] := va_S.rf
  have hgen : ∀ (H : Heap) (locs : List Loc), va_P D vwCl (mm_wd ad cA σ) H → va_S (mm_AS ad) s.heap H locs → W p l e (mm_rm 1 22) s m args below meth c H locs 0 0 (MQ below (mm_Q D ad cA (some (.int rv)) σ1) args s 0 0 (mm_AS ad)) (F0 m 0 ls []) := by
    intro H locs hP hS
    rw [fx_X0_isBlocked] at hf
    refine lv_aload_n hx hb dX0_isBlocked_0 rfl (lv_at hl 1 rfl) ?_
    refine lv_aload_n hx hb dX0_isBlocked_1 rfl (lv_at hl 0 rfl) ?_
    refine gf_16_1 X hP  wd_193 dX0_isBlocked_2 ?_
    refine lv_iload_n hx hb dX0_isBlocked_5 rfl (lv_at hl 2 rfl) ?_
    obtain ⟨h_1, hf⟩ := mm_gd_ok hf
    refine al_18 X hP  h_1 dX0_isBlocked_6 ?_
    obtain ⟨r_2, s_2, e_2, hf⟩ := mm_bd_ok hf
    refine mm_callV X hP hS hl.1 [.int (σ 7 18 0 x2.toNatClampNeg)] [] (cx_X8_cartOn l D ad cA hI r1 (σ 7 18 0 x2.toNatClampNeg) hr1 σ r_2 s_2 e_2) (mm_kr r1 hr1 0 (by decide)) rfl rfl wd_634 wd_380 wd_381 wd_2 wd_382 hd_X8_cartOn ⟨Nat.le_of_ble_eq_true rfl, Nat.le_of_ble_eq_true rfl⟩ rfl (Nat.le_of_ble_eq_true rfl) dX0_isBlocked_7 (fun H locs hP hS => ?_)
    refine lv_istore_n (lv' := [(3, .int r_2), (0, .ref (ad 7 16 0)), (1, .ref (ad r1 0 0)), (2, .int x2)]) hx hb dX0_isBlocked_10 rfl hl (by decide) rfl (fun ls hl => ?_)
    refine lv_iload_n hx hb dX0_isBlocked_11 rfl (lv_at hl 0 rfl) ?_
    refine lv_iconst (v := (-1 : Int32)) hx hb dX0_isBlocked_12 (by decide) ?_
    refine lv_icmp_eq (tgt := 29) hx hb dX0_isBlocked_13 (by decide) (fun c_3 => ?_) (fun c_3 => ?_)
    · replace hf := mm_it c_3 hf
      refine lv_iconst (v := (0 : Int32)) hx hb dX0_isBlocked_29 (by decide) ?_
      obtain ⟨rfl, rfl⟩ := mm_ret hf
      exact mm_zret (Or.inl rfl) X hP hS dX0_isBlocked_30
    · replace hf := mm_if c_3 hf
      refine lv_aload_n hx hb dX0_isBlocked_16 rfl (lv_at hl 1 rfl) ?_
      refine gf_16_2 X hP  wd_194 dX0_isBlocked_17 ?_
      refine lv_iload_n hx hb dX0_isBlocked_20 rfl (lv_at hl 0 rfl) ?_
      obtain ⟨h_4, hf⟩ := mm_gd_ok hf
      refine al_19 X hP  h_4 dX0_isBlocked_21 ?_
      refine lv_if_ne (tgt := 29) hx hb dX0_isBlocked_22 (by decide) (fun c_5 => ?_) (fun c_5 => ?_)
      · replace hf := mm_if c_5 hf
        refine lv_iconst (v := (0 : Int32)) hx hb dX0_isBlocked_29 (by decide) ?_
        obtain ⟨rfl, rfl⟩ := mm_ret hf
        exact mm_zret (Or.inl rfl) X hP hS dX0_isBlocked_30
      · replace hf := mm_it c_5 hf
        refine lv_iconst (v := (1 : Int32)) hx hb dX0_isBlocked_25 (by decide) ?_
        refine lv_goto (tgt := 30) hx hb dX0_isBlocked_26 (by decide) ?_
        obtain ⟨rfl, rfl⟩ := mm_ret hf
        exact mm_zret (Or.inr rfl) X hP hS dX0_isBlocked_30
  exact hgen _ _ hP hS
