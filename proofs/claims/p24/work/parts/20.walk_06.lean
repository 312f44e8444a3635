def fx_X10_count (x1 : Int32) (σ : mm_M) : mm_R := if x1 = (0 : Int32) then some (σ 0 0 0 2, σ) else if x1 = (1 : Int32) then some (σ 0 0 0 3, σ) else if x1 = (2 : Int32) then some (σ 0 0 0 4, σ) else if x1 = (3 : Int32) then some (σ 0 1 0 3, σ) else if x1 = (4 : Int32) then mm_bd (fx_X8_cartsOut 0 σ) fun r_6 s_6 => (some (r_6, s_6)) else if x1 = (5 : Int32) then if (σ 0 0 0 7) = (-1 : Int32) then some ((-1000004 : Int32), σ) else some (σ 0 0 0 7, σ) else if x1 = (6 : Int32) then some (σ 0 0 0 5, σ) else if x1 = (7 : Int32) then some (σ 6 10 0 1, σ) else if x1 = (8 : Int32) then some (σ 8 23 0 1, σ) else if x1 = (9 : Int32) then some (σ 0 0 0 6, σ) else some ((-1000001 : Int32), σ)
set_option maxHeartbeats 4000000 in
set_option maxRecDepth 100000 in
theorem cx_X10_count (l : Launch) (D : va_G) (ad : mm_A) (cA : Nat → ClassId) (hI : mm_Inj ad) (x1 : Int32)  (σ : mm_M) (rv : Int32) (σ1 : mm_M) (hf : fx_X10_count x1 σ = some (rv, σ1)) : Met l yX10_count (Cond.code yX10_count cX10_count 2 (some .int) :: tb) (mm_rm 2 42) (mm_pre D ad cA [.ref (ad 6 9 0), .int x1] σ) (mm_Q D ad cA (some (.int rv)) σ1) 0 0 (mm_AS ad) := by
  refine mm_start (by decide +kernel) hI (Nat.le_of_ble_eq_true rfl) ?_
  intro p e s m args below meth c X hP ls hl
  have hl : lv_has ls 2 [(0, .ref (ad 6 9 0)), (1, .int x1)] := hl
  have hx := X.1
  have hb := X.2.1
  have hS : va_S (mm_AS ad) s.heap s.heap [] := va_S.rf
  have hgen : ∀ (H : Heap) (locs : List Loc), va_P D vwCl (mm_wd ad cA σ) H → va_S (mm_AS ad) s.heap H locs → W p l e (mm_rm 2 42) s m args below meth c H locs 0 0 (MQ below (mm_Q D ad cA (some (.int rv)) σ1) args s 0 0 (mm_AS ad)) (F0 m 0 ls []) := by
    intro H locs hP hS
    rw [fx_X10_count] at hf
    refine lv_iload_n hx hb dX10_count_0 rfl (lv_at hl 1 rfl) ?_
    by_cases c_1 : x1 = (0 : Int32)
    · replace hf := mm_it c_1 hf
      refine mm_tabIn (off := 55) (tgt := 56) X (0 : Int32) c_1 dX10_count_1 (by decide +kernel) (by decide +kernel) (by decide) ?_
      refine lv_aload_n hx hb dX10_count_56 rfl (lv_at hl 0 rfl) ?_
      refine gf_9_0 X hP  wd_283 dX10_count_57 ?_
      refine gf_0_2 X hP (by decide) wd_118 dX10_count_60 ?_
      obtain ⟨rfl, rfl⟩ := mm_ret hf
      exact mm_iret X hP hS dX10_count_63
    replace hf := mm_if c_1 hf
    by_cases c_2 : x1 = (1 : Int32)
    · replace hf := mm_it c_2 hf
      refine mm_tabIn (off := 63) (tgt := 64) X (1 : Int32) c_2 dX10_count_1 (by decide +kernel) (by decide +kernel) (by decide) ?_
      refine lv_aload_n hx hb dX10_count_64 rfl (lv_at hl 0 rfl) ?_
      refine gf_9_0 X hP  wd_283 dX10_count_65 ?_
      refine gf_0_3 X hP (by decide) wd_122 dX10_count_68 ?_
      obtain ⟨rfl, rfl⟩ := mm_ret hf
      exact mm_iret X hP hS dX10_count_71
    replace hf := mm_if c_2 hf
    by_cases c_3 : x1 = (2 : Int32)
    · replace hf := mm_it c_3 hf
      refine mm_tabIn (off := 71) (tgt := 72) X (2 : Int32) c_3 dX10_count_1 (by decide +kernel) (by decide +kernel) (by decide) ?_
      refine lv_aload_n hx hb dX10_count_72 rfl (lv_at hl 0 rfl) ?_
      refine gf_9_0 X hP  wd_283 dX10_count_73 ?_
      refine gf_0_4 X hP (by decide) wd_124 dX10_count_76 ?_
      obtain ⟨rfl, rfl⟩ := mm_ret hf
      exact mm_iret X hP hS dX10_count_79
    replace hf := mm_if c_3 hf
    by_cases c_4 : x1 = (3 : Int32)
    · replace hf := mm_it c_4 hf
      refine mm_tabIn (off := 79) (tgt := 80) X (3 : Int32) c_4 dX10_count_1 (by decide +kernel) (by decide +kernel) (by decide) ?_
      refine lv_aload_n hx hb dX10_count_80 rfl (lv_at hl 0 rfl) ?_
      refine gf_9_0 X hP  wd_283 dX10_count_81 ?_
      refine gf_0_0 X hP (by decide) wd_109 dX10_count_84 ?_
      refine gf_1_3 X hP (by decide) wd_44 dX10_count_87 ?_
      obtain ⟨rfl, rfl⟩ := mm_ret hf
      exact mm_iret X hP hS dX10_count_90
    replace hf := mm_if c_4 hf
    by_cases c_5 : x1 = (4 : Int32)
    · replace hf := mm_it c_5 hf
      refine mm_tabIn (off := 90) (tgt := 91) X (4 : Int32) c_5 dX10_count_1 (by decide +kernel) (by decide +kernel) (by decide) ?_
      refine lv_aload_n hx hb dX10_count_91 rfl (lv_at hl 0 rfl) ?_
      refine gf_9_0 X hP  wd_283 dX10_count_92 ?_
      obtain ⟨r_6, s_6, e_6, hf⟩ := mm_bd_ok hf
      refine mm_callV X hP hS hl.1 [] [] (cx_X8_cartsOut l D ad cA hI 0 (by decide) σ r_6 s_6 e_6) (mm_kr 0 (by decide) 0 (by decide)) rfl rfl wd_309 wd_310 wd_311 wd_2 wd_312 hd_X8_cartsOut ⟨Nat.le_of_ble_eq_true rfl, Nat.le_of_ble_eq_true rfl⟩ rfl (Nat.le_of_ble_eq_true rfl) dX10_count_95 (fun H locs hP hS => ?_)
      obtain ⟨rfl, rfl⟩ := mm_ret hf
      exact mm_iret X hP hS dX10_count_98
    replace hf := mm_if c_5 hf
    by_cases c_7 : x1 = (5 : Int32)
    · replace hf := mm_it c_7 hf
      refine mm_tabIn (off := 98) (tgt := 99) X (5 : Int32) c_7 dX10_count_1 (by decide +kernel) (by decide +kernel) (by decide) ?_
      refine lv_aload_n hx hb dX10_count_99 rfl (lv_at hl 0 rfl) ?_
      refine gf_9_0 X hP  wd_283 dX10_count_100 ?_
      refine gf_0_7 X hP (by decide) wd_131 dX10_count_103 ?_
      refine lv_iconst (v := (-1 : Int32)) hx hb dX10_count_106 (by decide) ?_
      refine lv_icmp_ne (tgt := 115) hx hb dX10_count_107 (by decide) (fun c_8 => ?_) (fun c_8 => ?_)
      · replace hf := mm_if c_8 hf
        refine lv_aload_n hx hb dX10_count_115 rfl (lv_at hl 0 rfl) ?_
        refine gf_9_0 X hP  wd_283 dX10_count_116 ?_
        refine gf_0_7 X hP (by decide) wd_131 dX10_count_119 ?_
        obtain ⟨rfl, rfl⟩ := mm_ret hf
        exact mm_iret X hP hS dX10_count_122
      · replace hf := mm_it c_8 hf
        refine lv_ldc (v := (-1000004 : Int32)) hx hb X.2.2.2.2.2.1 (X.2.2.2.2.2.2.1 _ wd_317) dX10_count_110 ?_
        refine lv_goto (tgt := 122) hx hb dX10_count_112 (by decide) ?_
        obtain ⟨rfl, rfl⟩ := mm_ret hf
        exact mm_iret X hP hS dX10_count_122
    replace hf := mm_if c_7 hf
    by_cases c_9 : x1 = (6 : Int32)
    · replace hf := mm_it c_9 hf
      refine mm_tabIn (off := 122) (tgt := 123) X (6 : Int32) c_9 dX10_count_1 (by decide +kernel) (by decide +kernel) (by decide) ?_
      refine lv_aload_n hx hb dX10_count_123 rfl (lv_at hl 0 rfl) ?_
      refine gf_9_0 X hP  wd_283 dX10_count_124 ?_
      refine gf_0_5 X hP (by decide) wd_126 dX10_count_127 ?_
      obtain ⟨rfl, rfl⟩ := mm_ret hf
      exact mm_iret X hP hS dX10_count_130
    replace hf := mm_if c_9 hf
    by_cases c_10 : x1 = (7 : Int32)
    · replace hf := mm_it c_10 hf
      refine mm_tabIn (off := 130) (tgt := 131) X (7 : Int32) c_10 dX10_count_1 (by decide +kernel) (by decide +kernel) (by decide) ?_
      refine lv_aload_n hx hb dX10_count_131 rfl (lv_at hl 0 rfl) ?_
      refine gf_9_2 X hP  wd_285 dX10_count_132 ?_
      refine gf_10_1 X hP  wd_160 dX10_count_135 ?_
      obtain ⟨rfl, rfl⟩ := mm_ret hf
      exact mm_iret X hP hS dX10_count_138
    replace hf := mm_if c_10 hf
    by_cases c_11 : x1 = (8 : Int32)
    · replace hf := mm_it c_11 hf
      refine mm_tabIn (off := 138) (tgt := 139) X (8 : Int32) c_11 dX10_count_1 (by decide +kernel) (by decide +kernel) (by decide) ?_
      refine lv_aload_n hx hb dX10_count_139 rfl (lv_at hl 0 rfl) ?_
      refine gf_9_5 X hP  wd_288 dX10_count_140 ?_
      refine gf_23_1 X hP  wd_235 dX10_count_143 ?_
      obtain ⟨rfl, rfl⟩ := mm_ret hf
      exact mm_iret X hP hS dX10_count_146
    replace hf := mm_if c_11 hf
    by_cases c_12 : x1 = (9 : Int32)
    · replace hf := mm_it c_12 hf
      refine mm_tabIn (off := 146) (tgt := 147) X (9 : Int32) c_12 dX10_count_1 (by decide +kernel) (by decide +kernel) (by decide) ?_
      refine lv_aload_n hx hb dX10_count_147 rfl (lv_at hl 0 rfl) ?_
      refine gf_9_0 X hP  wd_283 dX10_count_148 ?_
      refine gf_0_6 X hP (by decide) wd_129 dX10_count_151 ?_
      obtain ⟨rfl, rfl⟩ := mm_ret hf
      exact mm_iret X hP hS dX10_count_154
    replace hf := mm_if c_12 hf
    refine lv_tableOut (tgt := 155) hx hb dX10_count_1 (by have q_1 := lv_neT c_1 (a := 0) (by decide); have q_2 := lv_neT c_2 (a := 1) (by decide); have q_3 := lv_neT c_3 (a := 2) (by decide); have q_4 := lv_neT c_4 (a := 3) (by decide); have q_5 := lv_neT c_5 (a := 4) (by decide); have q_7 := lv_neT c_7 (a := 5) (by decide); have q_9 := lv_neT c_9 (a := 6) (by decide); have q_10 := lv_neT c_10 (a := 7) (by decide); have q_11 := lv_neT c_11 (a := 8) (by decide); have q_12 := lv_neT c_12 (a := 9) (by decide); omega) (by decide) ?_
    refine lv_ldc (v := (-1000001 : Int32)) hx hb X.2.2.2.2.2.1 (X.2.2.2.2.2.2.1 _ wd_318) dX10_count_155 ?_
    obtain ⟨rfl, rfl⟩ := mm_ret hf
    exact mm_iret X hP hS dX10_count_157
  exact hgen _ _ hP hS
def fx_X4_restore (r1 : Nat) (σ : mm_M) : mm_R := if (σ 6 10 0 1) ≤ (0 : Int32) then some (0, σ) else mm_lt (mm_u σ 6 10 0 1 ((σ 6 10 0 1) - (1 : Int32))) fun s_2 => (mm_gd (mm_ix (s_2 6 10 0 1) 4 = true) (mm_gd ((s_2 6 11 0 (s_2 6 10 0 1).toNatClampNeg).toNatClampNeg < 6) (mm_bd (fx_X8_copyFrom r1 ((s_2 6 11 0 (s_2 6 10 0 1).toNatClampNeg).toNatClampNeg) s_2) fun _ s_5 => (some (0, s_5)))))
set_option maxHeartbeats 4000000 in
set_option maxRecDepth 100000 in
theorem cx_X4_restore (l : Launch) (D : va_G) (ad : mm_A) (cA : Nat → ClassId) (hI : mm_Inj ad) (r1 : Nat) (hr1 : r1 < 6) (σ : mm_M) (rv : Int32) (σ1 : mm_M) (hf : fx_X4_restore r1 σ = some (rv, σ1)) : Met l yX4_restore (Cond.code yX4_restore cX4_restore 2 none :: tb) (mm_rm 3 61) (mm_pre D ad cA [.ref (ad 6 10 0), .ref (ad r1 0 0)] σ) (mm_Q D ad cA none σ1) 0 0 (mm_AS ad) := by
  refine mm_start (by decide +kernel) hI (Nat.le_of_ble_eq_true rfl) ?_
  intro p e s m args below meth c X hP ls hl
  have hl : lv_has ls 2 [(0, .ref (ad 6 10 0)), (1, .ref (ad r1 0 0))] := hl
  have hx := X.1
  have hb := X.2.1
  have hS : va_S (mm_AS ad) s.heap s.heap [] := va_S.rf
  have hgen : ∀ (H : Heap) (locs : List Loc), va_P D vwCl (mm_wd ad cA σ) H → va_S (mm_AS ad) s.heap H locs → W p l e (mm_rm 3 61) s m args below meth c H locs 0 0 (MQ below (mm_Q D ad cA none σ1) args s 0 0 (mm_AS ad)) (F0 m 0 ls []) := by
    intro H locs hP hS
    rw [fx_X4_restore] at hf
    refine lv_aload_n hx hb dX4_restore_0 rfl (lv_at hl 0 rfl) ?_
    refine gf_10_1 X hP  wd_159 dX4_restore_1 ?_
    refine lv_if_le (tgt := 30) hx hb dX4_restore_4 (by decide) (fun c_1 => ?_) (fun c_1 => ?_)
    · replace hf := mm_it c_1 hf
      obtain ⟨rfl, rfl⟩ := mm_ret hf
      exact mm_vret X hP hS dX4_restore_30
    · replace hf := mm_if c_1 hf
      refine lv_aload_n hx hb dX4_restore_7 rfl (lv_at hl 0 rfl) ?_
      refine lv_dup hx hb dX4_restore_8 rfl ?_
      refine gf_10_1 X hP  wd_159 dX4_restore_9 ?_
      refine lv_iconst (v := (1 : Int32)) hx hb dX4_restore_12 (by decide) ?_
      refine lv_isub hx hb dX4_restore_13 ?_
      refine pf_10_1 X hP hS  wd_159  dX4_restore_14 (fun H locs hP hS => ?_)
      obtain ⟨s_2, e_2, hf⟩ := mm_lt_ok hf
      rw [← e_2] at hP
      refine lv_aload_n hx hb dX4_restore_17 rfl (lv_at hl 1 rfl) ?_
      refine lv_aload_n hx hb dX4_restore_18 rfl (lv_at hl 0 rfl) ?_
      refine gf_10_0 X hP  wd_158 dX4_restore_19 ?_
      refine lv_aload_n hx hb dX4_restore_22 rfl (lv_at hl 0 rfl) ?_
      refine gf_10_1 X hP  wd_159 dX4_restore_23 ?_
      obtain ⟨h_3, hf⟩ := mm_gd_ok hf
      refine mm_state X hP h_3 dX4_restore_26 ?_
      obtain ⟨h_4, hf⟩ := mm_gd_ok hf
      obtain ⟨r_5, s_5, e_5, hf⟩ := mm_bd_ok hf
      refine mm_callV X hP hS hl.1 [.ref (ad ((s_2 6 11 0 (s_2 6 10 0 1).toNatClampNeg).toNatClampNeg) 0 0)] [] (cx_X8_copyFrom l D ad cA hI r1 ((s_2 6 11 0 (s_2 6 10 0 1).toNatClampNeg).toNatClampNeg) hr1 h_4 s_2 r_5 s_5 e_5) (mm_kr r1 hr1 0 (by decide)) rfl rfl wd_328 wd_329 wd_330 wd_2 wd_331 hd_X8_copyFrom ⟨Nat.le_of_ble_eq_true rfl, Nat.le_of_ble_eq_true rfl⟩ rfl (Nat.le_of_ble_eq_true rfl) dX4_restore_27 (fun H locs hP hS => ?_)
      obtain ⟨rfl, rfl⟩ := mm_ret hf
      exact mm_vret X hP hS dX4_restore_30
  exact hgen _ _ hP hS
def fx_X10_undo  (σ : mm_M) : mm_R := if (σ 6 10 0 1) = (0 : Int32) then some ((-1000002 : Int32), σ) else mm_bd (fx_X4_restore 0 σ) fun _ s_2 => (some (s_2 6 10 0 1, s_2))
set_option maxHeartbeats 4000000 in
set_option maxRecDepth 100000 in
theorem cx_X10_undo (l : Launch) (D : va_G) (ad : mm_A) (cA : Nat → ClassId) (hI : mm_Inj ad)   (σ : mm_M) (rv : Int32) (σ1 : mm_M) (hf : fx_X10_undo  σ = some (rv, σ1)) : Met l yX10_undo (Cond.code yX10_undo cX10_undo 1 (some .int) :: tb) (mm_rm 4 82) (mm_pre D ad cA [.ref (ad 6 9 0)] σ) (mm_Q D ad cA (some (.int rv)) σ1) 0 0 (mm_AS ad) := by
  refine mm_start (by decide +kernel) hI (Nat.le_of_ble_eq_true rfl) ?_
  intro p e s m args below meth c X hP ls hl
  have hl : lv_has ls 1 [(0, .ref (ad 6 9 0))] := hl
  have hx := X.1
  have hb := X.2.1
  have hS : va_S (mm_AS ad) s.heap s.heap [] := va_S.rf
  have hgen : ∀ (H : Heap) (locs : List Loc), va_P D vwCl (mm_wd ad cA σ) H → va_S (mm_AS ad) s.heap H locs → W p l e (mm_rm 4 82) s m args below meth c H locs 0 0 (MQ below (mm_Q D ad cA (some (.int rv)) σ1) args s 0 0 (mm_AS ad)) (F0 m 0 ls []) := by
    intro H locs hP hS
    rw [fx_X10_undo] at hf
    refine lv_aload_n hx hb dX10_undo_0 rfl (lv_at hl 0 rfl) ?_
    refine gf_9_2 X hP  wd_285 dX10_undo_1 ?_
    refine gf_10_1 X hP  wd_160 dX10_undo_4 ?_
    refine lv_if_ne (tgt := 13) hx hb dX10_undo_7 (by decide) (fun c_1 => ?_) (fun c_1 => ?_)
    · replace hf := mm_if c_1 hf
      refine lv_aload_n hx hb dX10_undo_13 rfl (lv_at hl 0 rfl) ?_
      refine gf_9_2 X hP  wd_285 dX10_undo_14 ?_
      refine lv_aload_n hx hb dX10_undo_17 rfl (lv_at hl 0 rfl) ?_
      refine gf_9_0 X hP  wd_283 dX10_undo_18 ?_
      obtain ⟨r_2, s_2, e_2, hf⟩ := mm_bd_ok hf
      refine mm_callV X hP hS hl.1 [.ref (ad 0 0 0)] [] (cx_X4_restore l D ad cA hI 0 (by decide) σ r_2 s_2 e_2) kp_10 rfl rfl wd_324 wd_325 wd_326 wd_5 wd_327 hd_X4_restore ⟨Nat.le_of_ble_eq_true rfl, Nat.le_of_ble_eq_true rfl⟩ rfl (Nat.le_of_ble_eq_true rfl) dX10_undo_21 (fun H locs hP hS => ?_)
      refine lv_aload_n hx hb dX10_undo_24 rfl (lv_at hl 0 rfl) ?_
      refine gf_9_2 X hP  wd_285 dX10_undo_25 ?_
      refine gf_10_1 X hP  wd_160 dX10_undo_28 ?_
      obtain ⟨rfl, rfl⟩ := mm_ret hf
      exact mm_iret X hP hS dX10_undo_31
    · replace hf := mm_it c_1 hf
      refine lv_ldc (v := (-1000002 : Int32)) hx hb X.2.2.2.2.2.1 (X.2.2.2.2.2.2.1 _ wd_323) dX10_undo_10 ?_
      obtain ⟨rfl, rfl⟩ := mm_ret hf
      exact mm_iret X hP hS dX10_undo_12
  exact hgen _ _ hP hS
def fx_X6_append (x1 : Int32) (σ : mm_M) : mm_R := if (σ 8 23 0 1) < (60 : Int32) then mm_gd (mm_ix (σ 8 23 0 1) 60 = true) (mm_gd (0 ≤ x1 ∧ x1 < 65536) (mm_lt (mm_u σ 8 24 0 (σ 8 23 0 1).toNatClampNeg x1) fun s_4 => (mm_lt (mm_u s_4 8 23 0 1 ((s_4 8 23 0 1) + (1 : Int32))) fun s_5 => (some (s_5 8 23 0 1, s_5))))) else some ((-1000003 : Int32), σ)
set_option maxHeartbeats 4000000 in
set_option maxRecDepth 100000 in
theorem cx_X6_append (l : Launch) (D : va_G) (ad : mm_A) (cA : Nat → ClassId) (hI : mm_Inj ad) (x1 : Int32)  (σ : mm_M) (rv : Int32) (σ1 : mm_M) (hf : fx_X6_append x1 σ = some (rv, σ1)) : Met l yX6_append (Cond.code yX6_append cX6_append 2 (some .int) :: tb) (mm_rm 0 0) (mm_pre D ad cA [.ref (ad 8 23 0), .int x1] σ) (mm_Q D ad cA (some (.int rv)) σ1) 0 0 (mm_AS ad) := by
  refine mm_start (by decide +kernel) hI (Nat.le_of_ble_eq_true rfl) ?_
  intro p e s m args below meth c X hP ls hl
  have hl : lv_has ls 2 [(0, .ref (ad 8 23 0)), (1, .int x1)] := hl
  have hx := X.1
  have hb := X.2.1
  have hS : va_S (mm_AS ad) s.heap s.heap [] := va_S.rf
  have hgen : ∀ (H : Heap) (locs : List Loc), va_P D vwCl (mm_wd ad cA σ) H → va_S (mm_AS ad) s.heap H locs → W p l e (mm_rm 0 0) s m args below meth c H locs 0 0 (MQ below (mm_Q D ad cA (some (.int rv)) σ1) args s 0 0 (mm_AS ad)) (F0 m 0 ls []) := by
    intro H locs hP hS
    rw [fx_X6_append] at hf
    refine lv_aload_n hx hb dX6_append_0 rfl (lv_at hl 0 rfl) ?_
    refine gf_23_1 X hP  wd_233 dX6_append_1 ?_
    refine lv_bipush (v := (60 : Int32)) hx hb dX6_append_4 (by decide) ?_
    refine lv_icmp_lt (tgt := 12) hx hb dX6_append_6 (by decide) (fun c_1 => ?_) (fun c_1 => ?_)
    · replace hf := mm_it c_1 hf
      refine lv_aload_n hx hb dX6_append_12 rfl (lv_at hl 0 rfl) ?_
      refine gf_23_0 X hP  wd_232 dX6_append_13 ?_
      refine lv_aload_n hx hb dX6_append_16 rfl (lv_at hl 0 rfl) ?_
      refine gf_23_1 X hP  wd_233 dX6_append_17 ?_
      refine lv_iload_n hx hb dX6_append_20 rfl (lv_at hl 1 rfl) ?_
      obtain ⟨h_2, hf⟩ := mm_gd_ok hf
      obtain ⟨h_3, hf⟩ := mm_gd_ok hf
      refine as_24 X hP hS  h_2 h_3 dX6_append_21 (fun H locs hP hS => ?_)
      obtain ⟨s_4, e_4, hf⟩ := mm_lt_ok hf
      rw [← e_4] at hP
      refine lv_aload_n hx hb dX6_append_22 rfl (lv_at hl 0 rfl) ?_
      refine lv_dup hx hb dX6_append_23 rfl ?_
      refine gf_23_1 X hP  wd_233 dX6_append_24 ?_
      refine lv_iconst (v := (1 : Int32)) hx hb dX6_append_27 (by decide) ?_
      refine lv_iadd hx hb dX6_append_28 ?_
      refine pf_23_1 X hP hS  wd_233  dX6_append_29 (fun H locs hP hS => ?_)
      obtain ⟨s_5, e_5, hf⟩ := mm_lt_ok hf
      rw [← e_5] at hP
      refine lv_aload_n hx hb dX6_append_32 rfl (lv_at hl 0 rfl) ?_
      refine gf_23_1 X hP  wd_233 dX6_append_33 ?_
      obtain ⟨rfl, rfl⟩ := mm_ret hf
      exact mm_iret X hP hS dX6_append_36
    · replace hf := mm_if c_1 hf
      refine lv_ldc (v := (-1000003 : Int32)) hx hb X.2.2.2.2.2.1 (X.2.2.2.2.2.2.1 _ wd_736) dX6_append_9 ?_
      obtain ⟨rfl, rfl⟩ := mm_ret hf
      exact mm_iret X hP hS dX6_append_11
  exact hgen _ _ hP hS
def fx_X10_type (x1 : Int32) (σ : mm_M) : mm_R := mm_bd (fx_X10_isWithin x1 (32 : Int32) (126 : Int32) σ) fun r_1 s_1 => (if r_1 = (0 : Int32) then some ((-1000001 : Int32), s_1) else mm_bd (fx_X6_append ((x1.toUInt32 % 65536).toInt32) s_1) fun r_3 s_3 => (some (r_3, s_3)))
set_option maxHeartbeats 4000000 in
set_option maxRecDepth 100000 in
theorem cx_X10_type (l : Launch) (D : va_G) (ad : mm_A) (cA : Nat → ClassId) (hI : mm_Inj ad) (x1 : Int32)  (σ : mm_M) (rv : Int32) (σ1 : mm_M) (hf : fx_X10_type x1 σ = some (rv, σ1)) : Met l yX10_type (Cond.code yX10_type cX10_type 2 (some .int) :: tb) (mm_rm 1 22) (mm_pre D ad cA [.ref (ad 6 9 0), .int x1] σ) (mm_Q D ad cA (some (.int rv)) σ1) 0 0 (mm_AS ad) := by
  refine mm_start (by decide +kernel) hI (Nat.le_of_ble_eq_true rfl) ?_
  intro p e s m args below meth c X hP ls hl
  have hl : lv_has ls 2 [(0, .ref (ad 6 9 0)), (1, .int x1)] := hl
  have hx := X.1
  have hb := X.2.1
  have hS : va_S (mm_AS ad) s.heap s.heap [] := va_S.rf
  have hgen : ∀ (H : Heap) (locs : List Loc), va_P D vwCl (mm_wd ad cA σ) H → va_S (mm_AS ad) s.heap H locs → W p l e (mm_rm 1 22) s m args below meth c H locs 0 0 (MQ below (mm_Q D ad cA (some (.int rv)) σ1) args s 0 0 (mm_AS ad)) (F0 m 0 ls []) := by
    intro H locs hP hS
    rw [fx_X10_type] at hf
    refine lv_iload_n hx hb dX10_type_0 rfl (lv_at hl 1 rfl) ?_
    refine lv_bipush (v := (32 : Int32)) hx hb dX10_type_1 (by decide) ?_
    refine lv_bipush (v := (126 : Int32)) hx hb dX10_type_3 (by decide) ?_
    obtain ⟨r_1, s_1, e_1, hf⟩ := mm_bd_ok hf
    refine mm_callS X hP hS hl.1 [.int x1, .int (32 : Int32), .int (126 : Int32)] [] (cx_X10_isWithin l D ad cA hI x1 (32 : Int32) (126 : Int32) σ r_1 s_1 e_1) wd_364 wd_365 wd_1 wd_366 hd_X10_isWithin ⟨Nat.le_of_ble_eq_true rfl, Nat.le_of_ble_eq_true rfl⟩ rfl (Nat.le_of_ble_eq_true rfl) dX10_type_5 (fun H locs hP hS => ?_)
    refine lv_if_ne (tgt := 14) hx hb dX10_type_8 (by decide) (fun c_2 => ?_) (fun c_2 => ?_)
    · replace hf := mm_if c_2 hf
      refine lv_aload_n hx hb dX10_type_14 rfl (lv_at hl 0 rfl) ?_
      refine gf_9_5 X hP  wd_288 dX10_type_15 ?_
      refine lv_iload_n hx hb dX10_type_18 rfl (lv_at hl 1 rfl) ?_
      refine lv_i2c hx hb dX10_type_19 rfl ?_
      obtain ⟨r_3, s_3, e_3, hf⟩ := mm_bd_ok hf
      refine mm_callV X hP hS hl.1 [.int ((x1.toUInt32 % 65536).toInt32)] [] (cx_X6_append l D ad cA hI ((x1.toUInt32 % 65536).toInt32) s_1 r_3 s_3 e_3) kp_23 rfl rfl wd_732 wd_733 wd_734 wd_10 wd_735 hd_X6_append ⟨Nat.le_of_ble_eq_true rfl, Nat.le_of_ble_eq_true rfl⟩ rfl (Nat.le_of_ble_eq_true rfl) dX10_type_20 (fun H locs hP hS => ?_)
      obtain ⟨rfl, rfl⟩ := mm_ret hf
      exact mm_iret X hP hS dX10_type_23
    · replace hf := mm_it c_2 hf
      refine lv_ldc (v := (-1000001 : Int32)) hx hb X.2.2.2.2.2.1 (X.2.2.2.2.2.2.1 _ wd_318) dX10_type_11 ?_
      obtain ⟨rfl, rfl⟩ := mm_ret hf
      exact mm_iret X hP hS dX10_type_13
  exact hgen _ _ hP hS
def fx_X10_clearText  (σ : mm_M) : mm_R := mm_li (σ 8 23 0 1) fun y_1 => (mm_lt (mm_u σ 8 23 0 1 (0 : Int32)) fun s_2 => (some (y_1, s_2)))
set_option maxHeartbeats 4000000 in
set_option maxRecDepth 100000 in
theorem cx_X10_clearText (l : Launch) (D : va_G) (ad : mm_A) (cA : Nat → ClassId) (hI : mm_Inj ad)   (σ : mm_M) (rv : Int32) (σ1 : mm_M) (hf : fx_X10_clearText  σ = some (rv, σ1)) : Met l yX10_clearText (Cond.code yX10_clearText cX10_clearText 2 (some .int) :: tb) (mm_rm 0 0) (mm_pre D ad cA [.ref (ad 6 9 0)] σ) (mm_Q D ad cA (some (.int rv)) σ1) 0 0 (mm_AS ad) := by
  refine mm_start (by decide +kernel) hI (Nat.le_of_ble_eq_true rfl) ?_
  intro p e s m args below meth c X hP ls hl
  have hl : lv_has ls 2 [(0, .ref (ad 6 9 0))] := hl
  have hx := X.1
  have hb := X.2.1
  have hS : va_S (mm_AS ad) s.heap s.heap [] := va_S.rf
  have hgen : ∀ (H : Heap) (locs : List Loc), va_P D vwCl (mm_wd ad cA σ) H → va_S (mm_AS ad) s.heap H locs → W p l e (mm_rm 0 0) s m args below meth c H locs 0 0 (MQ below (mm_Q D ad cA (some (.int rv)) σ1) args s 0 0 (mm_AS ad)) (F0 m 0 ls []) := by
    intro H locs hP hS
    rw [fx_X10_clearText] at hf
    refine lv_aload_n hx hb dX10_clearText_0 rfl (lv_at hl 0 rfl) ?_
    refine gf_9_5 X hP  wd_288 dX10_clearText_1 ?_
    refine gf_23_1 X hP  wd_235 dX10_clearText_4 ?_
    obtain ⟨y_1, e_1, hf⟩ := mm_li_ok hf
    rw [← e_1]
    refine lv_istore_n (lv' := [(1, .int y_1), (0, .ref (ad 6 9 0))]) hx hb dX10_clearText_7 rfl hl (by decide) rfl (fun ls hl => ?_)
    refine lv_aload_n hx hb dX10_clearText_8 rfl (lv_at hl 1 rfl) ?_
    refine gf_9_5 X hP  wd_288 dX10_clearText_9 ?_
    refine lv_iconst (v := (0 : Int32)) hx hb dX10_clearText_12 (by decide) ?_
    refine pf_23_1 X hP hS  wd_235  dX10_clearText_13 (fun H locs hP hS => ?_)
    obtain ⟨s_2, e_2, hf⟩ := mm_lt_ok hf
    rw [← e_2] at hP
    refine lv_iload_n hx hb dX10_clearText_16 rfl (lv_at hl 0 rfl) ?_
    obtain ⟨rfl, rfl⟩ := mm_ret hf
    exact mm_iret X hP hS dX10_clearText_17
  exact hgen _ _ hP hS
def fx_X5_isFaulty  (σ : mm_M) : mm_R := if (σ 9 26 0 4) = (0 : Int32) then some ((0 : Int32), σ) else some ((1 : Int32), σ)
set_option maxHeartbeats 4000000 in
set_option maxRecDepth 100000 in
theorem cx_X5_isFaulty (l : Launch) (D : va_G) (ad : mm_A) (cA : Nat → ClassId) (hI : mm_Inj ad)   (σ : mm_M) (rv : Int32) (σ1 : mm_M) (hf : fx_X5_isFaulty  σ = some (rv, σ1)) : Met l yX5_isFaulty (Cond.code yX5_isFaulty cX5_isFaulty 1 (some .boolean) :: tb) (mm_rm 0 0) (mm_pre D ad cA [.ref (ad 9 26 0)] σ) (mm_Q D ad cA (some (.int rv)) σ1) 0 0 (mm_AS ad) := by
  refine mm_start (by decide +kernel) hI (Nat.le_of_ble_eq_true rfl) ?_
  intro p e s m args below meth c X hP ls hl
  have hl : lv_has ls 1 [(0, .ref (ad 9 26 0))] := hl
  have hx := X.1
  have hb := X.2.1
  have hS : va_S (mm_AS ad) s.heap s.heap [] := va_S.rf
  have hgen : ∀ (H : Heap) (locs : List Loc), va_P D vwCl (mm_wd ad cA σ) H → va_S (mm_AS ad) s.heap H locs → W p l e (mm_rm 0 0) s m args below meth c H locs 0 0 (MQ below (mm_Q D ad cA (some (.int rv)) σ1) args s 0 0 (mm_AS ad)) (F0 m 0 ls []) := by
    intro H locs hP hS
    rw [fx_X5_isFaulty] at hf
    refine lv_aload_n hx hb dX5_isFaulty_0 rfl (lv_at hl 0 rfl) ?_
    refine gf_26_4 X hP  wd_266 dX5_isFaulty_1 ?_
    refine lv_if_eq (tgt := 11) hx hb dX5_isFaulty_4 (by decide) (fun c_1 => ?_) (fun c_1 => ?_)
    · replace hf := mm_it c_1 hf
      refine lv_iconst (v := (0 : Int32)) hx hb dX5_isFaulty_11 (by decide) ?_
      obtain ⟨rfl, rfl⟩ := mm_ret hf
      exact mm_zret (Or.inl rfl) X hP hS dX5_isFaulty_12
    · replace hf := mm_if c_1 hf
      refine lv_iconst (v := (1 : Int32)) hx hb dX5_isFaulty_7 (by decide) ?_
      refine lv_goto (tgt := 12) hx hb dX5_isFaulty_8 (by decide) ?_
      obtain ⟨rfl, rfl⟩ := mm_ret hf
      exact mm_zret (Or.inr rfl) X hP hS dX5_isFaulty_12
  exact hgen _ _ hP hS
def fx_X6_numbersBehind (x0 : Int32) (σ : mm_M) : mm_R := if x0 = (99 : Int32) then some ((2 : Int32), σ) else if x0 = (107 : Int32) then some ((2 : Int32), σ) else if x0 = (112 : Int32) then some ((4 : Int32), σ) else if x0 = (114 : Int32) then some ((0 : Int32), σ) else if x0 = (119 : Int32) then some ((2 : Int32), σ) else some ((-1 : Int32), σ)
set_option maxHeartbeats 4000000 in
set_option maxRecDepth 100000 in
theorem cx_X6_numbersBehind (l : Launch) (D : va_G) (ad : mm_A) (cA : Nat → ClassId) (hI : mm_Inj ad) (x0 : Int32)  (σ : mm_M) (rv : Int32) (σ1 : mm_M) (hf : fx_X6_numbersBehind x0 σ = some (rv, σ1)) : Met l yX6_numbersBehind (Cond.code yX6_numbersBehind cX6_numbersBehind 1 (some .int) :: tb) (mm_rm 0 0) (mm_pre D ad cA [.int x0] σ) (mm_Q D ad cA (some (.int rv)) σ1) 0 0 (mm_AS ad) := by
  refine mm_start (by decide +kernel) hI (Nat.le_of_ble_eq_true rfl) ?_
  intro p e s m args below meth c X hP ls hl
  have hl : lv_has ls 1 [(0, .int x0)] := hl
  have hx := X.1
  have hb := X.2.1
  have hS : va_S (mm_AS ad) s.heap s.heap [] := va_S.rf
  have hgen : ∀ (H : Heap) (locs : List Loc), va_P D vwCl (mm_wd ad cA σ) H → va_S (mm_AS ad) s.heap H locs → W p l e (mm_rm 0 0) s m args below meth c H locs 0 0 (MQ below (mm_Q D ad cA (some (.int rv)) σ1) args s 0 0 (mm_AS ad)) (F0 m 0 ls []) := by
    intro H locs hP hS
    rw [fx_X6_numbersBehind] at hf
    refine lv_iload_n hx hb dX6_numbersBehind_0 rfl (lv_at hl 0 rfl) ?_
    by_cases c_1 : x0 = (99 : Int32)
    · replace hf := mm_it c_1 hf
      refine lv_lookup (off := 51) (tgt := 52) hx hb dX6_numbersBehind_1 (by decide +kernel) (by rw [c_1]; decide +kernel) (by decide) ?_
      refine lv_iconst (v := (2 : Int32)) hx hb dX6_numbersBehind_52 (by decide) ?_
      obtain ⟨rfl, rfl⟩ := mm_ret hf
      exact mm_iret X hP hS dX6_numbersBehind_53
    replace hf := mm_if c_1 hf
    by_cases c_2 : x0 = (107 : Int32)
    · replace hf := mm_it c_2 hf
      refine lv_lookup (off := 51) (tgt := 52) hx hb dX6_numbersBehind_1 (by decide +kernel) (by rw [c_2]; decide +kernel) (by decide) ?_
      refine lv_iconst (v := (2 : Int32)) hx hb dX6_numbersBehind_52 (by decide) ?_
      obtain ⟨rfl, rfl⟩ := mm_ret hf
      exact mm_iret X hP hS dX6_numbersBehind_53
    replace hf := mm_if c_2 hf
    by_cases c_3 : x0 = (112 : Int32)
    · replace hf := mm_it c_3 hf
      refine lv_lookup (off := 53) (tgt := 54) hx hb dX6_numbersBehind_1 (by decide +kernel) (by rw [c_3]; decide +kernel) (by decide) ?_
      refine lv_iconst (v := (4 : Int32)) hx hb dX6_numbersBehind_54 (by decide) ?_
      obtain ⟨rfl, rfl⟩ := mm_ret hf
      exact mm_iret X hP hS dX6_numbersBehind_55
    replace hf := mm_if c_3 hf
    by_cases c_4 : x0 = (114 : Int32)
    · replace hf := mm_it c_4 hf
      refine lv_lookup (off := 55) (tgt := 56) hx hb dX6_numbersBehind_1 (by decide +kernel) (by rw [c_4]; decide +kernel) (by decide) ?_
      refine lv_iconst (v := (0 : Int32)) hx hb dX6_numbersBehind_56 (by decide) ?_
      obtain ⟨rfl, rfl⟩ := mm_ret hf
      exact mm_iret X hP hS dX6_numbersBehind_57
    replace hf := mm_if c_4 hf
    by_cases c_5 : x0 = (119 : Int32)
    · replace hf := mm_it c_5 hf
      refine lv_lookup (off := 51) (tgt := 52) hx hb dX6_numbersBehind_1 (by decide +kernel) (by rw [c_5]; decide +kernel) (by decide) ?_
      refine lv_iconst (v := (2 : Int32)) hx hb dX6_numbersBehind_52 (by decide) ?_
      obtain ⟨rfl, rfl⟩ := mm_ret hf
      exact mm_iret X hP hS dX6_numbersBehind_53
    replace hf := mm_if c_5 hf
    refine lv_lookup (off := 57) (tgt := 58) hx hb dX6_numbersBehind_1 (by decide +kernel) (by show Op.lookupswitch.offset [(99, 51), (107, 51), (112, 53), (114, 55), (119, 51)] _ _ = _; rw [lv_osw c_1 (by decide), lv_osw c_2 (by decide), lv_osw c_3 (by decide), lv_osw c_4 (by decide), lv_osw c_5 (by decide)]; rfl) (by decide) ?_
    refine lv_iconst (v := (-1 : Int32)) hx hb dX6_numbersBehind_58 (by decide) ?_
    obtain ⟨rfl, rfl⟩ := mm_ret hf
    exact mm_iret X hP hS dX6_numbersBehind_59
  exact hgen _ _ hP hS
def fx_X6_take (x1 : Int32) (σ : mm_M) : mm_R := if (σ 8 23 0 1) ≤ (σ 8 23 0 4) then some ((0 : Int32), σ) else mm_gd (mm_ix (σ 8 23 0 4) 60 = true) (if (σ 8 24 0 (σ 8 23 0 4).toNatClampNeg) = x1 then mm_lt (mm_u σ 8 23 0 4 ((σ 8 23 0 4) + (1 : Int32))) fun s_4 => (some ((1 : Int32), s_4)) else some ((0 : Int32), σ))
set_option maxHeartbeats 4000000 in
set_option maxRecDepth 100000 in
theorem cx_X6_take (l : Launch) (D : va_G) (ad : mm_A) (cA : Nat → ClassId) (hI : mm_Inj ad) (x1 : Int32)  (σ : mm_M) (rv : Int32) (σ1 : mm_M) (hf : fx_X6_take x1 σ = some (rv, σ1)) : Met l yX6_take (Cond.code yX6_take cX6_take 2 (some .boolean) :: tb) (mm_rm 0 0) (mm_pre D ad cA [.ref (ad 8 23 0), .int x1] σ) (mm_Q D ad cA (some (.int rv)) σ1) 0 0 (mm_AS ad) := by
  refine mm_start (by decide +kernel) hI (Nat.le_of_ble_eq_true rfl) ?_
  intro p e s m args below meth c X hP ls hl
  have hl : lv_has ls 2 [(0, .ref (ad 8 23 0)), (1, .int x1)] := hl
  have hx := X.1
  have hb := X.2.1
  have hS : va_S (mm_AS ad) s.heap s.heap [] := va_S.rf
  have hgen : ∀ (H : Heap) (locs : List Loc), va_P D vwCl (mm_wd ad cA σ) H → va_S (mm_AS ad) s.heap H locs → W p l e (mm_rm 0 0) s m args below meth c H locs 0 0 (MQ below (mm_Q D ad cA (some (.int rv)) σ1) args s 0 0 (mm_AS ad)) (F0 m 0 ls []) := by
    intro H locs hP hS
    rw [fx_X6_take] at hf
    refine lv_aload_n hx hb dX6_take_0 rfl (lv_at hl 0 rfl) ?_
    refine gf_23_4 X hP  wd_240 dX6_take_1 ?_
    refine lv_aload_n hx hb dX6_take_4 rfl (lv_at hl 0 rfl) ?_
    refine gf_23_1 X hP  wd_233 dX6_take_5 ?_
    refine lv_icmp_ge (tgt := 24) hx hb dX6_take_8 (by decide) (fun c_1 => ?_) (fun c_1 => ?_)
    · replace hf := mm_it c_1 hf
      refine lv_iconst (v := (0 : Int32)) hx hb dX6_take_24 (by decide) ?_
      obtain ⟨rfl, rfl⟩ := mm_ret hf
      exact mm_zret (Or.inl rfl) X hP hS dX6_take_25
    · replace hf := mm_if c_1 hf
      refine lv_aload_n hx hb dX6_take_11 rfl (lv_at hl 0 rfl) ?_
      refine gf_23_0 X hP  wd_232 dX6_take_12 ?_
      refine lv_aload_n hx hb dX6_take_15 rfl (lv_at hl 0 rfl) ?_
      refine gf_23_4 X hP  wd_240 dX6_take_16 ?_
      obtain ⟨h_2, hf⟩ := mm_gd_ok hf
      refine al_24 X hP  h_2 dX6_take_19 ?_
      refine lv_iload_n hx hb dX6_take_20 rfl (lv_at hl 1 rfl) ?_
      refine lv_icmp_eq (tgt := 26) hx hb dX6_take_21 (by decide) (fun c_3 => ?_) (fun c_3 => ?_)
      · replace hf := mm_it c_3 hf
        refine lv_aload_n hx hb dX6_take_26 rfl (lv_at hl 0 rfl) ?_
        refine lv_dup hx hb dX6_take_27 rfl ?_
        refine gf_23_4 X hP  wd_240 dX6_take_28 ?_
        refine lv_iconst (v := (1 : Int32)) hx hb dX6_take_31 (by decide) ?_
        refine lv_iadd hx hb dX6_take_32 ?_
        refine pf_23_4 X hP hS  wd_240  dX6_take_33 (fun H locs hP hS => ?_)
        obtain ⟨s_4, e_4, hf⟩ := mm_lt_ok hf
        rw [← e_4] at hP
        refine lv_iconst (v := (1 : Int32)) hx hb dX6_take_36 (by decide) ?_
        obtain ⟨rfl, rfl⟩ := mm_ret hf
        exact mm_zret (Or.inr rfl) X hP hS dX6_take_37
      · replace hf := mm_if c_3 hf
        refine lv_iconst (v := (0 : Int32)) hx hb dX6_take_24 (by decide) ?_
        obtain ⟨rfl, rfl⟩ := mm_ret hf
        exact mm_zret (Or.inl rfl) X hP hS dX6_take_25
  exact hgen _ _ hP hS
def fx_X6_takeNumber_J82 (x1 : Int32)  (v2 : Int32) (v3 : Int32) (σ : mm_M) : mm_R := mm_gd (mm_ix x1 4 = true) (mm_lt (mm_u σ 8 25 0 x1.toNatClampNeg v2) fun s_12 => (if v3 ≤ (0 : Int32) then some ((0 : Int32), s_12) else some ((1 : Int32), s_12)))
set_option maxHeartbeats 4000000 in
set_option maxRecDepth 100000 in
theorem cx_X6_takeNumber_J82 {p : Program} {l : Launch} {e : Env} {s : State} {m : MethodId} {args : Array Value} {below : List Frame} {meth : Method} {c : Code} {D : va_G} {ad : mm_A} {cA : Nat → ClassId} (x1 : Int32)  (rv : Int32) (σ1 : mm_M)  (X : mm_X p s m args meth c cX6_takeNumber 4 (some .boolean) RX6 D ad cA) : ∀ (v2 : Int32) (v3 : Int32) (σ : mm_M) (H : Heap) (locs : List Loc) (ls : Array Slot), fx_X6_takeNumber_J82 x1 v2 v3 σ = some (rv, σ1) → va_P D vwCl (mm_wd ad cA σ) H → va_S (mm_AS ad) s.heap H locs → lv_has ls 4 [(0, .ref (ad 8 23 0)), (1, .int x1), (2, .int v2), (3, .int v3)] → W p l e (mm_rm 0 0) s m args below meth c H locs 0 0 (MQ below (mm_Q D ad cA (some (.int rv)) σ1) args s 0 0 (mm_AS ad)) (F0 m 82 ls []) := by
  have hx := X.1
  have hb := X.2.1
  have hI := X.2.2.2.2.2.2.2.2.2
  intro v2 v3 σ H locs ls hf hP hS hl
  rw [fx_X6_takeNumber_J82] at hf
  refine lv_aload_n hx hb dX6_takeNumber_82 rfl (lv_at hl 0 rfl) ?_
  refine gf_23_3 X hP  wd_238 dX6_takeNumber_83 ?_
  refine lv_iload_n hx hb dX6_takeNumber_86 rfl (lv_at hl 1 rfl) ?_
  refine lv_iload_n hx hb dX6_takeNumber_87 rfl (lv_at hl 2 rfl) ?_
  obtain ⟨h_11, hf⟩ := mm_gd_ok hf
  refine as_25 X hP hS  h_11  dX6_takeNumber_88 (fun H locs hP hS => ?_)
  obtain ⟨s_12, e_12, hf⟩ := mm_lt_ok hf
  rw [← e_12] at hP
  refine lv_iload_n hx hb dX6_takeNumber_89 rfl (lv_at hl 3 rfl) ?_
  refine lv_if_le (tgt := 97) hx hb dX6_takeNumber_90 (by decide) (fun c_13 => ?_) (fun c_13 => ?_)
  · replace hf := mm_it c_13 hf
    refine lv_iconst (v := (0 : Int32)) hx hb dX6_takeNumber_97 (by decide) ?_
    obtain ⟨rfl, rfl⟩ := mm_ret hf
    exact mm_zret (Or.inl rfl) X hP hS dX6_takeNumber_98
  · replace hf := mm_if c_13 hf
    refine lv_iconst (v := (1 : Int32)) hx hb dX6_takeNumber_93 (by decide) ?_
    refine lv_goto (tgt := 98) hx hb dX6_takeNumber_94 (by decide) ?_
    obtain ⟨rfl, rfl⟩ := mm_ret hf
    exact mm_zret (Or.inr rfl) X hP hS dX6_takeNumber_98
def fx_X6_takeNumber_L4 (x1 : Int32)  : Nat → Int32 → Int32 → mm_M → mm_R
  | 0, _, _, _ => none
  | fu + 1, v2, v3, σ => if (3 : Int32) ≤ v3 then fx_X6_takeNumber_J82 x1 v2 v3 σ else if (σ 8 23 0 1) ≤ (σ 8 23 0 4) then fx_X6_takeNumber_J82 x1 v2 v3 σ else mm_gd (mm_ix (σ 8 23 0 4) 60 = true) (if (σ 8 24 0 (σ 8 23 0 4).toNatClampNeg) < (48 : Int32) then fx_X6_takeNumber_J82 x1 v2 v3 σ else mm_gd (mm_ix (σ 8 23 0 4) 60 = true) (if (57 : Int32) < (σ 8 24 0 (σ 8 23 0 4).toNatClampNeg) then fx_X6_takeNumber_J82 x1 v2 v3 σ else mm_gd (mm_ix (σ 8 23 0 4) 60 = true) (mm_li ((v2 * (10 : Int32)) + ((σ 8 24 0 (σ 8 23 0 4).toNatClampNeg) - (48 : Int32))) fun y_8 => (mm_li (v3 + (1 : Int32)) fun y_9 => (mm_lt (mm_u σ 8 23 0 4 ((σ 8 23 0 4) + (1 : Int32))) fun s_10 => (fx_X6_takeNumber_L4 x1 fu y_8 y_9 s_10))))))
set_option maxHeartbeats 4000000 in
set_option maxRecDepth 100000 in
theorem cx_X6_takeNumber_L4 {p : Program} {l : Launch} {e : Env} {s : State} {m : MethodId} {args : Array Value} {below : List Frame} {meth : Method} {c : Code} {D : va_G} {ad : mm_A} {cA : Nat → ClassId} (x1 : Int32)  (rv : Int32) (σ1 : mm_M)  (X : mm_X p s m args meth c cX6_takeNumber 4 (some .boolean) RX6 D ad cA) : ∀ (fu : Nat), ∀ (v2 : Int32) (v3 : Int32) (σ : mm_M) (H : Heap) (locs : List Loc) (ls : Array Slot), fx_X6_takeNumber_L4 x1 fu v2 v3 σ = some (rv, σ1) → va_P D vwCl (mm_wd ad cA σ) H → va_S (mm_AS ad) s.heap H locs → lv_has ls 4 [(0, .ref (ad 8 23 0)), (1, .int x1), (2, .int v2), (3, .int v3)] → W p l e (mm_rm 0 0) s m args below meth c H locs 0 0 (MQ below (mm_Q D ad cA (some (.int rv)) σ1) args s 0 0 (mm_AS ad)) (F0 m 4 ls []) := by
  have hx := X.1
  have hb := X.2.1
  have hI := X.2.2.2.2.2.2.2.2.2
  intro fu
  induction fu with
  | zero =>
    intro v2 v3 σ H locs ls hf
    exact mm_no hf
  | succ fu ih =>
    intro v2 v3 σ H locs ls hf hP hS hl
    rw [fx_X6_takeNumber_L4] at hf
    refine lv_iload_n hx hb dX6_takeNumber_4 rfl (lv_at hl 3 rfl) ?_
    refine lv_iconst (v := (3 : Int32)) hx hb dX6_takeNumber_5 (by decide) ?_
    refine lv_icmp_ge (tgt := 82) hx hb dX6_takeNumber_6 (by decide) (fun c_1 => ?_) (fun c_1 => ?_)
    · replace hf := mm_it c_1 hf
      exact cx_X6_takeNumber_J82 x1 rv σ1 X v2 v3 σ H locs ls hf hP hS (lv_sub hl [0, 1, 2, 3] rfl)
    · replace hf := mm_if c_1 hf
      refine lv_aload_n hx hb dX6_takeNumber_9 rfl (lv_at hl 0 rfl) ?_
      refine gf_23_4 X hP  wd_240 dX6_takeNumber_10 ?_
      refine lv_aload_n hx hb dX6_takeNumber_13 rfl (lv_at hl 0 rfl) ?_
      refine gf_23_1 X hP  wd_233 dX6_takeNumber_14 ?_
      refine lv_icmp_ge (tgt := 82) hx hb dX6_takeNumber_17 (by decide) (fun c_2 => ?_) (fun c_2 => ?_)
      · replace hf := mm_it c_2 hf
        exact cx_X6_takeNumber_J82 x1 rv σ1 X v2 v3 σ H locs ls hf hP hS (lv_sub hl [0, 1, 2, 3] rfl)
      · replace hf := mm_if c_2 hf
        refine lv_aload_n hx hb dX6_takeNumber_20 rfl (lv_at hl 0 rfl) ?_
        refine gf_23_0 X hP  wd_232 dX6_takeNumber_21 ?_
        refine lv_aload_n hx hb dX6_takeNumber_24 rfl (lv_at hl 0 rfl) ?_
        refine gf_23_4 X hP  wd_240 dX6_takeNumber_25 ?_
        obtain ⟨h_3, hf⟩ := mm_gd_ok hf
        refine al_24 X hP  h_3 dX6_takeNumber_28 ?_
        refine lv_bipush (v := (48 : Int32)) hx hb dX6_takeNumber_29 (by decide) ?_
        refine lv_icmp_lt (tgt := 82) hx hb dX6_takeNumber_31 (by decide) (fun c_4 => ?_) (fun c_4 => ?_)
        · replace hf := mm_it c_4 hf
          exact cx_X6_takeNumber_J82 x1 rv σ1 X v2 v3 σ H locs ls hf hP hS (lv_sub hl [0, 1, 2, 3] rfl)
        · replace hf := mm_if c_4 hf
          refine lv_aload_n hx hb dX6_takeNumber_34 rfl (lv_at hl 0 rfl) ?_
          refine gf_23_0 X hP  wd_232 dX6_takeNumber_35 ?_
          refine lv_aload_n hx hb dX6_takeNumber_38 rfl (lv_at hl 0 rfl) ?_
          refine gf_23_4 X hP  wd_240 dX6_takeNumber_39 ?_
          obtain ⟨h_5, hf⟩ := mm_gd_ok hf
          refine al_24 X hP  h_5 dX6_takeNumber_42 ?_
          refine lv_bipush (v := (57 : Int32)) hx hb dX6_takeNumber_43 (by decide) ?_
          refine lv_icmp_gt (tgt := 82) hx hb dX6_takeNumber_45 (by decide) (fun c_6 => ?_) (fun c_6 => ?_)
          · replace hf := mm_it c_6 hf
            exact cx_X6_takeNumber_J82 x1 rv σ1 X v2 v3 σ H locs ls hf hP hS (lv_sub hl [0, 1, 2, 3] rfl)
          · replace hf := mm_if c_6 hf
            refine lv_iload_n hx hb dX6_takeNumber_48 rfl (lv_at hl 2 rfl) ?_
            refine lv_bipush (v := (10 : Int32)) hx hb dX6_takeNumber_49 (by decide) ?_
            refine lv_imul hx hb dX6_takeNumber_51 ?_
            refine lv_aload_n hx hb dX6_takeNumber_52 rfl (lv_at hl 0 rfl) ?_
            refine gf_23_0 X hP  wd_232 dX6_takeNumber_53 ?_
            refine lv_aload_n hx hb dX6_takeNumber_56 rfl (lv_at hl 0 rfl) ?_
            refine gf_23_4 X hP  wd_240 dX6_takeNumber_57 ?_
            obtain ⟨h_7, hf⟩ := mm_gd_ok hf
            refine al_24 X hP  h_7 dX6_takeNumber_60 ?_
            refine lv_bipush (v := (48 : Int32)) hx hb dX6_takeNumber_61 (by decide) ?_
            refine lv_isub hx hb dX6_takeNumber_63 ?_
            refine lv_iadd hx hb dX6_takeNumber_64 ?_
            obtain ⟨y_8, e_8, hf⟩ := mm_li_ok hf
            rw [← e_8]
            refine lv_istore_n (lv' := [(2, .int y_8), (0, .ref (ad 8 23 0)), (1, .int x1), (3, .int v3)]) hx hb dX6_takeNumber_65 rfl hl (by decide) rfl (fun ls hl => ?_)
            obtain ⟨y_9, e_9, hf⟩ := mm_li_ok hf
            refine lv_iinc (v := y_9) (lv' := [(3, .int y_9), (2, .int y_8), (0, .ref (ad 8 23 0)), (1, .int x1)]) hx hb dX6_takeNumber_66 hl (k := 3) rfl (by rw [e_9]; rfl) (by decide) rfl (fun ls hl => ?_)
            refine lv_aload_n hx hb dX6_takeNumber_69 rfl (lv_at hl 2 rfl) ?_
            refine lv_dup hx hb dX6_takeNumber_70 rfl ?_
            refine gf_23_4 X hP  wd_240 dX6_takeNumber_71 ?_
            refine lv_iconst (v := (1 : Int32)) hx hb dX6_takeNumber_74 (by decide) ?_
            refine lv_iadd hx hb dX6_takeNumber_75 ?_
            refine pf_23_4 X hP hS  wd_240  dX6_takeNumber_76 (fun H locs hP hS => ?_)
            obtain ⟨s_10, e_10, hf⟩ := mm_lt_ok hf
            rw [← e_10] at hP
            refine lv_goto (tgt := 4) hx hb dX6_takeNumber_79 (by decide) ?_
            exact ih y_8 y_9 s_10 H locs ls  hf hP hS (lv_sub hl [2, 3, 1, 0] rfl)
def fx_X6_takeNumber (x1 : Int32) (σ : mm_M) : mm_R := fx_X6_takeNumber_L4 x1 mm_FU (0 : Int32) (0 : Int32) σ
set_option maxHeartbeats 4000000 in
set_option maxRecDepth 100000 in
theorem cx_X6_takeNumber (l : Launch) (D : va_G) (ad : mm_A) (cA : Nat → ClassId) (hI : mm_Inj ad) (x1 : Int32)  (σ : mm_M) (rv : Int32) (σ1 : mm_M) (hf : fx_X6_takeNumber x1 σ = some (rv, σ1)) : Met l yX6_takeNumber (Cond.code yX6_takeNumber cX6_takeNumber 4 (some .boolean) :: tb) (mm_rm 0 0) (mm_pre D ad cA [.ref (ad 8 23 0), .int x1] σ) (mm_Q D ad cA (some (.int rv)) σ1) 0 0 (mm_AS ad) := by
  refine mm_start (by decide +kernel) hI (Nat.le_of_ble_eq_true rfl) ?_
  intro p e s m args below meth c X hP ls hl
  have hl : lv_has ls 4 [(0, .ref (ad 8 23 0)), (1, .int x1)] := hl
  have hx := X.1
  have hb := X.2.1
  have hS : va_S (mm_AS ad) s.heap s.heap [] := va_S.rf
  have hgen : ∀ (H : Heap) (locs : List Loc), va_P D vwCl (mm_wd ad cA σ) H → va_S (mm_AS ad) s.heap H locs → W p l e (mm_rm 0 0) s m args below meth c H locs 0 0 (MQ below (mm_Q D ad cA (some (.int rv)) σ1) args s 0 0 (mm_AS ad)) (F0 m 0 ls []) := by
    intro H locs hP hS
    rw [fx_X6_takeNumber] at hf
    refine lv_iconst (v := (0 : Int32)) hx hb dX6_takeNumber_0 (by decide) ?_
    refine lv_istore_n (lv' := [(2, .int (0 : Int32)), (0, .ref (ad 8 23 0)), (1, .int x1)]) hx hb dX6_takeNumber_1 rfl hl (by decide) rfl (fun ls hl => ?_)
    refine lv_iconst (v := (0 : Int32)) hx hb dX6_takeNumber_2 (by decide) ?_
    refine lv_istore_n (lv' := [(3, .int (0 : Int32)), (2, .int (0 : Int32)), (0, .ref (ad 8 23 0)), (1, .int x1)]) hx hb dX6_takeNumber_3 rfl hl (by decide) rfl (fun ls hl => ?_)
    exact cx_X6_takeNumber_L4 x1 rv σ1 X mm_FU (0 : Int32) (0 : Int32) σ H locs ls hf hP hS (lv_sub hl [2, 3, 1, 0] rfl)
  exact hgen _ _ hP hS
def fx_X6_read_J79 (x1 : Int32) (k61 : Int32 → Int32 → mm_M → mm_R) (v2 : Int32) (v3 : Int32) (σ : mm_M) : mm_R := mm_bd (fx_X6_takeNumber v3 σ) fun r_15 s_15 => (if r_15 = (0 : Int32) then some ((0 : Int32), s_15) else mm_li (v3 + (1 : Int32)) fun y_17 => (k61 v2 y_17 s_15))
set_option maxHeartbeats 4000000 in
set_option maxRecDepth 100000 in
theorem cx_X6_read_J79 {p : Program} {l : Launch} {e : Env} {s : State} {m : MethodId} {args : Array Value} {below : List Frame} {meth : Method} {c : Code} {D : va_G} {ad : mm_A} {cA : Nat → ClassId} (x1 : Int32)  (rv : Int32) (σ1 : mm_M) (k61 : Int32 → Int32 → mm_M → mm_R) (hk61 : ∀ (v2 : Int32) (v3 : Int32) (σ : mm_M) (H : Heap) (locs : List Loc) (ls : Array Slot), k61 v2 v3 σ = some (rv, σ1) → va_P D vwCl (mm_wd ad cA σ) H → va_S (mm_AS ad) s.heap H locs → lv_has ls 4 [(0, .ref (ad 8 23 0)), (2, .int v2), (3, .int v3)] → W p l e (mm_rm 1 23) s m args below meth c H locs 0 0 (MQ below (mm_Q D ad cA (some (.int rv)) σ1) args s 0 0 (mm_AS ad)) (F0 m 61 ls [])) (X : mm_X p s m args meth c cX6_read 4 (some .boolean) RX6 D ad cA) : ∀ (v2 : Int32) (v3 : Int32) (σ : mm_M) (H : Heap) (locs : List Loc) (ls : Array Slot), fx_X6_read_J79 x1 k61 v2 v3 σ = some (rv, σ1) → va_P D vwCl (mm_wd ad cA σ) H → va_S (mm_AS ad) s.heap H locs → lv_has ls 4 [(0, .ref (ad 8 23 0)), (2, .int v2), (3, .int v3)] → W p l e (mm_rm 1 23) s m args below meth c H locs 0 0 (MQ below (mm_Q D ad cA (some (.int rv)) σ1) args s 0 0 (mm_AS ad)) (F0 m 79 ls []) := by
  have hx := X.1
  have hb := X.2.1
  have hI := X.2.2.2.2.2.2.2.2.2
  intro v2 v3 σ H locs ls hf hP hS hl
  rw [fx_X6_read_J79] at hf
  refine lv_aload_n hx hb dX6_read_79 rfl (lv_at hl 0 rfl) ?_
  refine lv_iload_n hx hb dX6_read_80 rfl (lv_at hl 2 rfl) ?_
  obtain ⟨r_15, s_15, e_15, hf⟩ := mm_bd_ok hf
  refine mm_callV X hP hS hl.1 [.int v3] [] (cx_X6_takeNumber l D ad cA hI v3 σ r_15 s_15 e_15) kp_23 rfl rfl wd_766 wd_768 wp_14 wd_10 wd_769 hd_X6_takeNumber ⟨Nat.le_of_ble_eq_true rfl, Nat.le_of_ble_eq_true rfl⟩ rfl (Nat.le_of_ble_eq_true rfl) dX6_read_81 (fun H locs hP hS => ?_)
  refine lv_if_ne (tgt := 89) hx hb dX6_read_84 (by decide) (fun c_16 => ?_) (fun c_16 => ?_)
  · replace hf := mm_if c_16 hf
    obtain ⟨y_17, e_17, hf⟩ := mm_li_ok hf
    refine lv_iinc (v := y_17) (lv' := [(3, .int y_17), (0, .ref (ad 8 23 0)), (2, .int v2)]) hx hb dX6_read_89 hl (k := 2) rfl (by rw [e_17]; rfl) (by decide) rfl (fun ls hl => ?_)
    refine lv_goto (tgt := 61) hx hb dX6_read_92 (by decide) ?_
    exact hk61 v2 y_17 s_15 H locs ls  hf hP hS (lv_sub hl [1, 2, 0] rfl)
  · replace hf := mm_it c_16 hf
    refine lv_iconst (v := (0 : Int32)) hx hb dX6_read_87 (by decide) ?_
    obtain ⟨rfl, rfl⟩ := mm_ret hf
    exact mm_zret (Or.inl rfl) X hP hS dX6_read_88
def fx_X6_read_L61 (x1 : Int32)  : Nat → Int32 → Int32 → mm_M → mm_R
  | 0, _, _, _ => none
  | fu + 1, v2, v3, σ => if v2 ≤ v3 then mm_bd (fx_X6_take (59 : Int32) σ) fun r_10 s_10 => (mm_gd (r_10 = 0 ∨ r_10 = 1) (some (r_10, s_10))) else if v3 ≤ (0 : Int32) then fx_X6_read_J79 x1 (fun z0 z1 z => fx_X6_read_L61 x1 fu z0 z1 z) v2 v3 σ else mm_bd (fx_X6_take (44 : Int32) σ) fun r_13 s_13 => (if r_13 = (0 : Int32) then some ((0 : Int32), s_13) else fx_X6_read_J79 x1 (fun z0 z1 z => fx_X6_read_L61 x1 fu z0 z1 z) v2 v3 s_13)
set_option maxHeartbeats 4000000 in
set_option maxRecDepth 100000 in
theorem cx_X6_read_L61 {p : Program} {l : Launch} {e : Env} {s : State} {m : MethodId} {args : Array Value} {below : List Frame} {meth : Method} {c : Code} {D : va_G} {ad : mm_A} {cA : Nat → ClassId} (x1 : Int32)  (rv : Int32) (σ1 : mm_M)  (X : mm_X p s m args meth c cX6_read 4 (some .boolean) RX6 D ad cA) : ∀ (fu : Nat), ∀ (v2 : Int32) (v3 : Int32) (σ : mm_M) (H : Heap) (locs : List Loc) (ls : Array Slot), fx_X6_read_L61 x1 fu v2 v3 σ = some (rv, σ1) → va_P D vwCl (mm_wd ad cA σ) H → va_S (mm_AS ad) s.heap H locs → lv_has ls 4 [(0, .ref (ad 8 23 0)), (2, .int v2), (3, .int v3)] → W p l e (mm_rm 1 23) s m args below meth c H locs 0 0 (MQ below (mm_Q D ad cA (some (.int rv)) σ1) args s 0 0 (mm_AS ad)) (F0 m 61 ls []) := by
  have hx := X.1
  have hb := X.2.1
  have hI := X.2.2.2.2.2.2.2.2.2
  intro fu
  induction fu with
  | zero =>
    intro v2 v3 σ H locs ls hf
    exact mm_no hf
  | succ fu ih =>
    intro v2 v3 σ H locs ls hf hP hS hl
    rw [fx_X6_read_L61] at hf
    refine lv_iload_n hx hb dX6_read_61 rfl (lv_at hl 2 rfl) ?_
    refine lv_iload_n hx hb dX6_read_62 rfl (lv_at hl 1 rfl) ?_
    refine lv_icmp_ge (tgt := 95) hx hb dX6_read_63 (by decide) (fun c_9 => ?_) (fun c_9 => ?_)
    · replace hf := mm_it c_9 hf
      refine lv_aload_n hx hb dX6_read_95 rfl (lv_at hl 0 rfl) ?_
      refine lv_bipush (v := (59 : Int32)) hx hb dX6_read_96 (by decide) ?_
      obtain ⟨r_10, s_10, e_10, hf⟩ := mm_bd_ok hf
      refine mm_callV X hP hS hl.1 [.int (59 : Int32)] [] (cx_X6_take l D ad cA hI (59 : Int32) σ r_10 s_10 e_10) kp_23 rfl rfl wd_762 wd_764 wp_13 wd_10 wd_765 hd_X6_take ⟨Nat.le_of_ble_eq_true rfl, Nat.le_of_ble_eq_true rfl⟩ rfl (Nat.le_of_ble_eq_true rfl) dX6_read_98 (fun H locs hP hS => ?_)
      obtain ⟨h_11, hf⟩ := mm_gd_ok hf
      obtain ⟨rfl, rfl⟩ := mm_ret hf
      exact mm_zret h_11 X hP hS dX6_read_101
    · replace hf := mm_if c_9 hf
      refine lv_iload_n hx hb dX6_read_66 rfl (lv_at hl 2 rfl) ?_
      refine lv_if_le (tgt := 79) hx hb dX6_read_67 (by decide) (fun c_12 => ?_) (fun c_12 => ?_)
      · replace hf := mm_it c_12 hf
        exact cx_X6_read_J79 x1 rv σ1 (fun z0 z1 z => fx_X6_read_L61 x1 fu z0 z1 z) ih X v2 v3 σ H locs ls hf hP hS (lv_sub hl [0, 1, 2] rfl)
      · replace hf := mm_if c_12 hf
        refine lv_aload_n hx hb dX6_read_70 rfl (lv_at hl 0 rfl) ?_
        refine lv_bipush (v := (44 : Int32)) hx hb dX6_read_71 (by decide) ?_
        obtain ⟨r_13, s_13, e_13, hf⟩ := mm_bd_ok hf
        refine mm_callV X hP hS hl.1 [.int (44 : Int32)] [] (cx_X6_take l D ad cA hI (44 : Int32) σ r_13 s_13 e_13) kp_23 rfl rfl wd_762 wd_764 wp_13 wd_10 wd_765 hd_X6_take ⟨Nat.le_of_ble_eq_true rfl, Nat.le_of_ble_eq_true rfl⟩ rfl (Nat.le_of_ble_eq_true rfl) dX6_read_73 (fun H locs hP hS => ?_)
        refine lv_if_eq (tgt := 87) hx hb dX6_read_76 (by decide) (fun c_14 => ?_) (fun c_14 => ?_)
        · replace hf := mm_it c_14 hf
          refine lv_iconst (v := (0 : Int32)) hx hb dX6_read_87 (by decide) ?_
          obtain ⟨rfl, rfl⟩ := mm_ret hf
          exact mm_zret (Or.inl rfl) X hP hS dX6_read_88
        · replace hf := mm_if c_14 hf
          exact cx_X6_read_J79 x1 rv σ1 (fun z0 z1 z => fx_X6_read_L61 x1 fu z0 z1 z) ih X v2 v3 s_13 H locs ls hf hP hS (lv_sub hl [0, 1, 2] rfl)
def fx_X6_read_J31 (x1 : Int32)  (w1 : Int32) (σ : mm_M) : mm_R := mm_gd (0 ≤ w1 ∧ w1 < 65536) (mm_lt (mm_u σ 8 23 0 2 w1) fun s_5 => (mm_bd (fx_X6_numbersBehind (s_5 8 23 0 2) s_5) fun r_6 s_6 => (if r_6 = (-1 : Int32) then some ((0 : Int32), s_6) else mm_lt (mm_u s_6 8 23 0 4 ((s_6 8 23 0 4) + (1 : Int32))) fun s_8 => (fx_X6_read_L61 x1 mm_FU r_6 (0 : Int32) s_8))))
set_option maxHeartbeats 4000000 in
set_option maxRecDepth 100000 in
theorem cx_X6_read_J31 {p : Program} {l : Launch} {e : Env} {s : State} {m : MethodId} {args : Array Value} {below : List Frame} {meth : Method} {c : Code} {D : va_G} {ad : mm_A} {cA : Nat → ClassId} (x1 : Int32)  (rv : Int32) (σ1 : mm_M)  (X : mm_X p s m args meth c cX6_read 4 (some .boolean) RX6 D ad cA) : ∀ (w1 : Int32) (σ : mm_M) (H : Heap) (locs : List Loc) (ls : Array Slot), fx_X6_read_J31 x1 w1 σ = some (rv, σ1) → va_P D vwCl (mm_wd ad cA σ) H → va_S (mm_AS ad) s.heap H locs → lv_has ls 4 [(0, .ref (ad 8 23 0))] → W p l e (mm_rm 1 23) s m args below meth c H locs 0 0 (MQ below (mm_Q D ad cA (some (.int rv)) σ1) args s 0 0 (mm_AS ad)) (F0 m 31 ls [.int w1, .ref (ad 8 23 0)]) := by
  have hx := X.1
  have hb := X.2.1
  have hI := X.2.2.2.2.2.2.2.2.2
  intro w1 σ H locs ls hf hP hS hl
  rw [fx_X6_read_J31] at hf
  obtain ⟨h_4, hf⟩ := mm_gd_ok hf
  refine pf_23_2 X hP hS  wd_236 h_4 dX6_read_31 (fun H locs hP hS => ?_)
  obtain ⟨s_5, e_5, hf⟩ := mm_lt_ok hf
  rw [← e_5] at hP
  refine lv_aload_n hx hb dX6_read_34 rfl (lv_at hl 0 rfl) ?_
  refine gf_23_2 X hP  wd_236 dX6_read_35 ?_
  obtain ⟨r_6, s_6, e_6, hf⟩ := mm_bd_ok hf
  refine mm_callS X hP hS hl.1 [.int (s_5 8 23 0 2)] [] (cx_X6_numbersBehind l D ad cA hI (s_5 8 23 0 2) s_5 r_6 s_6 e_6) wd_759 wd_760 wd_10 wd_761 hd_X6_numbersBehind ⟨Nat.le_of_ble_eq_true rfl, Nat.le_of_ble_eq_true rfl⟩ rfl (Nat.le_of_ble_eq_true rfl) dX6_read_38 (fun H locs hP hS => ?_)
  refine lv_istore_n (lv' := [(2, .int r_6), (0, .ref (ad 8 23 0))]) hx hb dX6_read_41 rfl hl (by decide) rfl (fun ls hl => ?_)
  refine lv_iload_n hx hb dX6_read_42 rfl (lv_at hl 0 rfl) ?_
  refine lv_iconst (v := (-1 : Int32)) hx hb dX6_read_43 (by decide) ?_
  refine lv_icmp_ne (tgt := 49) hx hb dX6_read_44 (by decide) (fun c_7 => ?_) (fun c_7 => ?_)
  · replace hf := mm_if c_7 hf
    refine lv_aload_n hx hb dX6_read_49 rfl (lv_at hl 1 rfl) ?_
    refine lv_dup hx hb dX6_read_50 rfl ?_
    refine gf_23_4 X hP  wd_240 dX6_read_51 ?_
    refine lv_iconst (v := (1 : Int32)) hx hb dX6_read_54 (by decide) ?_
    refine lv_iadd hx hb dX6_read_55 ?_
    refine pf_23_4 X hP hS  wd_240  dX6_read_56 (fun H locs hP hS => ?_)
    obtain ⟨s_8, e_8, hf⟩ := mm_lt_ok hf
    rw [← e_8] at hP
    refine lv_iconst (v := (0 : Int32)) hx hb dX6_read_59 (by decide) ?_
    refine lv_istore_n (lv' := [(3, .int (0 : Int32)), (2, .int r_6), (0, .ref (ad 8 23 0))]) hx hb dX6_read_60 rfl hl (by decide) rfl (fun ls hl => ?_)
    exact cx_X6_read_L61 x1 rv σ1 X mm_FU r_6 (0 : Int32) s_8 H locs ls hf hP hS (lv_sub hl [2, 1, 0] rfl)
  · replace hf := mm_it c_7 hf
    refine lv_iconst (v := (0 : Int32)) hx hb dX6_read_47 (by decide) ?_
    obtain ⟨rfl, rfl⟩ := mm_ret hf
    exact mm_zret (Or.inl rfl) X hP hS dX6_read_48
def fx_X6_read (x1 : Int32) (σ : mm_M) : mm_R := mm_lt (mm_u σ 8 23 0 4 x1) fun s_1 => (if (s_1 8 23 0 1) ≤ (s_1 8 23 0 4) then fx_X6_read_J31 x1 (32 : Int32) s_1 else mm_gd (mm_ix (s_1 8 23 0 4) 60 = true) (fx_X6_read_J31 x1 (s_1 8 24 0 (s_1 8 23 0 4).toNatClampNeg) s_1))
set_option maxHeartbeats 4000000 in
set_option maxRecDepth 100000 in
theorem cx_X6_read (l : Launch) (D : va_G) (ad : mm_A) (cA : Nat → ClassId) (hI : mm_Inj ad) (x1 : Int32)  (σ : mm_M) (rv : Int32) (σ1 : mm_M) (hf : fx_X6_read x1 σ = some (rv, σ1)) : Met l yX6_read (Cond.code yX6_read cX6_read 4 (some .boolean) :: tb) (mm_rm 1 23) (mm_pre D ad cA [.ref (ad 8 23 0), .int x1] σ) (mm_Q D ad cA (some (.int rv)) σ1) 0 0 (mm_AS ad) := by
  refine mm_start (by decide +kernel) hI (Nat.le_of_ble_eq_true rfl) ?_
  intro p e s m args below meth c X hP ls hl
  have hl : lv_has ls 4 [(0, .ref (ad 8 23 0)), (1, .int x1)] := hl
  have hx := X.1
  have hb := X.2.1
  have hS : va_S (mm_AS ad) s.heap s.heap [] := va_S.rf
  have hgen : ∀ (H : Heap) (locs : List Loc), va_P D vwCl (mm_wd ad cA σ) H → va_S (mm_AS ad) s.heap H locs → W p l e (mm_rm 1 23) s m args below meth c H locs 0 0 (MQ below (mm_Q D ad cA (some (.int rv)) σ1) args s 0 0 (mm_AS ad)) (F0 m 0 ls []) := by
    intro H locs hP hS
    rw [fx_X6_read] at hf
    refine lv_aload_n hx hb dX6_read_0 rfl (lv_at hl 0 rfl) ?_
    refine lv_iload_n hx hb dX6_read_1 rfl (lv_at hl 1 rfl) ?_
    refine pf_23_4 X hP hS  wd_240  dX6_read_2 (fun H locs hP hS => ?_)
    obtain ⟨s_1, e_1, hf⟩ := mm_lt_ok hf
    rw [← e_1] at hP
    refine lv_aload_n hx hb dX6_read_5 rfl (lv_at hl 0 rfl) ?_
    refine lv_aload_n hx hb dX6_read_6 rfl (lv_at hl 0 rfl) ?_
    refine gf_23_4 X hP  wd_240 dX6_read_7 ?_
    refine lv_aload_n hx hb dX6_read_10 rfl (lv_at hl 0 rfl) ?_
    refine gf_23_1 X hP  wd_233 dX6_read_11 ?_
    refine lv_icmp_ge (tgt := 29) hx hb dX6_read_14 (by decide) (fun c_2 => ?_) (fun c_2 => ?_)
    · replace hf := mm_it c_2 hf
      refine lv_bipush (v := (32 : Int32)) hx hb dX6_read_29 (by decide) ?_
      exact cx_X6_read_J31 x1 rv σ1 X (32 : Int32) s_1 H locs ls hf hP hS (lv_sub hl [0] rfl)
    · replace hf := mm_if c_2 hf
      refine lv_aload_n hx hb dX6_read_17 rfl (lv_at hl 0 rfl) ?_
      refine gf_23_0 X hP  wd_232 dX6_read_18 ?_
      refine lv_aload_n hx hb dX6_read_21 rfl (lv_at hl 0 rfl) ?_
      refine gf_23_4 X hP  wd_240 dX6_read_22 ?_
      obtain ⟨h_3, hf⟩ := mm_gd_ok hf
      refine al_24 X hP  h_3 dX6_read_25 ?_
      refine lv_goto (tgt := 31) hx hb dX6_read_26 (by decide) ?_
      exact cx_X6_read_J31 x1 rv σ1 X (s_1 8 24 0 (s_1 8 23 0 4).toNatClampNeg) s_1 H locs ls hf hP hS (lv_sub hl [0] rfl)
  exact hgen _ _ hP hS
def fx_X5_obey_k25 (r1 : Nat) (σ : mm_M) : mm_R := if (σ 8 23 0 2) = (99 : Int32) then mm_bd (fx_X8_addCart r1 (σ 8 25 0 (0 : Int32).toNatClampNeg) (σ 8 25 0 (1 : Int32).toNatClampNeg) σ) fun r_2 s_2 => (some (r_2, s_2)) else if (σ 8 23 0 2) = (107 : Int32) then mm_bd (fx_X8_setKind r1 (σ 8 25 0 (0 : Int32).toNatClampNeg) (σ 8 25 0 (1 : Int32).toNatClampNeg) σ) fun r_4 s_4 => (some (r_4, s_4)) else if (σ 8 23 0 2) = (112 : Int32) then mm_bd (fx_X8_layCard r1 (σ 8 25 0 (0 : Int32).toNatClampNeg) (σ 8 25 0 (1 : Int32).toNatClampNeg) (σ 8 25 0 (2 : Int32).toNatClampNeg) (σ 8 25 0 (3 : Int32).toNatClampNeg) σ) fun r_6 s_6 => (some (r_6, s_6)) else if (σ 8 23 0 2) = (119 : Int32) then mm_bd (fx_X8_flipWall r1 (σ 8 25 0 (0 : Int32).toNatClampNeg) (σ 8 25 0 (1 : Int32).toNatClampNeg) σ) fun r_8 s_8 => (some (r_8, s_8)) else mm_bd (fx_X7_runNext r1 σ) fun r_9 s_9 => (some (r_9, s_9))
set_option maxHeartbeats 4000000 in
set_option maxRecDepth 100000 in
theorem cx_X5_obey_k25 (l : Launch) (D : va_G) (ad : mm_A) (cA : Nat → ClassId) (hI : mm_Inj ad) (r1 : Nat) (hr1 : r1 < 6) (σ : mm_M) (rv : Int32) (σ1 : mm_M) (hf : fx_X5_obey_k25 r1 σ = some (rv, σ1)) : Met l yX5_obey (Cond.code yX5_obey cX5_obey 3 (some .int) :: tb) (mm_rm 5 114) (mm_pre D ad cA [.ref (ad 9 26 0), .ref (ad r1 0 0), .ref (ad 8 25 0)] σ) (mm_Q D ad cA (some (.int rv)) σ1) 0 0 (mm_AS ad) := by
  refine mm_start (by decide +kernel) hI (Nat.le_of_ble_eq_true rfl) ?_
  intro p e s m args below meth c X hP ls hl
  have hl : lv_has ls 3 [(0, .ref (ad 9 26 0)), (1, .ref (ad r1 0 0)), (2, .ref (ad 8 25 0))] := hl
  have hx := X.1
  have hb := X.2.1
  have hS : va_S (mm_AS ad) s.heap s.heap [] := va_S.rf
  have hgen : ∀ (H : Heap) (locs : List Loc), va_P D vwCl (mm_wd ad cA σ) H → va_S (mm_AS ad) s.heap H locs → W p l e (mm_rm 5 114) s m args below meth c H locs 0 0 (MQ below (mm_Q D ad cA (some (.int rv)) σ1) args s 0 0 (mm_AS ad)) (F0 m 0 ls []) := by
    intro H locs hP hS
    rw [fx_X5_obey_k25] at hf
    refine lv_aload_n hx hb dX5_obey_0 rfl (lv_at hl 0 rfl) ?_
    refine gf_26_0 X hP  wd_260 dX5_obey_1 ?_
    refine gf_23_2 X hP  wd_237 dX5_obey_4 ?_
    by_cases c_1 : (σ 8 23 0 2) = (99 : Int32)
    · replace hf := mm_it c_1 hf
      refine lv_lookup (off := 63) (tgt := 70) hx hb dX5_obey_7 (by decide +kernel) (by rw [c_1]; decide +kernel) (by decide) ?_
      refine lv_aload_n hx hb dX5_obey_70 rfl (lv_at hl 1 rfl) ?_
      refine lv_aload_n hx hb dX5_obey_71 rfl (lv_at hl 2 rfl) ?_
      refine lv_iconst (v := (0 : Int32)) hx hb dX5_obey_72 (by decide) ?_
      refine al_25 X hP  (by decide : mm_ix (0 : Int32) 4 = true) dX5_obey_73 ?_
      refine lv_aload_n hx hb dX5_obey_74 rfl (lv_at hl 2 rfl) ?_
      refine lv_iconst (v := (1 : Int32)) hx hb dX5_obey_75 (by decide) ?_
      refine al_25 X hP  (by decide : mm_ix (1 : Int32) 4 = true) dX5_obey_76 ?_
      obtain ⟨r_2, s_2, e_2, hf⟩ := mm_bd_ok hf
      refine mm_callV X hP hS hl.1 [.int (σ 8 25 0 (0 : Int32).toNatClampNeg), .int (σ 8 25 0 (1 : Int32).toNatClampNeg)] [] (cx_X8_addCart l D ad cA hI r1 (σ 8 25 0 (0 : Int32).toNatClampNeg) (σ 8 25 0 (1 : Int32).toNatClampNeg) hr1 σ r_2 s_2 e_2) (mm_kr r1 hr1 0 (by decide)) rfl rfl wd_776 wd_447 wd_448 wd_2 wd_449 hd_X8_addCart ⟨Nat.le_of_ble_eq_true rfl, Nat.le_of_ble_eq_true rfl⟩ rfl (Nat.le_of_ble_eq_true rfl) dX5_obey_77 (fun H locs hP hS => ?_)
      obtain ⟨rfl, rfl⟩ := mm_ret hf
      exact mm_iret X hP hS dX5_obey_80
    replace hf := mm_if c_1 hf
    by_cases c_3 : (σ 8 23 0 2) = (107 : Int32)
    · replace hf := mm_it c_3 hf
      refine lv_lookup (off := 41) (tgt := 48) hx hb dX5_obey_7 (by decide +kernel) (by rw [c_3]; decide +kernel) (by decide) ?_
      refine lv_aload_n hx hb dX5_obey_48 rfl (lv_at hl 1 rfl) ?_
      refine lv_aload_n hx hb dX5_obey_49 rfl (lv_at hl 2 rfl) ?_
      refine lv_iconst (v := (0 : Int32)) hx hb dX5_obey_50 (by decide) ?_
      refine al_25 X hP  (by decide : mm_ix (0 : Int32) 4 = true) dX5_obey_51 ?_
      refine lv_aload_n hx hb dX5_obey_52 rfl (lv_at hl 2 rfl) ?_
      refine lv_iconst (v := (1 : Int32)) hx hb dX5_obey_53 (by decide) ?_
      refine al_25 X hP  (by decide : mm_ix (1 : Int32) 4 = true) dX5_obey_54 ?_
      obtain ⟨r_4, s_4, e_4, hf⟩ := mm_bd_ok hf
      refine mm_callV X hP hS hl.1 [.int (σ 8 25 0 (0 : Int32).toNatClampNeg), .int (σ 8 25 0 (1 : Int32).toNatClampNeg)] [] (cx_X8_setKind l D ad cA hI r1 (σ 8 25 0 (0 : Int32).toNatClampNeg) (σ 8 25 0 (1 : Int32).toNatClampNeg) hr1 σ r_4 s_4 e_4) (mm_kr r1 hr1 0 (by decide)) rfl rfl wd_774 wd_488 wd_489 wd_2 wd_490 hd_X8_setKind ⟨Nat.le_of_ble_eq_true rfl, Nat.le_of_ble_eq_true rfl⟩ rfl (Nat.le_of_ble_eq_true rfl) dX5_obey_55 (fun H locs hP hS => ?_)
      obtain ⟨rfl, rfl⟩ := mm_ret hf
      exact mm_iret X hP hS dX5_obey_58
    replace hf := mm_if c_3 hf
    by_cases c_5 : (σ 8 23 0 2) = (112 : Int32)
    · replace hf := mm_it c_5 hf
      refine lv_lookup (off := 74) (tgt := 81) hx hb dX5_obey_7 (by decide +kernel) (by rw [c_5]; decide +kernel) (by decide) ?_
      refine lv_aload_n hx hb dX5_obey_81 rfl (lv_at hl 1 rfl) ?_
      refine lv_aload_n hx hb dX5_obey_82 rfl (lv_at hl 2 rfl) ?_
      refine lv_iconst (v := (0 : Int32)) hx hb dX5_obey_83 (by decide) ?_
      refine al_25 X hP  (by decide : mm_ix (0 : Int32) 4 = true) dX5_obey_84 ?_
      refine lv_aload_n hx hb dX5_obey_85 rfl (lv_at hl 2 rfl) ?_
      refine lv_iconst (v := (1 : Int32)) hx hb dX5_obey_86 (by decide) ?_
      refine al_25 X hP  (by decide : mm_ix (1 : Int32) 4 = true) dX5_obey_87 ?_
      refine lv_aload_n hx hb dX5_obey_88 rfl (lv_at hl 2 rfl) ?_
      refine lv_iconst (v := (2 : Int32)) hx hb dX5_obey_89 (by decide) ?_
      refine al_25 X hP  (by decide : mm_ix (2 : Int32) 4 = true) dX5_obey_90 ?_
      refine lv_aload_n hx hb dX5_obey_91 rfl (lv_at hl 2 rfl) ?_
      refine lv_iconst (v := (3 : Int32)) hx hb dX5_obey_92 (by decide) ?_
      refine al_25 X hP  (by decide : mm_ix (3 : Int32) 4 = true) dX5_obey_93 ?_
      obtain ⟨r_6, s_6, e_6, hf⟩ := mm_bd_ok hf
      refine mm_callV X hP hS hl.1 [.int (σ 8 25 0 (0 : Int32).toNatClampNeg), .int (σ 8 25 0 (1 : Int32).toNatClampNeg), .int (σ 8 25 0 (2 : Int32).toNatClampNeg), .int (σ 8 25 0 (3 : Int32).toNatClampNeg)] [] (cx_X8_layCard l D ad cA hI r1 (σ 8 25 0 (0 : Int32).toNatClampNeg) (σ 8 25 0 (1 : Int32).toNatClampNeg) (σ 8 25 0 (2 : Int32).toNatClampNeg) (σ 8 25 0 (3 : Int32).toNatClampNeg) hr1 σ r_6 s_6 e_6) (mm_kr r1 hr1 0 (by decide)) rfl rfl wd_777 wd_532 wd_533 wd_2 wd_534 hd_X8_layCard ⟨Nat.le_of_ble_eq_true rfl, Nat.le_of_ble_eq_true rfl⟩ rfl (Nat.le_of_ble_eq_true rfl) dX5_obey_94 (fun H locs hP hS => ?_)
      obtain ⟨rfl, rfl⟩ := mm_ret hf
      exact mm_iret X hP hS dX5_obey_97
    replace hf := mm_if c_5 hf
    by_cases c_7 : (σ 8 23 0 2) = (119 : Int32)
    · replace hf := mm_it c_7 hf
      refine lv_lookup (off := 52) (tgt := 59) hx hb dX5_obey_7 (by decide +kernel) (by rw [c_7]; decide +kernel) (by decide) ?_
      refine lv_aload_n hx hb dX5_obey_59 rfl (lv_at hl 1 rfl) ?_
      refine lv_aload_n hx hb dX5_obey_60 rfl (lv_at hl 2 rfl) ?_
      refine lv_iconst (v := (0 : Int32)) hx hb dX5_obey_61 (by decide) ?_
      refine al_25 X hP  (by decide : mm_ix (0 : Int32) 4 = true) dX5_obey_62 ?_
      refine lv_aload_n hx hb dX5_obey_63 rfl (lv_at hl 2 rfl) ?_
      refine lv_iconst (v := (1 : Int32)) hx hb dX5_obey_64 (by decide) ?_
      refine al_25 X hP  (by decide : mm_ix (1 : Int32) 4 = true) dX5_obey_65 ?_
      obtain ⟨r_8, s_8, e_8, hf⟩ := mm_bd_ok hf
      refine mm_callV X hP hS hl.1 [.int (σ 8 25 0 (0 : Int32).toNatClampNeg), .int (σ 8 25 0 (1 : Int32).toNatClampNeg)] [] (cx_X8_flipWall l D ad cA hI r1 (σ 8 25 0 (0 : Int32).toNatClampNeg) (σ 8 25 0 (1 : Int32).toNatClampNeg) hr1 σ r_8 s_8 e_8) (mm_kr r1 hr1 0 (by decide)) rfl rfl wd_775 wd_497 wd_498 wd_2 wd_499 hd_X8_flipWall ⟨Nat.le_of_ble_eq_true rfl, Nat.le_of_ble_eq_true rfl⟩ rfl (Nat.le_of_ble_eq_true rfl) dX5_obey_66 (fun H locs hP hS => ?_)
      obtain ⟨rfl, rfl⟩ := mm_ret hf
      exact mm_iret X hP hS dX5_obey_69
    replace hf := mm_if c_7 hf
    refine lv_lookup (off := 91) (tgt := 98) hx hb dX5_obey_7 (by decide +kernel) (by show Op.lookupswitch.offset [(99, 63), (107, 41), (112, 74), (119, 52)] _ _ = _; rw [lv_osw c_1 (by decide), lv_osw c_3 (by decide), lv_osw c_5 (by decide), lv_osw c_7 (by decide)]; rfl) (by decide) ?_
    refine lv_aload_n hx hb dX5_obey_98 rfl (lv_at hl 0 rfl) ?_
    refine gf_26_1 X hP  wd_261 dX5_obey_99 ?_
    refine lv_aload_n hx hb dX5_obey_102 rfl (lv_at hl 1 rfl) ?_
    obtain ⟨r_9, s_9, e_9, hf⟩ := mm_bd_ok hf
    refine mm_callV X hP hS hl.1 [.ref (ad r1 0 0)] [] (cx_X7_runNext l D ad cA hI r1 hr1 σ r_9 s_9 e_9) kp_12 rfl rfl wd_778 wd_577 wd_578 wd_6 wd_579 hd_X7_runNext ⟨Nat.le_of_ble_eq_true rfl, Nat.le_of_ble_eq_true rfl⟩ rfl (Nat.le_of_ble_eq_true rfl) dX5_obey_103 (fun H locs hP hS => ?_)
    obtain ⟨rfl, rfl⟩ := mm_ret hf
    exact mm_iret X hP hS dX5_obey_106
  exact hgen _ _ hP hS
def fx_X5_doAll_J81 (r1 : Nat) (k22 : Int32 → mm_M → mm_R) (v2 : Int32) (v3 : Int32) (w0 : Int32) (σ : mm_M) : mm_R := if v3 = (0 : Int32) then mm_lt (mm_u σ 9 26 0 4 (1 : Int32)) fun s_21 => (mm_lt (mm_u s_21 9 26 0 5 ((s_21 8 23 0 4) - (s_21 9 26 0 3))) fun s_22 => (mm_li (v2 + (1 : Int32)) fun y_23 => (k22 y_23 s_22))) else mm_bd (fx_X10_isError w0 σ) fun r_13 s_13 => (if r_13 = (0 : Int32) then mm_lt (mm_u s_13 9 26 0 3 (s_13 8 23 0 4)) fun s_15 => (mm_lt (mm_u s_15 9 26 0 2 ((s_15 9 26 0 2) + (1 : Int32))) fun s_16 => (mm_li (v2 + (1 : Int32)) fun y_17 => (k22 y_17 s_16))) else mm_lt (mm_u s_13 9 26 0 4 (2 : Int32)) fun s_18 => (mm_lt (mm_u s_18 9 26 0 5 w0) fun s_19 => (mm_li (v2 + (1 : Int32)) fun y_20 => (k22 y_20 s_19))))
set_option maxHeartbeats 4000000 in
set_option maxRecDepth 100000 in
theorem cx_X5_doAll_J81 {p : Program} {l : Launch} {e : Env} {s : State} {m : MethodId} {args : Array Value} {below : List Frame} {meth : Method} {c : Code} {D : va_G} {ad : mm_A} {cA : Nat → ClassId} (r1 : Nat) (hr1 : r1 < 6) (rv : Int32) (σ1 : mm_M) (k22 : Int32 → mm_M → mm_R) (hk22 : ∀ (v2 : Int32) (σ : mm_M) (H : Heap) (locs : List Loc) (ls : Array Slot), k22 v2 σ = some (rv, σ1) → va_P D vwCl (mm_wd ad cA σ) H → va_S (mm_AS ad) s.heap H locs → lv_has ls 5 [(0, .ref (ad 9 26 0)), (1, .ref (ad r1 0 0)), (2, .int v2)] → W p l e (mm_rm 6 136) s m args below meth c H locs 0 0 (MQ below (mm_Q D ad cA none σ1) args s 0 0 (mm_AS ad)) (F0 m 22 ls [])) (X : mm_X p s m args meth c cX5_doAll 5 none RX5 D ad cA) : ∀ (v2 : Int32) (v3 : Int32) (w0 : Int32) (σ : mm_M) (H : Heap) (locs : List Loc) (ls : Array Slot), fx_X5_doAll_J81 r1 k22 v2 v3 w0 σ = some (rv, σ1) → va_P D vwCl (mm_wd ad cA σ) H → va_S (mm_AS ad) s.heap H locs → lv_has ls 5 [(0, .ref (ad 9 26 0)), (1, .ref (ad r1 0 0)), (2, .int v2), (3, .int v3)] → W p l e (mm_rm 6 136) s m args below meth c H locs 0 0 (MQ below (mm_Q D ad cA none σ1) args s 0 0 (mm_AS ad)) (F0 m 81 ls [.int w0]) := by
  have hx := X.1
  have hb := X.2.1
  have hI := X.2.2.2.2.2.2.2.2.2
  intro v2 v3 w0 σ H locs ls hf hP hS hl
  rw [fx_X5_doAll_J81] at hf
  refine lv_istore (lv' := [(4, .int w0), (0, .ref (ad 9 26 0)), (1, .ref (ad r1 0 0)), (2, .int v2), (3, .int v3)]) hx hb dX5_doAll_81 hl (by decide) rfl (fun ls hl => ?_)
  refine lv_iload_n hx hb dX5_doAll_83 rfl (lv_at hl 4 rfl) ?_
  refine lv_if_ne (tgt := 111) hx hb dX5_doAll_84 (by decide) (fun c_12 => ?_) (fun c_12 => ?_)
  · replace hf := mm_if c_12 hf
    refine lv_iload hx hb dX5_doAll_111 (lv_at hl 0 rfl) ?_
    obtain ⟨r_13, s_13, e_13, hf⟩ := mm_bd_ok hf
    refine mm_callN (host := "LockedCarts") X hP hS hl.1 [.int w0] [] (cx_X10_isError l D ad cA hI w0 σ r_13 s_13 e_13) nw_17 wd_470 wd_1 wd_471 hd_X10_isError ⟨Nat.le_of_ble_eq_true rfl, Nat.le_of_ble_eq_true rfl⟩ rfl (Nat.le_of_ble_eq_true rfl) dX5_doAll_113 (fun H locs hP hS => ?_)
    refine lv_if_eq (tgt := 133) hx hb dX5_doAll_116 (by decide) (fun c_14 => ?_) (fun c_14 => ?_)
    · replace hf := mm_it c_14 hf
      refine lv_aload_n hx hb dX5_doAll_133 rfl (lv_at hl 1 rfl) ?_
      refine lv_aload_n hx hb dX5_doAll_134 rfl (lv_at hl 1 rfl) ?_
      refine gf_26_0 X hP  wd_260 dX5_doAll_135 ?_
      refine gf_23_4 X hP  wd_241 dX5_doAll_138 ?_
      refine pf_26_3 X hP hS  wd_264  dX5_doAll_141 (fun H locs hP hS => ?_)
      obtain ⟨s_15, e_15, hf⟩ := mm_lt_ok hf
      rw [← e_15] at hP
      refine lv_aload_n hx hb dX5_doAll_144 rfl (lv_at hl 1 rfl) ?_
      refine lv_dup hx hb dX5_doAll_145 rfl ?_
      refine gf_26_2 X hP  wd_262 dX5_doAll_146 ?_
      refine lv_iconst (v := (1 : Int32)) hx hb dX5_doAll_149 (by decide) ?_
      refine lv_iadd hx hb dX5_doAll_150 ?_
      refine pf_26_2 X hP hS  wd_262  dX5_doAll_151 (fun H locs hP hS => ?_)
      obtain ⟨s_16, e_16, hf⟩ := mm_lt_ok hf
      rw [← e_16] at hP
      obtain ⟨y_17, e_17, hf⟩ := mm_li_ok hf
      refine lv_iinc (v := y_17) (lv' := [(2, .int y_17), (4, .int w0), (0, .ref (ad 9 26 0)), (1, .ref (ad r1 0 0)), (3, .int v3)]) hx hb dX5_doAll_154 hl (k := 3) rfl (by rw [e_17]; rfl) (by decide) rfl (fun ls hl => ?_)
      refine lv_goto (tgt := 22) hx hb dX5_doAll_157 (by decide) ?_
      exact hk22 y_17 s_16 H locs ls  hf hP hS (lv_sub hl [2, 3, 0] rfl)
    · replace hf := mm_if c_14 hf
      refine lv_aload_n hx hb dX5_doAll_119 rfl (lv_at hl 1 rfl) ?_
      refine lv_iconst (v := (2 : Int32)) hx hb dX5_doAll_120 (by decide) ?_
      refine pf_26_4 X hP hS  wd_266  dX5_doAll_121 (fun H locs hP hS => ?_)
      obtain ⟨s_18, e_18, hf⟩ := mm_lt_ok hf
      rw [← e_18] at hP
      refine lv_aload_n hx hb dX5_doAll_124 rfl (lv_at hl 1 rfl) ?_
      refine lv_iload hx hb dX5_doAll_125 (lv_at hl 0 rfl) ?_
      refine pf_26_5 X hP hS  wd_268  dX5_doAll_127 (fun H locs hP hS => ?_)
      obtain ⟨s_19, e_19, hf⟩ := mm_lt_ok hf
      rw [← e_19] at hP
      refine lv_goto (tgt := 154) hx hb dX5_doAll_130 (by decide) ?_
      obtain ⟨y_20, e_20, hf⟩ := mm_li_ok hf
      refine lv_iinc (v := y_20) (lv' := [(2, .int y_20), (4, .int w0), (0, .ref (ad 9 26 0)), (1, .ref (ad r1 0 0)), (3, .int v3)]) hx hb dX5_doAll_154 hl (k := 3) rfl (by rw [e_20]; rfl) (by decide) rfl (fun ls hl => ?_)
      refine lv_goto (tgt := 22) hx hb dX5_doAll_157 (by decide) ?_
      exact hk22 y_20 s_19 H locs ls  hf hP hS (lv_sub hl [2, 3, 0] rfl)
  · replace hf := mm_it c_12 hf
    refine lv_aload_n hx hb dX5_doAll_87 rfl (lv_at hl 1 rfl) ?_
    refine lv_iconst (v := (1 : Int32)) hx hb dX5_doAll_88 (by decide) ?_
    refine pf_26_4 X hP hS  wd_266  dX5_doAll_89 (fun H locs hP hS => ?_)
    obtain ⟨s_21, e_21, hf⟩ := mm_lt_ok hf
    rw [← e_21] at hP
    refine lv_aload_n hx hb dX5_doAll_92 rfl (lv_at hl 1 rfl) ?_
    refine lv_aload_n hx hb dX5_doAll_93 rfl (lv_at hl 1 rfl) ?_
    refine gf_26_0 X hP  wd_260 dX5_doAll_94 ?_
    refine gf_23_4 X hP  wd_241 dX5_doAll_97 ?_
    refine lv_aload_n hx hb dX5_doAll_100 rfl (lv_at hl 1 rfl) ?_
    refine gf_26_3 X hP  wd_264 dX5_doAll_101 ?_
    refine lv_isub hx hb dX5_doAll_104 ?_
    refine pf_26_5 X hP hS  wd_268  dX5_doAll_105 (fun H locs hP hS => ?_)
    obtain ⟨s_22, e_22, hf⟩ := mm_lt_ok hf
    rw [← e_22] at hP
    refine lv_goto (tgt := 154) hx hb dX5_doAll_108 (by decide) ?_
    obtain ⟨y_23, e_23, hf⟩ := mm_li_ok hf
    refine lv_iinc (v := y_23) (lv' := [(2, .int y_23), (4, .int w0), (0, .ref (ad 9 26 0)), (1, .ref (ad r1 0 0)), (3, .int v3)]) hx hb dX5_doAll_154 hl (k := 3) rfl (by rw [e_23]; rfl) (by decide) rfl (fun ls hl => ?_)
    refine lv_goto (tgt := 22) hx hb dX5_doAll_157 (by decide) ?_
    exact hk22 y_23 s_22 H locs ls  hf hP hS (lv_sub hl [2, 3, 0] rfl)
def fx_X5_doAll_L22 (r1 : Nat)  : Nat → Int32 → mm_M → mm_R
  | 0, _, _ => none
  | fu + 1, v2, σ => if (60 : Int32) ≤ v2 then some (0, σ) else if (σ 8 23 0 1) ≤ (σ 9 26 0 3) then some (0, σ) else mm_bd (fx_X5_isFaulty  σ) fun r_7 s_7 => (if r_7 = (0 : Int32) then mm_bd (fx_X6_read (s_7 9 26 0 3) s_7) fun r_9 s_9 => (if r_9 = (0 : Int32) then fx_X5_doAll_J81 r1 (fun z0 z => fx_X5_doAll_L22 r1 fu z0 z) v2 r_9 (0 : Int32) s_9 else mm_bd (fx_X5_obey_k25 r1 s_9) fun r_11 s_11 => (fx_X5_doAll_J81 r1 (fun z0 z => fx_X5_doAll_L22 r1 fu z0 z) v2 r_9 r_11 s_11)) else some (0, s_7))
set_option maxHeartbeats 4000000 in
set_option maxRecDepth 100000 in
theorem cx_X5_doAll_L22 {p : Program} {l : Launch} {e : Env} {s : State} {m : MethodId} {args : Array Value} {below : List Frame} {meth : Method} {c : Code} {D : va_G} {ad : mm_A} {cA : Nat → ClassId} (r1 : Nat) (hr1 : r1 < 6) (rv : Int32) (σ1 : mm_M)  (X : mm_X p s m args meth c cX5_doAll 5 none RX5 D ad cA) : ∀ (fu : Nat), ∀ (v2 : Int32) (σ : mm_M) (H : Heap) (locs : List Loc) (ls : Array Slot), fx_X5_doAll_L22 r1 fu v2 σ = some (rv, σ1) → va_P D vwCl (mm_wd ad cA σ) H → va_S (mm_AS ad) s.heap H locs → lv_has ls 5 [(0, .ref (ad 9 26 0)), (1, .ref (ad r1 0 0)), (2, .int v2)] → W p l e (mm_rm 6 136) s m args below meth c H locs 0 0 (MQ below (mm_Q D ad cA none σ1) args s 0 0 (mm_AS ad)) (F0 m 22 ls []) := by
  have hx := X.1
  have hb := X.2.1
  have hI := X.2.2.2.2.2.2.2.2.2
  intro fu
  induction fu with
  | zero =>
    intro v2 σ H locs ls hf
    exact mm_no hf
  | succ fu ih =>
    intro v2 σ H locs ls hf hP hS hl
    rw [fx_X5_doAll_L22] at hf
    refine lv_iload_n hx hb dX5_doAll_22 rfl (lv_at hl 2 rfl) ?_
    refine lv_bipush (v := (60 : Int32)) hx hb dX5_doAll_23 (by decide) ?_
    refine lv_icmp_ge (tgt := 160) hx hb dX5_doAll_25 (by decide) (fun c_5 => ?_) (fun c_5 => ?_)
    · replace hf := mm_it c_5 hf
      obtain ⟨rfl, rfl⟩ := mm_ret hf
      exact mm_vret X hP hS dX5_doAll_160
    · replace hf := mm_if c_5 hf
      refine lv_aload_n hx hb dX5_doAll_28 rfl (lv_at hl 0 rfl) ?_
      refine gf_26_3 X hP  wd_264 dX5_doAll_29 ?_
      refine lv_aload_n hx hb dX5_doAll_32 rfl (lv_at hl 0 rfl) ?_
      refine gf_26_0 X hP  wd_260 dX5_doAll_33 ?_
      refine gf_23_1 X hP  wd_234 dX5_doAll_36 ?_
      refine lv_icmp_ge (tgt := 160) hx hb dX5_doAll_39 (by decide) (fun c_6 => ?_) (fun c_6 => ?_)
      · replace hf := mm_it c_6 hf
        obtain ⟨rfl, rfl⟩ := mm_ret hf
        exact mm_vret X hP hS dX5_doAll_160
      · replace hf := mm_if c_6 hf
        refine lv_aload_n hx hb dX5_doAll_42 rfl (lv_at hl 0 rfl) ?_
        obtain ⟨r_7, s_7, e_7, hf⟩ := mm_bd_ok hf
        refine mm_callV X hP hS hl.1 [] [] (cx_X5_isFaulty l D ad cA hI  σ r_7 s_7 e_7) kp_26 rfl rfl wd_751 wd_752 wd_753 wd_11 wd_754 hd_X5_isFaulty ⟨Nat.le_of_ble_eq_true rfl, Nat.le_of_ble_eq_true rfl⟩ rfl (Nat.le_of_ble_eq_true rfl) dX5_doAll_43 (fun H locs hP hS => ?_)
        refine lv_if_ne (tgt := 160) hx hb dX5_doAll_46 (by decide) (fun c_8 => ?_) (fun c_8 => ?_)
        · replace hf := mm_if c_8 hf
          obtain ⟨rfl, rfl⟩ := mm_ret hf
          exact mm_vret X hP hS dX5_doAll_160
        · replace hf := mm_it c_8 hf
          refine lv_aload_n hx hb dX5_doAll_49 rfl (lv_at hl 0 rfl) ?_
          refine gf_26_0 X hP  wd_260 dX5_doAll_50 ?_
          refine lv_aload_n hx hb dX5_doAll_53 rfl (lv_at hl 0 rfl) ?_
          refine gf_26_3 X hP  wd_264 dX5_doAll_54 ?_
          obtain ⟨r_9, s_9, e_9, hf⟩ := mm_bd_ok hf
          refine mm_callV X hP hS hl.1 [.int (s_7 9 26 0 3)] [] (cx_X6_read l D ad cA hI (s_7 9 26 0 3) s_7 r_9 s_9 e_9) kp_23 rfl rfl wd_755 wd_756 wd_757 wd_10 wd_758 hd_X6_read ⟨Nat.le_of_ble_eq_true rfl, Nat.le_of_ble_eq_true rfl⟩ rfl (Nat.le_of_ble_eq_true rfl) dX5_doAll_57 (fun H locs hP hS => ?_)
          refine lv_istore_n (lv' := [(3, .int r_9), (0, .ref (ad 9 26 0)), (1, .ref (ad r1 0 0)), (2, .int v2)]) hx hb dX5_doAll_60 rfl hl (by decide) rfl (fun ls hl => ?_)
          refine lv_iload_n hx hb dX5_doAll_61 rfl (lv_at hl 0 rfl) ?_
          refine lv_if_eq (tgt := 80) hx hb dX5_doAll_62 (by decide) (fun c_10 => ?_) (fun c_10 => ?_)
          · replace hf := mm_it c_10 hf
            refine lv_iconst (v := (0 : Int32)) hx hb dX5_doAll_80 (by decide) ?_
            exact cx_X5_doAll_J81 r1 hr1 rv σ1 (fun z0 z => fx_X5_doAll_L22 r1 fu z0 z) ih X v2 r_9 (0 : Int32) s_9 H locs ls hf hP hS (lv_sub hl [1, 2, 3, 0] rfl)
          · replace hf := mm_if c_10 hf
            refine lv_aload_n hx hb dX5_doAll_65 rfl (lv_at hl 1 rfl) ?_
            refine lv_aload_n hx hb dX5_doAll_66 rfl (lv_at hl 2 rfl) ?_
            refine lv_aload_n hx hb dX5_doAll_67 rfl (lv_at hl 1 rfl) ?_
            refine gf_26_0 X hP  wd_260 dX5_doAll_68 ?_
            refine gf_23_3 X hP  wd_239 dX5_doAll_71 ?_
            obtain ⟨r_11, s_11, e_11, hf⟩ := mm_bd_ok hf
            refine mm_callV X hP hS hl.1 [.ref (ad r1 0 0), .ref (ad 8 25 0)] [] (cx_X5_obey_k25 l D ad cA hI r1 hr1 s_9 r_11 s_11 e_11) kp_26 rfl rfl wd_770 wd_772 wp_15 wd_11 wd_773 hd_X5_obey ⟨Nat.le_of_ble_eq_true rfl, Nat.le_of_ble_eq_true rfl⟩ rfl (Nat.le_of_ble_eq_true rfl) dX5_doAll_74 (fun H locs hP hS => ?_)
            refine lv_goto (tgt := 81) hx hb dX5_doAll_77 (by decide) ?_
            exact cx_X5_doAll_J81 r1 hr1 rv σ1 (fun z0 z => fx_X5_doAll_L22 r1 fu z0 z) ih X v2 r_9 r_11 s_11 H locs ls hf hP hS (lv_sub hl [1, 2, 3, 0] rfl)
def fx_X5_doAll (r1 : Nat) (σ : mm_M) : mm_R := mm_lt (mm_u σ 9 26 0 2 (0 : Int32)) fun s_1 => (mm_lt (mm_u s_1 9 26 0 3 (0 : Int32)) fun s_2 => (mm_lt (mm_u s_2 9 26 0 4 (0 : Int32)) fun s_3 => (mm_lt (mm_u s_3 9 26 0 5 (0 : Int32)) fun s_4 => (fx_X5_doAll_L22 r1 mm_FU (0 : Int32) s_4))))
set_option maxHeartbeats 4000000 in
set_option maxRecDepth 100000 in
theorem cx_X5_doAll (l : Launch) (D : va_G) (ad : mm_A) (cA : Nat → ClassId) (hI : mm_Inj ad) (r1 : Nat) (hr1 : r1 < 6) (σ : mm_M) (rv : Int32) (σ1 : mm_M) (hf : fx_X5_doAll r1 σ = some (rv, σ1)) : Met l yX5_doAll (Cond.code yX5_doAll cX5_doAll 5 none :: tb) (mm_rm 6 136) (mm_pre D ad cA [.ref (ad 9 26 0), .ref (ad r1 0 0)] σ) (mm_Q D ad cA none σ1) 0 0 (mm_AS ad) := by
  refine mm_start (by decide +kernel) hI (Nat.le_of_ble_eq_true rfl) ?_
  intro p e s m args below meth c X hP ls hl
  have hl : lv_has ls 5 [(0, .ref (ad 9 26 0)), (1, .ref (ad r1 0 0))] := hl
  have hx := X.1
  have hb := X.2.1
  have hS : va_S (mm_AS ad) s.heap s.heap [] := va_S.rf
  have hgen : ∀ (H : Heap) (locs : List Loc), va_P D vwCl (mm_wd ad cA σ) H → va_S (mm_AS ad) s.heap H locs → W p l e (mm_rm 6 136) s m args below meth c H locs 0 0 (MQ below (mm_Q D ad cA none σ1) args s 0 0 (mm_AS ad)) (F0 m 0 ls []) := by
    intro H locs hP hS
    rw [fx_X5_doAll] at hf
    refine lv_aload_n hx hb dX5_doAll_0 rfl (lv_at hl 0 rfl) ?_
    refine lv_iconst (v := (0 : Int32)) hx hb dX5_doAll_1 (by decide) ?_
    refine pf_26_2 X hP hS  wd_262  dX5_doAll_2 (fun H locs hP hS => ?_)
    obtain ⟨s_1, e_1, hf⟩ := mm_lt_ok hf
    rw [← e_1] at hP
    refine lv_aload_n hx hb dX5_doAll_5 rfl (lv_at hl 0 rfl) ?_
    refine lv_iconst (v := (0 : Int32)) hx hb dX5_doAll_6 (by decide) ?_
    refine pf_26_3 X hP hS  wd_264  dX5_doAll_7 (fun H locs hP hS => ?_)
    obtain ⟨s_2, e_2, hf⟩ := mm_lt_ok hf
    rw [← e_2] at hP
    refine lv_aload_n hx hb dX5_doAll_10 rfl (lv_at hl 0 rfl) ?_
    refine lv_iconst (v := (0 : Int32)) hx hb dX5_doAll_11 (by decide) ?_
    refine pf_26_4 X hP hS  wd_266  dX5_doAll_12 (fun H locs hP hS => ?_)
    obtain ⟨s_3, e_3, hf⟩ := mm_lt_ok hf
    rw [← e_3] at hP
    refine lv_aload_n hx hb dX5_doAll_15 rfl (lv_at hl 0 rfl) ?_
    refine lv_iconst (v := (0 : Int32)) hx hb dX5_doAll_16 (by decide) ?_
    refine pf_26_5 X hP hS  wd_268  dX5_doAll_17 (fun H locs hP hS => ?_)
    obtain ⟨s_4, e_4, hf⟩ := mm_lt_ok hf
    rw [← e_4] at hP
    refine lv_iconst (v := (0 : Int32)) hx hb dX5_doAll_20 (by decide) ?_
    refine lv_istore_n (lv' := [(2, .int (0 : Int32)), (0, .ref (ad 9 26 0)), (1, .ref (ad r1 0 0))]) hx hb dX5_doAll_21 rfl hl (by decide) rfl (fun ls hl => ?_)
    exact cx_X5_doAll_L22 r1 hr1 rv σ1 X mm_FU (0 : Int32) s_4 H locs ls hf hP hS (lv_sub hl [1, 2, 0] rfl)
  exact hgen _ _ hP hS
