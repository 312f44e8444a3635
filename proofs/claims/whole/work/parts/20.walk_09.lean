def fx_X11_isOnBelt (x1 : Int32) (σ : mm_M) : mm_R := mm_bd (fx_X11_isOut x1 σ) fun r_1 s_1 => (if r_1 = (0 : Int32) then mm_bd (fx_X11_of x1 (1 : Int32) s_1) fun r_3 s_3 => (mm_gd (mm_ix ((11 : Int32) + r_3) 207 = true) (mm_bd (fx_X11_in (s_3 10 31 0 ((11 : Int32) + r_3).toNatClampNeg) (1 : Int32) (4 : Int32) s_3) fun r_5 s_5 => (if r_5 = (0 : Int32) then some ((0 : Int32), s_5) else some ((1 : Int32), s_5)))) else some ((0 : Int32), s_1))
set_option maxHeartbeats 4000000 in
set_option maxRecDepth 100000 in
theorem cx_X11_isOnBelt (l : Launch) (D : va_G) (ad : mm_A) (cA : Nat → ClassId) (hI : mm_Inj ad) (x1 : Int32)  (σ : mm_M) (rv : Int32) (σ1 : mm_M) (hf : fx_X11_isOnBelt x1 σ = some (rv, σ1)) : Met l yX11_isOnBelt (Cond.code yX11_isOnBelt cX11_isOnBelt 2 (some .boolean) :: tb) (mm_rm 2 43) (mm_pre D ad cA [.ref (ad 10 30 0), .int x1] σ) (mm_Q D ad cA (some (.int rv)) σ1) 0 0 (mm_AS ad) := by
  refine mm_start (by decide +kernel) hI (Nat.le_of_ble_eq_true rfl) ?_
  intro p e s m args below meth c X hP ls hl
  have hl : lv_has ls 2 [(0, .ref (ad 10 30 0)), (1, .int x1)] := hl
  have hx := X.1
  have hb := X.2.1
  have hS : va_S (mm_AS ad) s.heap s.heap [] := va_S.rf
  have hgen : ∀ (H : Heap) (locs : List Loc), va_P D vwCl (mm_wd ad cA σ) H → va_S (mm_AS ad) s.heap H locs → W p l e (mm_rm 2 43) s m args below meth c H locs 0 0 (MQ below (mm_Q D ad cA (some (.int rv)) σ1) args s 0 0 (mm_AS ad)) (F0 m 0 ls []) := by
    intro H locs hP hS
    rw [fx_X11_isOnBelt] at hf
    refine lv_aload_n hx hb dX11_isOnBelt_0 rfl (lv_at hl 0 rfl) ?_
    refine lv_iload_n hx hb dX11_isOnBelt_1 rfl (lv_at hl 1 rfl) ?_
    obtain ⟨r_1, s_1, e_1, hf⟩ := mm_bd_ok hf
    refine mm_callV X hP hS hl.1 [.int x1] [] (cx_X11_isOut l D ad cA hI x1 σ r_1 s_1 e_1) kp_30 rfl rfl wd_907 wd_909 wp_28 wd_12 wd_910 hd_X11_isOut ⟨Nat.le_of_ble_eq_true rfl, Nat.le_of_ble_eq_true rfl⟩ rfl (Nat.le_of_ble_eq_true rfl) dX11_isOnBelt_2 (fun H locs hP hS => ?_)
    refine lv_if_ne (tgt := 34) hx hb dX11_isOnBelt_5 (by decide) (fun c_2 => ?_) (fun c_2 => ?_)
    · replace hf := mm_if c_2 hf
      refine lv_iconst (v := (0 : Int32)) hx hb dX11_isOnBelt_34 (by decide) ?_
      obtain ⟨rfl, rfl⟩ := mm_ret hf
      exact mm_zret (Or.inl rfl) X hP hS dX11_isOnBelt_35
    · replace hf := mm_it c_2 hf
      refine lv_aload_n hx hb dX11_isOnBelt_8 rfl (lv_at hl 0 rfl) ?_
      refine gf_30_0 X hP  wd_769 dX11_isOnBelt_9 ?_
      refine lv_bipush (v := (11 : Int32)) hx hb dX11_isOnBelt_12 (by decide) ?_
      refine lv_aload_n hx hb dX11_isOnBelt_14 rfl (lv_at hl 0 rfl) ?_
      refine lv_iload_n hx hb dX11_isOnBelt_15 rfl (lv_at hl 1 rfl) ?_
      refine lv_iconst (v := (1 : Int32)) hx hb dX11_isOnBelt_16 (by decide) ?_
      obtain ⟨r_3, s_3, e_3, hf⟩ := mm_bd_ok hf
      refine mm_callV X hP hS hl.1 [.int x1, .int (1 : Int32)] [.int (11 : Int32), .ref (ad 10 31 0)] (cx_X11_of l D ad cA hI x1 (1 : Int32) s_1 r_3 s_3 e_3) kp_30 rfl rfl wd_850 wd_852 wp_19 wd_12 wd_853 hd_X11_of ⟨Nat.le_of_ble_eq_true rfl, Nat.le_of_ble_eq_true rfl⟩ rfl (Nat.le_of_ble_eq_true rfl) dX11_isOnBelt_17 (fun H locs hP hS => ?_)
      refine lv_iadd hx hb dX11_isOnBelt_20 ?_
      obtain ⟨h_4, hf⟩ := mm_gd_ok hf
      refine al_31 X hP  h_4 dX11_isOnBelt_21 ?_
      refine lv_iconst (v := (1 : Int32)) hx hb dX11_isOnBelt_22 (by decide) ?_
      refine lv_iconst (v := (4 : Int32)) hx hb dX11_isOnBelt_23 (by decide) ?_
      obtain ⟨r_5, s_5, e_5, hf⟩ := mm_bd_ok hf
      refine mm_callS X hP hS hl.1 [.int (s_3 10 31 0 ((11 : Int32) + r_3).toNatClampNeg), .int (1 : Int32), .int (4 : Int32)] [] (cx_X11_in l D ad cA hI (s_3 10 31 0 ((11 : Int32) + r_3).toNatClampNeg) (1 : Int32) (4 : Int32) s_3 r_5 s_5 e_5) wd_842 wd_843 wd_12 wd_844 hd_X11_in ⟨Nat.le_of_ble_eq_true rfl, Nat.le_of_ble_eq_true rfl⟩ rfl (Nat.le_of_ble_eq_true rfl) dX11_isOnBelt_24 (fun H locs hP hS => ?_)
      refine lv_if_eq (tgt := 34) hx hb dX11_isOnBelt_27 (by decide) (fun c_6 => ?_) (fun c_6 => ?_)
      · replace hf := mm_it c_6 hf
        refine lv_iconst (v := (0 : Int32)) hx hb dX11_isOnBelt_34 (by decide) ?_
        obtain ⟨rfl, rfl⟩ := mm_ret hf
        exact mm_zret (Or.inl rfl) X hP hS dX11_isOnBelt_35
      · replace hf := mm_if c_6 hf
        refine lv_iconst (v := (1 : Int32)) hx hb dX11_isOnBelt_30 (by decide) ?_
        refine lv_goto (tgt := 35) hx hb dX11_isOnBelt_31 (by decide) ?_
        obtain ⟨rfl, rfl⟩ := mm_ret hf
        exact mm_zret (Or.inr rfl) X hP hS dX11_isOnBelt_35
  exact hgen _ _ hP hS
def fx_X11_isWall (x1 : Int32) (x2 : Int32) (σ : mm_M) : mm_R := mm_gd (mm_ix ((75 : Int32) + x1) 207 = true) (if (((σ 10 31 0 ((75 : Int32) + x1).toNatClampNeg) >>> (x2 &&& 31)) &&& (1 : Int32)) = (1 : Int32) then some ((1 : Int32), σ) else some ((0 : Int32), σ))
set_option maxHeartbeats 4000000 in
set_option maxRecDepth 100000 in
theorem cx_X11_isWall (l : Launch) (D : va_G) (ad : mm_A) (cA : Nat → ClassId) (hI : mm_Inj ad) (x1 : Int32) (x2 : Int32)  (σ : mm_M) (rv : Int32) (σ1 : mm_M) (hf : fx_X11_isWall x1 x2 σ = some (rv, σ1)) : Met l yX11_isWall (Cond.code yX11_isWall cX11_isWall 3 (some .boolean) :: tb) (mm_rm 0 0) (mm_pre D ad cA [.ref (ad 10 30 0), .int x1, .int x2] σ) (mm_Q D ad cA (some (.int rv)) σ1) 0 0 (mm_AS ad) := by
  refine mm_start (by decide +kernel) hI (Nat.le_of_ble_eq_true rfl) ?_
  intro p e s m args below meth c X hP ls hl
  have hl : lv_has ls 3 [(0, .ref (ad 10 30 0)), (1, .int x1), (2, .int x2)] := hl
  have hx := X.1
  have hb := X.2.1
  have hS : va_S (mm_AS ad) s.heap s.heap [] := va_S.rf
  have hgen : ∀ (H : Heap) (locs : List Loc), va_P D vwCl (mm_wd ad cA σ) H → va_S (mm_AS ad) s.heap H locs → W p l e (mm_rm 0 0) s m args below meth c H locs 0 0 (MQ below (mm_Q D ad cA (some (.int rv)) σ1) args s 0 0 (mm_AS ad)) (F0 m 0 ls []) := by
    intro H locs hP hS
    rw [fx_X11_isWall] at hf
    refine lv_aload_n hx hb dX11_isWall_0 rfl (lv_at hl 0 rfl) ?_
    refine gf_30_0 X hP  wd_769 dX11_isWall_1 ?_
    refine lv_bipush (v := (75 : Int32)) hx hb dX11_isWall_4 (by decide) ?_
    refine lv_iload_n hx hb dX11_isWall_6 rfl (lv_at hl 1 rfl) ?_
    refine lv_iadd hx hb dX11_isWall_7 ?_
    obtain ⟨h_1, hf⟩ := mm_gd_ok hf
    refine al_31 X hP  h_1 dX11_isWall_8 ?_
    refine lv_iload_n hx hb dX11_isWall_9 rfl (lv_at hl 2 rfl) ?_
    refine lv_ishr hx hb dX11_isWall_10 ?_
    refine lv_iconst (v := (1 : Int32)) hx hb dX11_isWall_11 (by decide) ?_
    refine lv_iand hx hb dX11_isWall_12 ?_
    refine lv_iconst (v := (1 : Int32)) hx hb dX11_isWall_13 (by decide) ?_
    refine lv_icmp_ne (tgt := 21) hx hb dX11_isWall_14 (by decide) (fun c_2 => ?_) (fun c_2 => ?_)
    · replace hf := mm_if c_2 hf
      refine lv_iconst (v := (0 : Int32)) hx hb dX11_isWall_21 (by decide) ?_
      obtain ⟨rfl, rfl⟩ := mm_ret hf
      exact mm_zret (Or.inl rfl) X hP hS dX11_isWall_22
    · replace hf := mm_it c_2 hf
      refine lv_iconst (v := (1 : Int32)) hx hb dX11_isWall_17 (by decide) ?_
      refine lv_goto (tgt := 22) hx hb dX11_isWall_18 (by decide) ?_
      obtain ⟨rfl, rfl⟩ := mm_ret hf
      exact mm_zret (Or.inr rfl) X hP hS dX11_isWall_22
  exact hgen _ _ hP hS
def fx_X11_wants (x1 : Int32) (σ : mm_M) : mm_R := mm_bd (fx_X11_isOnBelt x1 σ) fun r_1 s_1 => (if r_1 = (0 : Int32) then some ((-1 : Int32), s_1) else mm_bd (fx_X11_of x1 (1 : Int32) s_1) fun r_3 s_3 => (mm_bd (fx_X11_of x1 (1 : Int32) s_3) fun r_4 s_4 => (mm_gd (mm_ix ((11 : Int32) + r_4) 207 = true) (mm_bd (fx_X11_next r_3 ((s_4 10 31 0 ((11 : Int32) + r_4).toNatClampNeg) - (1 : Int32)) s_4) fun r_6 s_6 => (some (r_6, s_6))))))
set_option maxHeartbeats 4000000 in
set_option maxRecDepth 100000 in
theorem cx_X11_wants (l : Launch) (D : va_G) (ad : mm_A) (cA : Nat → ClassId) (hI : mm_Inj ad) (x1 : Int32)  (σ : mm_M) (rv : Int32) (σ1 : mm_M) (hf : fx_X11_wants x1 σ = some (rv, σ1)) : Met l yX11_wants (Cond.code yX11_wants cX11_wants 2 (some .int) :: tb) (mm_rm 3 64) (mm_pre D ad cA [.ref (ad 10 30 0), .int x1] σ) (mm_Q D ad cA (some (.int rv)) σ1) 0 0 (mm_AS ad) := by
  refine mm_start (by decide +kernel) hI (Nat.le_of_ble_eq_true rfl) ?_
  intro p e s m args below meth c X hP ls hl
  have hl : lv_has ls 2 [(0, .ref (ad 10 30 0)), (1, .int x1)] := hl
  have hx := X.1
  have hb := X.2.1
  have hS : va_S (mm_AS ad) s.heap s.heap [] := va_S.rf
  have hgen : ∀ (H : Heap) (locs : List Loc), va_P D vwCl (mm_wd ad cA σ) H → va_S (mm_AS ad) s.heap H locs → W p l e (mm_rm 3 64) s m args below meth c H locs 0 0 (MQ below (mm_Q D ad cA (some (.int rv)) σ1) args s 0 0 (mm_AS ad)) (F0 m 0 ls []) := by
    intro H locs hP hS
    rw [fx_X11_wants] at hf
    refine lv_aload_n hx hb dX11_wants_0 rfl (lv_at hl 0 rfl) ?_
    refine lv_iload_n hx hb dX11_wants_1 rfl (lv_at hl 1 rfl) ?_
    obtain ⟨r_1, s_1, e_1, hf⟩ := mm_bd_ok hf
    refine mm_callV X hP hS hl.1 [.int x1] [] (cx_X11_isOnBelt l D ad cA hI x1 σ r_1 s_1 e_1) kp_30 rfl rfl wd_986 wd_988 wp_45 wd_12 wd_989 hd_X11_isOnBelt ⟨Nat.le_of_ble_eq_true rfl, Nat.le_of_ble_eq_true rfl⟩ rfl (Nat.le_of_ble_eq_true rfl) dX11_wants_2 (fun H locs hP hS => ?_)
    refine lv_if_eq (tgt := 36) hx hb dX11_wants_5 (by decide) (fun c_2 => ?_) (fun c_2 => ?_)
    · replace hf := mm_it c_2 hf
      refine lv_iconst (v := (-1 : Int32)) hx hb dX11_wants_36 (by decide) ?_
      obtain ⟨rfl, rfl⟩ := mm_ret hf
      exact mm_iret X hP hS dX11_wants_37
    · replace hf := mm_if c_2 hf
      refine lv_aload_n hx hb dX11_wants_8 rfl (lv_at hl 0 rfl) ?_
      refine lv_iload_n hx hb dX11_wants_9 rfl (lv_at hl 1 rfl) ?_
      refine lv_iconst (v := (1 : Int32)) hx hb dX11_wants_10 (by decide) ?_
      obtain ⟨r_3, s_3, e_3, hf⟩ := mm_bd_ok hf
      refine mm_callV X hP hS hl.1 [.int x1, .int (1 : Int32)] [] (cx_X11_of l D ad cA hI x1 (1 : Int32) s_1 r_3 s_3 e_3) kp_30 rfl rfl wd_850 wd_852 wp_19 wd_12 wd_853 hd_X11_of ⟨Nat.le_of_ble_eq_true rfl, Nat.le_of_ble_eq_true rfl⟩ rfl (Nat.le_of_ble_eq_true rfl) dX11_wants_11 (fun H locs hP hS => ?_)
      refine lv_aload_n hx hb dX11_wants_14 rfl (lv_at hl 0 rfl) ?_
      refine gf_30_0 X hP  wd_769 dX11_wants_15 ?_
      refine lv_bipush (v := (11 : Int32)) hx hb dX11_wants_18 (by decide) ?_
      refine lv_aload_n hx hb dX11_wants_20 rfl (lv_at hl 0 rfl) ?_
      refine lv_iload_n hx hb dX11_wants_21 rfl (lv_at hl 1 rfl) ?_
      refine lv_iconst (v := (1 : Int32)) hx hb dX11_wants_22 (by decide) ?_
      obtain ⟨r_4, s_4, e_4, hf⟩ := mm_bd_ok hf
      refine mm_callV X hP hS hl.1 [.int x1, .int (1 : Int32)] [.int (11 : Int32), .ref (ad 10 31 0), .int r_3] (cx_X11_of l D ad cA hI x1 (1 : Int32) s_3 r_4 s_4 e_4) kp_30 rfl rfl wd_850 wd_852 wp_19 wd_12 wd_853 hd_X11_of ⟨Nat.le_of_ble_eq_true rfl, Nat.le_of_ble_eq_true rfl⟩ rfl (Nat.le_of_ble_eq_true rfl) dX11_wants_23 (fun H locs hP hS => ?_)
      refine lv_iadd hx hb dX11_wants_26 ?_
      obtain ⟨h_5, hf⟩ := mm_gd_ok hf
      refine al_31 X hP  h_5 dX11_wants_27 ?_
      refine lv_iconst (v := (1 : Int32)) hx hb dX11_wants_28 (by decide) ?_
      refine lv_isub hx hb dX11_wants_29 ?_
      obtain ⟨r_6, s_6, e_6, hf⟩ := mm_bd_ok hf
      refine mm_callS X hP hS hl.1 [.int r_3, .int ((s_4 10 31 0 ((11 : Int32) + r_4).toNatClampNeg) - (1 : Int32))] [] (cx_X11_next l D ad cA hI r_3 ((s_4 10 31 0 ((11 : Int32) + r_4).toNatClampNeg) - (1 : Int32)) s_4 r_6 s_6 e_6) wd_871 wd_872 wd_12 wd_873 hd_X11_next ⟨Nat.le_of_ble_eq_true rfl, Nat.le_of_ble_eq_true rfl⟩ rfl (Nat.le_of_ble_eq_true rfl) dX11_wants_30 (fun H locs hP hS => ?_)
      refine lv_goto (tgt := 37) hx hb dX11_wants_33 (by decide) ?_
      obtain ⟨rfl, rfl⟩ := mm_ret hf
      exact mm_iret X hP hS dX11_wants_37
  exact hgen _ _ hP hS
def fx_X11_more (x1 : Int32) (x2 : Int32) (σ : mm_M) : mm_R := mm_gd (mm_ix (((139 : Int32) + ((17 : Int32) * x1)) + x2) 207 = true) (mm_gd (mm_ix (((139 : Int32) + ((17 : Int32) * x1)) + x2) 207 = true) (mm_lt (mm_u σ 10 31 0 (((139 : Int32) + ((17 : Int32) * x1)) + x2).toNatClampNeg ((σ 10 31 0 (((139 : Int32) + ((17 : Int32) * x1)) + x2).toNatClampNeg) + (1 : Int32))) fun s_3 => (some (0, s_3))))
set_option maxHeartbeats 4000000 in
set_option maxRecDepth 100000 in
theorem cx_X11_more (l : Launch) (D : va_G) (ad : mm_A) (cA : Nat → ClassId) (hI : mm_Inj ad) (x1 : Int32) (x2 : Int32)  (σ : mm_M) (rv : Int32) (σ1 : mm_M) (hf : fx_X11_more x1 x2 σ = some (rv, σ1)) : Met l yX11_more (Cond.code yX11_more cX11_more 3 none :: tb) (mm_rm 0 0) (mm_pre D ad cA [.ref (ad 10 30 0), .int x1, .int x2] σ) (mm_Q D ad cA none σ1) 0 0 (mm_AS ad) := by
  refine mm_start (by decide +kernel) hI (Nat.le_of_ble_eq_true rfl) ?_
  intro p e s m args below meth c X hP ls hl
  have hl : lv_has ls 3 [(0, .ref (ad 10 30 0)), (1, .int x1), (2, .int x2)] := hl
  have hx := X.1
  have hb := X.2.1
  have hS : va_S (mm_AS ad) s.heap s.heap [] := va_S.rf
  have hgen : ∀ (H : Heap) (locs : List Loc), va_P D vwCl (mm_wd ad cA σ) H → va_S (mm_AS ad) s.heap H locs → W p l e (mm_rm 0 0) s m args below meth c H locs 0 0 (MQ below (mm_Q D ad cA none σ1) args s 0 0 (mm_AS ad)) (F0 m 0 ls []) := by
    intro H locs hP hS
    rw [fx_X11_more] at hf
    refine lv_aload_n hx hb dX11_more_0 rfl (lv_at hl 0 rfl) ?_
    refine gf_30_0 X hP  wd_769 dX11_more_1 ?_
    refine lv_sipush (v := (139 : Int32)) hx hb dX11_more_4 (by decide) ?_
    refine lv_bipush (v := (17 : Int32)) hx hb dX11_more_7 (by decide) ?_
    refine lv_iload_n hx hb dX11_more_9 rfl (lv_at hl 1 rfl) ?_
    refine lv_imul hx hb dX11_more_10 ?_
    refine lv_iadd hx hb dX11_more_11 ?_
    refine lv_iload_n hx hb dX11_more_12 rfl (lv_at hl 2 rfl) ?_
    refine lv_iadd hx hb dX11_more_13 ?_
    refine lv_dup2_11 hx hb dX11_more_14 rfl rfl ?_
    obtain ⟨h_1, hf⟩ := mm_gd_ok hf
    refine al_31 X hP  h_1 dX11_more_15 ?_
    refine lv_iconst (v := (1 : Int32)) hx hb dX11_more_16 (by decide) ?_
    refine lv_iadd hx hb dX11_more_17 ?_
    obtain ⟨h_2, hf⟩ := mm_gd_ok hf
    refine as_31 X hP hS  h_2  dX11_more_18 (fun H locs hP hS => ?_)
    obtain ⟨s_3, e_3, hf⟩ := mm_lt_ok hf
    rw [← e_3] at hP
    obtain ⟨rfl, rfl⟩ := mm_ret hf
    exact mm_vret X hP hS dX11_more_19
  exact hgen _ _ hP hS
def fx_X11_goesOut (x1 : Int32) (σ : mm_M) : mm_R := mm_bd (fx_X11_lays x1 (1 : Int32) (-1 : Int32) σ) fun _ s_1 => (mm_bd (fx_X11_more x1 (5 : Int32) s_1) fun _ s_2 => (some (0, s_2)))
set_option maxHeartbeats 4000000 in
set_option maxRecDepth 100000 in
theorem cx_X11_goesOut (l : Launch) (D : va_G) (ad : mm_A) (cA : Nat → ClassId) (hI : mm_Inj ad) (x1 : Int32)  (σ : mm_M) (rv : Int32) (σ1 : mm_M) (hf : fx_X11_goesOut x1 σ = some (rv, σ1)) : Met l yX11_goesOut (Cond.code yX11_goesOut cX11_goesOut 2 none :: tb) (mm_rm 1 23) (mm_pre D ad cA [.ref (ad 10 30 0), .int x1] σ) (mm_Q D ad cA none σ1) 0 0 (mm_AS ad) := by
  refine mm_start (by decide +kernel) hI (Nat.le_of_ble_eq_true rfl) ?_
  intro p e s m args below meth c X hP ls hl
  have hl : lv_has ls 2 [(0, .ref (ad 10 30 0)), (1, .int x1)] := hl
  have hx := X.1
  have hb := X.2.1
  have hS : va_S (mm_AS ad) s.heap s.heap [] := va_S.rf
  have hgen : ∀ (H : Heap) (locs : List Loc), va_P D vwCl (mm_wd ad cA σ) H → va_S (mm_AS ad) s.heap H locs → W p l e (mm_rm 1 23) s m args below meth c H locs 0 0 (MQ below (mm_Q D ad cA none σ1) args s 0 0 (mm_AS ad)) (F0 m 0 ls []) := by
    intro H locs hP hS
    rw [fx_X11_goesOut] at hf
    refine lv_aload_n hx hb dX11_goesOut_0 rfl (lv_at hl 0 rfl) ?_
    refine lv_iload_n hx hb dX11_goesOut_1 rfl (lv_at hl 1 rfl) ?_
    refine lv_iconst (v := (1 : Int32)) hx hb dX11_goesOut_2 (by decide) ?_
    refine lv_iconst (v := (-1 : Int32)) hx hb dX11_goesOut_3 (by decide) ?_
    obtain ⟨r_1, s_1, e_1, hf⟩ := mm_bd_ok hf
    refine mm_callV X hP hS hl.1 [.int x1, .int (1 : Int32), .int (-1 : Int32)] [] (cx_X11_lays l D ad cA hI x1 (1 : Int32) (-1 : Int32) σ r_1 s_1 e_1) kp_30 rfl rfl wd_891 wd_893 wp_25 wd_12 wd_894 hd_X11_lays ⟨Nat.le_of_ble_eq_true rfl, Nat.le_of_ble_eq_true rfl⟩ rfl (Nat.le_of_ble_eq_true rfl) dX11_goesOut_4 (fun H locs hP hS => ?_)
    refine lv_aload_n hx hb dX11_goesOut_7 rfl (lv_at hl 0 rfl) ?_
    refine lv_iload_n hx hb dX11_goesOut_8 rfl (lv_at hl 1 rfl) ?_
    refine lv_iconst (v := (5 : Int32)) hx hb dX11_goesOut_9 (by decide) ?_
    obtain ⟨r_2, s_2, e_2, hf⟩ := mm_bd_ok hf
    refine mm_callV X hP hS hl.1 [.int x1, .int (5 : Int32)] [] (cx_X11_more l D ad cA hI x1 (5 : Int32) s_1 r_2 s_2 e_2) kp_30 rfl rfl wd_974 wd_976 wp_42 wd_12 wd_977 hd_X11_more ⟨Nat.le_of_ble_eq_true rfl, Nat.le_of_ble_eq_true rfl⟩ rfl (Nat.le_of_ble_eq_true rfl) dX11_goesOut_10 (fun H locs hP hS => ?_)
    obtain ⟨rfl, rfl⟩ := mm_ret hf
    exact mm_vret X hP hS dX11_goesOut_13
  exact hgen _ _ hP hS
def fx_X11_comesTo_J18 (x1 : Int32) (x2 : Int32)   (σ : mm_M) : mm_R := mm_bd (fx_X11_goesOut x1 σ) fun _ s_5 => (some (0, s_5))
set_option maxHeartbeats 4000000 in
set_option maxRecDepth 100000 in
theorem cx_X11_comesTo_J18 {p : Program} {l : Launch} {e : Env} {s : State} {m : MethodId} {args : Array Value} {below : List Frame} {meth : Method} {c : Code} {D : va_G} {ad : mm_A} {cA : Nat → ClassId} (x1 : Int32) (x2 : Int32)  (rv : Int32) (σ1 : mm_M)  (X : mm_X p s m args meth c cX11_comesTo 3 none RX11 D ad cA) : ∀ (σ : mm_M) (H : Heap) (locs : List Loc) (ls : Array Slot), fx_X11_comesTo_J18 x1 x2  σ = some (rv, σ1) → va_P D vwCl (mm_wd ad cA σ) H → va_S (mm_AS ad) s.heap H locs → lv_has ls 3 [(0, .ref (ad 10 30 0)), (1, .int x1)] → W p l e (mm_rm 2 44) s m args below meth c H locs 0 0 (MQ below (mm_Q D ad cA none σ1) args s 0 0 (mm_AS ad)) (F0 m 18 ls []) := by
  have hx := X.1
  have hb := X.2.1
  have hI := X.2.2.2.2.2.2.2.2.2
  intro σ H locs ls hf hP hS hl
  rw [fx_X11_comesTo_J18] at hf
  refine lv_aload_n hx hb dX11_comesTo_18 rfl (lv_at hl 0 rfl) ?_
  refine lv_iload_n hx hb dX11_comesTo_19 rfl (lv_at hl 1 rfl) ?_
  obtain ⟨r_5, s_5, e_5, hf⟩ := mm_bd_ok hf
  refine mm_callV X hP hS hl.1 [.int x1] [] (cx_X11_goesOut l D ad cA hI x1 σ r_5 s_5 e_5) kp_30 rfl rfl wd_970 wd_972 wp_41 wd_12 wd_973 hd_X11_goesOut ⟨Nat.le_of_ble_eq_true rfl, Nat.le_of_ble_eq_true rfl⟩ rfl (Nat.le_of_ble_eq_true rfl) dX11_comesTo_20 (fun H locs hP hS => ?_)
  refine lv_goto (tgt := 33) hx hb dX11_comesTo_23 (by decide) ?_
  obtain ⟨rfl, rfl⟩ := mm_ret hf
  exact mm_vret X hP hS dX11_comesTo_33
def fx_X11_comesTo (x1 : Int32) (x2 : Int32) (σ : mm_M) : mm_R := if x2 < (0 : Int32) then fx_X11_comesTo_J18 x1 x2 σ else mm_gd (mm_ix ((11 : Int32) + x2) 207 = true) (if (σ 10 31 0 ((11 : Int32) + x2).toNatClampNeg) = (7 : Int32) then fx_X11_comesTo_J18 x1 x2 σ else mm_bd (fx_X11_lays x1 (1 : Int32) x2 σ) fun _ s_4 => (some (0, s_4)))
set_option maxHeartbeats 4000000 in
set_option maxRecDepth 100000 in
theorem cx_X11_comesTo (l : Launch) (D : va_G) (ad : mm_A) (cA : Nat → ClassId) (hI : mm_Inj ad) (x1 : Int32) (x2 : Int32)  (σ : mm_M) (rv : Int32) (σ1 : mm_M) (hf : fx_X11_comesTo x1 x2 σ = some (rv, σ1)) : Met l yX11_comesTo (Cond.code yX11_comesTo cX11_comesTo 3 none :: tb) (mm_rm 2 44) (mm_pre D ad cA [.ref (ad 10 30 0), .int x1, .int x2] σ) (mm_Q D ad cA none σ1) 0 0 (mm_AS ad) := by
  refine mm_start (by decide +kernel) hI (Nat.le_of_ble_eq_true rfl) ?_
  intro p e s m args below meth c X hP ls hl
  have hl : lv_has ls 3 [(0, .ref (ad 10 30 0)), (1, .int x1), (2, .int x2)] := hl
  have hx := X.1
  have hb := X.2.1
  have hS : va_S (mm_AS ad) s.heap s.heap [] := va_S.rf
  have hgen : ∀ (H : Heap) (locs : List Loc), va_P D vwCl (mm_wd ad cA σ) H → va_S (mm_AS ad) s.heap H locs → W p l e (mm_rm 2 44) s m args below meth c H locs 0 0 (MQ below (mm_Q D ad cA none σ1) args s 0 0 (mm_AS ad)) (F0 m 0 ls []) := by
    intro H locs hP hS
    rw [fx_X11_comesTo] at hf
    refine lv_iload_n hx hb dX11_comesTo_0 rfl (lv_at hl 2 rfl) ?_
    refine lv_if_lt (tgt := 18) hx hb dX11_comesTo_1 (by decide) (fun c_1 => ?_) (fun c_1 => ?_)
    · replace hf := mm_it c_1 hf
      exact cx_X11_comesTo_J18 x1 x2 rv σ1 X σ H locs ls hf hP hS (lv_sub hl [0, 1] rfl)
    · replace hf := mm_if c_1 hf
      refine lv_aload_n hx hb dX11_comesTo_4 rfl (lv_at hl 0 rfl) ?_
      refine gf_30_0 X hP  wd_769 dX11_comesTo_5 ?_
      refine lv_bipush (v := (11 : Int32)) hx hb dX11_comesTo_8 (by decide) ?_
      refine lv_iload_n hx hb dX11_comesTo_10 rfl (lv_at hl 2 rfl) ?_
      refine lv_iadd hx hb dX11_comesTo_11 ?_
      obtain ⟨h_2, hf⟩ := mm_gd_ok hf
      refine al_31 X hP  h_2 dX11_comesTo_12 ?_
      refine lv_bipush (v := (7 : Int32)) hx hb dX11_comesTo_13 (by decide) ?_
      refine lv_icmp_ne (tgt := 26) hx hb dX11_comesTo_15 (by decide) (fun c_3 => ?_) (fun c_3 => ?_)
      · replace hf := mm_if c_3 hf
        refine lv_aload_n hx hb dX11_comesTo_26 rfl (lv_at hl 0 rfl) ?_
        refine lv_iload_n hx hb dX11_comesTo_27 rfl (lv_at hl 1 rfl) ?_
        refine lv_iconst (v := (1 : Int32)) hx hb dX11_comesTo_28 (by decide) ?_
        refine lv_iload_n hx hb dX11_comesTo_29 rfl (lv_at hl 2 rfl) ?_
        obtain ⟨r_4, s_4, e_4, hf⟩ := mm_bd_ok hf
        refine mm_callV X hP hS hl.1 [.int x1, .int (1 : Int32), .int x2] [] (cx_X11_lays l D ad cA hI x1 (1 : Int32) x2 σ r_4 s_4 e_4) kp_30 rfl rfl wd_891 wd_893 wp_25 wd_12 wd_894 hd_X11_lays ⟨Nat.le_of_ble_eq_true rfl, Nat.le_of_ble_eq_true rfl⟩ rfl (Nat.le_of_ble_eq_true rfl) dX11_comesTo_30 (fun H locs hP hS => ?_)
        obtain ⟨rfl, rfl⟩ := mm_ret hf
        exact mm_vret X hP hS dX11_comesTo_33
      · replace hf := mm_it c_3 hf
        exact cx_X11_comesTo_J18 x1 x2 rv σ1 X σ H locs ls hf hP hS (lv_sub hl [0, 1] rfl)
  exact hgen _ _ hP hS
def fx_X11_isInTheWay_J61 (x1 : Int32) (x2 : Int32) (x3 : Int32)  (v4 : Int32) (w0 : Int32) (σ : mm_M) : mm_R := if w0 = (0 : Int32) then mm_bd (fx_X11_wants x2 σ) fun r_13 s_13 => (if r_13 = v4 then some ((1 : Int32), s_13) else some ((0 : Int32), s_13)) else some ((1 : Int32), σ)
set_option maxHeartbeats 4000000 in
set_option maxRecDepth 100000 in
theorem cx_X11_isInTheWay_J61 {p : Program} {l : Launch} {e : Env} {s : State} {m : MethodId} {args : Array Value} {below : List Frame} {meth : Method} {c : Code} {D : va_G} {ad : mm_A} {cA : Nat → ClassId} (x1 : Int32) (x2 : Int32) (x3 : Int32)  (rv : Int32) (σ1 : mm_M)  (X : mm_X p s m args meth c cX11_isInTheWay 6 (some .boolean) RX11 D ad cA) : ∀ (v4 : Int32) (w0 : Int32) (σ : mm_M) (H : Heap) (locs : List Loc) (ls : Array Slot), fx_X11_isInTheWay_J61 x1 x2 x3 v4 w0 σ = some (rv, σ1) → va_P D vwCl (mm_wd ad cA σ) H → va_S (mm_AS ad) s.heap H locs → lv_has ls 6 [(0, .ref (ad 10 30 0)), (2, .int x2), (4, .int v4)] → W p l e (mm_rm 4 85) s m args below meth c H locs 0 0 (MQ below (mm_Q D ad cA (some (.int rv)) σ1) args s 0 0 (mm_AS ad)) (F0 m 61 ls [.int w0]) := by
  have hx := X.1
  have hb := X.2.1
  have hI := X.2.2.2.2.2.2.2.2.2
  intro v4 w0 σ H locs ls hf hP hS hl
  rw [fx_X11_isInTheWay_J61] at hf
  refine lv_istore (lv' := [(5, .int w0), (0, .ref (ad 10 30 0)), (2, .int x2), (4, .int v4)]) hx hb dX11_isInTheWay_61 hl (by decide) rfl (fun ls hl => ?_)
  refine lv_iload hx hb dX11_isInTheWay_63 (lv_at hl 0 rfl) ?_
  refine lv_if_ne (tgt := 78) hx hb dX11_isInTheWay_65 (by decide) (fun c_12 => ?_) (fun c_12 => ?_)
  · replace hf := mm_if c_12 hf
    refine lv_iconst (v := (1 : Int32)) hx hb dX11_isInTheWay_78 (by decide) ?_
    refine lv_goto (tgt := 83) hx hb dX11_isInTheWay_79 (by decide) ?_
    obtain ⟨rfl, rfl⟩ := mm_ret hf
    exact mm_zret (Or.inr rfl) X hP hS dX11_isInTheWay_83
  · replace hf := mm_it c_12 hf
    refine lv_aload_n hx hb dX11_isInTheWay_68 rfl (lv_at hl 1 rfl) ?_
    refine lv_iload_n hx hb dX11_isInTheWay_69 rfl (lv_at hl 2 rfl) ?_
    obtain ⟨r_13, s_13, e_13, hf⟩ := mm_bd_ok hf
    refine mm_callV X hP hS hl.1 [.int x2] [] (cx_X11_wants l D ad cA hI x2 σ r_13 s_13 e_13) kp_30 rfl rfl wd_990 wd_992 wp_46 wd_12 wd_993 hd_X11_wants ⟨Nat.le_of_ble_eq_true rfl, Nat.le_of_ble_eq_true rfl⟩ rfl (Nat.le_of_ble_eq_true rfl) dX11_isInTheWay_70 (fun H locs hP hS => ?_)
    refine lv_iload hx hb dX11_isInTheWay_73 (lv_at hl 3 rfl) ?_
    refine lv_icmp_ne (tgt := 82) hx hb dX11_isInTheWay_75 (by decide) (fun c_14 => ?_) (fun c_14 => ?_)
    · replace hf := mm_if c_14 hf
      refine lv_iconst (v := (0 : Int32)) hx hb dX11_isInTheWay_82 (by decide) ?_
      obtain ⟨rfl, rfl⟩ := mm_ret hf
      exact mm_zret (Or.inl rfl) X hP hS dX11_isInTheWay_83
    · replace hf := mm_it c_14 hf
      refine lv_iconst (v := (1 : Int32)) hx hb dX11_isInTheWay_78 (by decide) ?_
      refine lv_goto (tgt := 83) hx hb dX11_isInTheWay_79 (by decide) ?_
      obtain ⟨rfl, rfl⟩ := mm_ret hf
      exact mm_zret (Or.inr rfl) X hP hS dX11_isInTheWay_83
def fx_X11_isInTheWay_J60 (x1 : Int32) (x2 : Int32) (x3 : Int32)  (v4 : Int32) (σ : mm_M) : mm_R := fx_X11_isInTheWay_J61 x1 x2 x3 v4 (0 : Int32) σ
set_option maxHeartbeats 4000000 in
set_option maxRecDepth 100000 in
theorem cx_X11_isInTheWay_J60 {p : Program} {l : Launch} {e : Env} {s : State} {m : MethodId} {args : Array Value} {below : List Frame} {meth : Method} {c : Code} {D : va_G} {ad : mm_A} {cA : Nat → ClassId} (x1 : Int32) (x2 : Int32) (x3 : Int32)  (rv : Int32) (σ1 : mm_M)  (X : mm_X p s m args meth c cX11_isInTheWay 6 (some .boolean) RX11 D ad cA) : ∀ (v4 : Int32) (σ : mm_M) (H : Heap) (locs : List Loc) (ls : Array Slot), fx_X11_isInTheWay_J60 x1 x2 x3 v4 σ = some (rv, σ1) → va_P D vwCl (mm_wd ad cA σ) H → va_S (mm_AS ad) s.heap H locs → lv_has ls 6 [(0, .ref (ad 10 30 0)), (2, .int x2), (4, .int v4)] → W p l e (mm_rm 4 85) s m args below meth c H locs 0 0 (MQ below (mm_Q D ad cA (some (.int rv)) σ1) args s 0 0 (mm_AS ad)) (F0 m 60 ls []) := by
  have hx := X.1
  have hb := X.2.1
  have hI := X.2.2.2.2.2.2.2.2.2
  intro v4 σ H locs ls hf hP hS hl
  rw [fx_X11_isInTheWay_J60] at hf
  refine lv_iconst (v := (0 : Int32)) hx hb dX11_isInTheWay_60 (by decide) ?_
  exact cx_X11_isInTheWay_J61 x1 x2 x3 rv σ1 X v4 (0 : Int32) σ H locs ls hf hP hS (lv_sub hl [0, 1, 2] rfl)
def fx_X11_isInTheWay (x1 : Int32) (x2 : Int32) (x3 : Int32) (σ : mm_M) : mm_R := mm_bd (fx_X11_wants x1 σ) fun r_1 s_1 => (if x2 = x1 then some ((0 : Int32), s_1) else if r_1 < (0 : Int32) then some ((0 : Int32), s_1) else mm_bd (fx_X11_isOut x2 s_1) fun r_4 s_4 => (if r_4 = (0 : Int32) then mm_bd (fx_X11_of x2 (1 : Int32) s_4) fun r_6 s_6 => (if r_6 = r_1 then if x3 = (0 : Int32) then fx_X11_isInTheWay_J61 x1 x2 x3 r_1 (1 : Int32) s_6 else mm_bd (fx_X11_wants x2 s_6) fun r_9 s_9 => (mm_bd (fx_X11_of x1 (1 : Int32) s_9) fun r_10 s_10 => (if r_9 = r_10 then fx_X11_isInTheWay_J61 x1 x2 x3 r_1 (1 : Int32) s_10 else fx_X11_isInTheWay_J60 x1 x2 x3 r_1 s_10)) else fx_X11_isInTheWay_J60 x1 x2 x3 r_1 s_6) else some ((0 : Int32), s_4)))
set_option maxHeartbeats 4000000 in
set_option maxRecDepth 100000 in
theorem cx_X11_isInTheWay (l : Launch) (D : va_G) (ad : mm_A) (cA : Nat → ClassId) (hI : mm_Inj ad) (x1 : Int32) (x2 : Int32) (x3 : Int32)  (σ : mm_M) (rv : Int32) (σ1 : mm_M) (hf : fx_X11_isInTheWay x1 x2 x3 σ = some (rv, σ1)) : Met l yX11_isInTheWay (Cond.code yX11_isInTheWay cX11_isInTheWay 6 (some .boolean) :: tb) (mm_rm 4 85) (mm_pre D ad cA [.ref (ad 10 30 0), .int x1, .int x2, .int x3] σ) (mm_Q D ad cA (some (.int rv)) σ1) 0 0 (mm_AS ad) := by
  refine mm_start (by decide +kernel) hI (Nat.le_of_ble_eq_true rfl) ?_
  intro p e s m args below meth c X hP ls hl
  have hl : lv_has ls 6 [(0, .ref (ad 10 30 0)), (1, .int x1), (2, .int x2), (3, .int x3)] := hl
  have hx := X.1
  have hb := X.2.1
  have hS : va_S (mm_AS ad) s.heap s.heap [] := va_S.rf
  have hgen : ∀ (H : Heap) (locs : List Loc), va_P D vwCl (mm_wd ad cA σ) H → va_S (mm_AS ad) s.heap H locs → W p l e (mm_rm 4 85) s m args below meth c H locs 0 0 (MQ below (mm_Q D ad cA (some (.int rv)) σ1) args s 0 0 (mm_AS ad)) (F0 m 0 ls []) := by
    intro H locs hP hS
    rw [fx_X11_isInTheWay] at hf
    refine lv_aload_n hx hb dX11_isInTheWay_0 rfl (lv_at hl 0 rfl) ?_
    refine lv_iload_n hx hb dX11_isInTheWay_1 rfl (lv_at hl 1 rfl) ?_
    obtain ⟨r_1, s_1, e_1, hf⟩ := mm_bd_ok hf
    refine mm_callV X hP hS hl.1 [.int x1] [] (cx_X11_wants l D ad cA hI x1 σ r_1 s_1 e_1) kp_30 rfl rfl wd_990 wd_992 wp_46 wd_12 wd_993 hd_X11_wants ⟨Nat.le_of_ble_eq_true rfl, Nat.le_of_ble_eq_true rfl⟩ rfl (Nat.le_of_ble_eq_true rfl) dX11_isInTheWay_2 (fun H locs hP hS => ?_)
    refine lv_istore (lv' := [(4, .int r_1), (0, .ref (ad 10 30 0)), (1, .int x1), (2, .int x2), (3, .int x3)]) hx hb dX11_isInTheWay_5 hl (by decide) rfl (fun ls hl => ?_)
    refine lv_iload_n hx hb dX11_isInTheWay_7 rfl (lv_at hl 3 rfl) ?_
    refine lv_iload_n hx hb dX11_isInTheWay_8 rfl (lv_at hl 2 rfl) ?_
    refine lv_icmp_eq (tgt := 25) hx hb dX11_isInTheWay_9 (by decide) (fun c_2 => ?_) (fun c_2 => ?_)
    · replace hf := mm_it c_2 hf
      refine lv_iconst (v := (0 : Int32)) hx hb dX11_isInTheWay_25 (by decide) ?_
      obtain ⟨rfl, rfl⟩ := mm_ret hf
      exact mm_zret (Or.inl rfl) X hP hS dX11_isInTheWay_26
    · replace hf := mm_if c_2 hf
      refine lv_iload hx hb dX11_isInTheWay_12 (lv_at hl 0 rfl) ?_
      refine lv_if_lt (tgt := 25) hx hb dX11_isInTheWay_14 (by decide) (fun c_3 => ?_) (fun c_3 => ?_)
      · replace hf := mm_it c_3 hf
        refine lv_iconst (v := (0 : Int32)) hx hb dX11_isInTheWay_25 (by decide) ?_
        obtain ⟨rfl, rfl⟩ := mm_ret hf
        exact mm_zret (Or.inl rfl) X hP hS dX11_isInTheWay_26
      · replace hf := mm_if c_3 hf
        refine lv_aload_n hx hb dX11_isInTheWay_17 rfl (lv_at hl 1 rfl) ?_
        refine lv_iload_n hx hb dX11_isInTheWay_18 rfl (lv_at hl 3 rfl) ?_
        obtain ⟨r_4, s_4, e_4, hf⟩ := mm_bd_ok hf
        refine mm_callV X hP hS hl.1 [.int x2] [] (cx_X11_isOut l D ad cA hI x2 s_1 r_4 s_4 e_4) kp_30 rfl rfl wd_907 wd_909 wp_28 wd_12 wd_910 hd_X11_isOut ⟨Nat.le_of_ble_eq_true rfl, Nat.le_of_ble_eq_true rfl⟩ rfl (Nat.le_of_ble_eq_true rfl) dX11_isInTheWay_19 (fun H locs hP hS => ?_)
        refine lv_if_eq (tgt := 27) hx hb dX11_isInTheWay_22 (by decide) (fun c_5 => ?_) (fun c_5 => ?_)
        · replace hf := mm_it c_5 hf
          refine lv_aload_n hx hb dX11_isInTheWay_27 rfl (lv_at hl 1 rfl) ?_
          refine lv_iload_n hx hb dX11_isInTheWay_28 rfl (lv_at hl 3 rfl) ?_
          refine lv_iconst (v := (1 : Int32)) hx hb dX11_isInTheWay_29 (by decide) ?_
          obtain ⟨r_6, s_6, e_6, hf⟩ := mm_bd_ok hf
          refine mm_callV X hP hS hl.1 [.int x2, .int (1 : Int32)] [] (cx_X11_of l D ad cA hI x2 (1 : Int32) s_4 r_6 s_6 e_6) kp_30 rfl rfl wd_850 wd_852 wp_19 wd_12 wd_853 hd_X11_of ⟨Nat.le_of_ble_eq_true rfl, Nat.le_of_ble_eq_true rfl⟩ rfl (Nat.le_of_ble_eq_true rfl) dX11_isInTheWay_30 (fun H locs hP hS => ?_)
          refine lv_iload hx hb dX11_isInTheWay_33 (lv_at hl 0 rfl) ?_
          refine lv_icmp_ne (tgt := 60) hx hb dX11_isInTheWay_35 (by decide) (fun c_7 => ?_) (fun c_7 => ?_)
          · replace hf := mm_if c_7 hf
            exact cx_X11_isInTheWay_J60 x1 x2 x3 rv σ1 X r_1 s_6 H locs ls hf hP hS (lv_sub hl [1, 3, 0] rfl)
          · replace hf := mm_it c_7 hf
            refine lv_iload_n hx hb dX11_isInTheWay_38 rfl (lv_at hl 4 rfl) ?_
            refine lv_if_eq (tgt := 56) hx hb dX11_isInTheWay_39 (by decide) (fun c_8 => ?_) (fun c_8 => ?_)
            · replace hf := mm_it c_8 hf
              refine lv_iconst (v := (1 : Int32)) hx hb dX11_isInTheWay_56 (by decide) ?_
              refine lv_goto (tgt := 61) hx hb dX11_isInTheWay_57 (by decide) ?_
              exact cx_X11_isInTheWay_J61 x1 x2 x3 rv σ1 X r_1 (1 : Int32) s_6 H locs ls hf hP hS (lv_sub hl [1, 3, 0] rfl)
            · replace hf := mm_if c_8 hf
              refine lv_aload_n hx hb dX11_isInTheWay_42 rfl (lv_at hl 1 rfl) ?_
              refine lv_iload_n hx hb dX11_isInTheWay_43 rfl (lv_at hl 3 rfl) ?_
              obtain ⟨r_9, s_9, e_9, hf⟩ := mm_bd_ok hf
              refine mm_callV X hP hS hl.1 [.int x2] [] (cx_X11_wants l D ad cA hI x2 s_6 r_9 s_9 e_9) kp_30 rfl rfl wd_990 wd_992 wp_46 wd_12 wd_993 hd_X11_wants ⟨Nat.le_of_ble_eq_true rfl, Nat.le_of_ble_eq_true rfl⟩ rfl (Nat.le_of_ble_eq_true rfl) dX11_isInTheWay_44 (fun H locs hP hS => ?_)
              refine lv_aload_n hx hb dX11_isInTheWay_47 rfl (lv_at hl 1 rfl) ?_
              refine lv_iload_n hx hb dX11_isInTheWay_48 rfl (lv_at hl 2 rfl) ?_
              refine lv_iconst (v := (1 : Int32)) hx hb dX11_isInTheWay_49 (by decide) ?_
              obtain ⟨r_10, s_10, e_10, hf⟩ := mm_bd_ok hf
              refine mm_callV X hP hS hl.1 [.int x1, .int (1 : Int32)] [.int r_9] (cx_X11_of l D ad cA hI x1 (1 : Int32) s_9 r_10 s_10 e_10) kp_30 rfl rfl wd_850 wd_852 wp_19 wd_12 wd_853 hd_X11_of ⟨Nat.le_of_ble_eq_true rfl, Nat.le_of_ble_eq_true rfl⟩ rfl (Nat.le_of_ble_eq_true rfl) dX11_isInTheWay_50 (fun H locs hP hS => ?_)
              refine lv_icmp_ne (tgt := 60) hx hb dX11_isInTheWay_53 (by decide) (fun c_11 => ?_) (fun c_11 => ?_)
              · replace hf := mm_if c_11 hf
                exact cx_X11_isInTheWay_J60 x1 x2 x3 rv σ1 X r_1 s_10 H locs ls hf hP hS (lv_sub hl [1, 3, 0] rfl)
              · replace hf := mm_it c_11 hf
                refine lv_iconst (v := (1 : Int32)) hx hb dX11_isInTheWay_56 (by decide) ?_
                refine lv_goto (tgt := 61) hx hb dX11_isInTheWay_57 (by decide) ?_
                exact cx_X11_isInTheWay_J61 x1 x2 x3 rv σ1 X r_1 (1 : Int32) s_10 H locs ls hf hP hS (lv_sub hl [1, 3, 0] rfl)
        · replace hf := mm_if c_5 hf
          refine lv_iconst (v := (0 : Int32)) hx hb dX11_isInTheWay_25 (by decide) ?_
          obtain ⟨rfl, rfl⟩ := mm_ret hf
          exact mm_zret (Or.inl rfl) X hP hS dX11_isInTheWay_26
  exact hgen _ _ hP hS
def fx_X11_stays_J38 (x1 : Int32) (k4 : Int32 → Int32 → mm_M → mm_R) (v3 : Int32) (w0 : Int32) (σ : mm_M) : mm_R := mm_li (v3 + (1 : Int32)) fun y_7 => (k4 w0 y_7 σ)
set_option maxHeartbeats 4000000 in
set_option maxRecDepth 100000 in
theorem cx_X11_stays_J38 {p : Program} {l : Launch} {e : Env} {s : State} {m : MethodId} {args : Array Value} {below : List Frame} {meth : Method} {c : Code} {D : va_G} {ad : mm_A} {cA : Nat → ClassId} (x1 : Int32)  (rv : Int32) (σ1 : mm_M) (k4 : Int32 → Int32 → mm_M → mm_R) (hk4 : ∀ (v2 : Int32) (v3 : Int32) (σ : mm_M) (H : Heap) (locs : List Loc) (ls : Array Slot), k4 v2 v3 σ = some (rv, σ1) → va_P D vwCl (mm_wd ad cA σ) H → va_S (mm_AS ad) s.heap H locs → lv_has ls 4 [(0, .ref (ad 10 30 0)), (1, .int x1), (2, .int v2), (3, .int v3)] → W p l e (mm_rm 5 110) s m args below meth c H locs 0 0 (MQ below (mm_Q D ad cA (some (.int rv)) σ1) args s 0 0 (mm_AS ad)) (F0 m 4 ls [])) (X : mm_X p s m args meth c cX11_stays 4 (some .boolean) RX11 D ad cA) : ∀ (v3 : Int32) (w0 : Int32) (σ : mm_M) (H : Heap) (locs : List Loc) (ls : Array Slot), fx_X11_stays_J38 x1 k4 v3 w0 σ = some (rv, σ1) → va_P D vwCl (mm_wd ad cA σ) H → va_S (mm_AS ad) s.heap H locs → lv_has ls 4 [(0, .ref (ad 10 30 0)), (1, .int x1), (3, .int v3)] → W p l e (mm_rm 5 110) s m args below meth c H locs 0 0 (MQ below (mm_Q D ad cA (some (.int rv)) σ1) args s 0 0 (mm_AS ad)) (F0 m 38 ls [.int w0]) := by
  have hx := X.1
  have hb := X.2.1
  have hI := X.2.2.2.2.2.2.2.2.2
  intro v3 w0 σ H locs ls hf hP hS hl
  rw [fx_X11_stays_J38] at hf
  refine lv_istore_n (lv' := [(2, .int w0), (0, .ref (ad 10 30 0)), (1, .int x1), (3, .int v3)]) hx hb dX11_stays_38 rfl hl (by decide) rfl (fun ls hl => ?_)
  obtain ⟨y_7, e_7, hf⟩ := mm_li_ok hf
  refine lv_iinc (v := y_7) (lv' := [(3, .int y_7), (2, .int w0), (0, .ref (ad 10 30 0)), (1, .int x1)]) hx hb dX11_stays_39 hl (k := 3) rfl (by rw [e_7]; rfl) (by decide) rfl (fun ls hl => ?_)
  refine lv_goto (tgt := 4) hx hb dX11_stays_42 (by decide) ?_
  exact hk4 w0 y_7 σ H locs ls  hf hP hS (lv_sub hl [2, 3, 1, 0] rfl)
def fx_X11_stays_L4 (x1 : Int32)  : Nat → Int32 → Int32 → mm_M → mm_R
  | 0, _, _, _ => none
  | fu + 1, v2, v3, σ => if (σ 10 31 0 (0 : Int32).toNatClampNeg) ≤ v3 then mm_gd (v2 = 0 ∨ v2 = 1) (some (v2, σ)) else if v2 = (0 : Int32) then mm_gd (mm_ix v3 4 = true) (mm_bd (fx_X11_isInTheWay x1 v3 (σ 10 38 0 v3.toNatClampNeg) σ) fun r_5 s_5 => (if r_5 = (0 : Int32) then fx_X11_stays_J38 x1 (fun z0 z1 z => fx_X11_stays_L4 x1 fu z0 z1 z) v3 (0 : Int32) s_5 else fx_X11_stays_J38 x1 (fun z0 z1 z => fx_X11_stays_L4 x1 fu z0 z1 z) v3 (1 : Int32) s_5)) else fx_X11_stays_J38 x1 (fun z0 z1 z => fx_X11_stays_L4 x1 fu z0 z1 z) v3 (1 : Int32) σ
set_option maxHeartbeats 4000000 in
set_option maxRecDepth 100000 in
theorem cx_X11_stays_L4 {p : Program} {l : Launch} {e : Env} {s : State} {m : MethodId} {args : Array Value} {below : List Frame} {meth : Method} {c : Code} {D : va_G} {ad : mm_A} {cA : Nat → ClassId} (x1 : Int32)  (rv : Int32) (σ1 : mm_M)  (X : mm_X p s m args meth c cX11_stays 4 (some .boolean) RX11 D ad cA) : ∀ (fu : Nat), ∀ (v2 : Int32) (v3 : Int32) (σ : mm_M) (H : Heap) (locs : List Loc) (ls : Array Slot), fx_X11_stays_L4 x1 fu v2 v3 σ = some (rv, σ1) → va_P D vwCl (mm_wd ad cA σ) H → va_S (mm_AS ad) s.heap H locs → lv_has ls 4 [(0, .ref (ad 10 30 0)), (1, .int x1), (2, .int v2), (3, .int v3)] → W p l e (mm_rm 5 110) s m args below meth c H locs 0 0 (MQ below (mm_Q D ad cA (some (.int rv)) σ1) args s 0 0 (mm_AS ad)) (F0 m 4 ls []) := by
  have hx := X.1
  have hb := X.2.1
  have hI := X.2.2.2.2.2.2.2.2.2
  intro fu
  induction fu with
  | zero =>
    intro v2 v3 σ H locs ls hf
    exact mm_no hf
  | succ fu ih =>
    intro v2 v3 σ H locs ls hf hP hS hl
    rw [fx_X11_stays_L4] at hf
    refine lv_iload_n hx hb dX11_stays_4 rfl (lv_at hl 3 rfl) ?_
    refine lv_aload_n hx hb dX11_stays_5 rfl (lv_at hl 0 rfl) ?_
    refine gf_30_0 X hP  wd_769 dX11_stays_6 ?_
    refine lv_iconst (v := (0 : Int32)) hx hb dX11_stays_9 (by decide) ?_
    refine al_31 X hP  (by decide : mm_ix (0 : Int32) 207 = true) dX11_stays_10 ?_
    refine lv_icmp_ge (tgt := 45) hx hb dX11_stays_11 (by decide) (fun c_1 => ?_) (fun c_1 => ?_)
    · replace hf := mm_it c_1 hf
      refine lv_iload_n hx hb dX11_stays_45 rfl (lv_at hl 2 rfl) ?_
      obtain ⟨h_2, hf⟩ := mm_gd_ok hf
      obtain ⟨rfl, rfl⟩ := mm_ret hf
      exact mm_zret h_2 X hP hS dX11_stays_46
    · replace hf := mm_if c_1 hf
      refine lv_iload_n hx hb dX11_stays_14 rfl (lv_at hl 2 rfl) ?_
      refine lv_if_ne (tgt := 33) hx hb dX11_stays_15 (by decide) (fun c_3 => ?_) (fun c_3 => ?_)
      · replace hf := mm_if c_3 hf
        refine lv_iconst (v := (1 : Int32)) hx hb dX11_stays_33 (by decide) ?_
        refine lv_goto (tgt := 38) hx hb dX11_stays_34 (by decide) ?_
        exact cx_X11_stays_J38 x1 rv σ1 (fun z0 z1 z => fx_X11_stays_L4 x1 fu z0 z1 z) ih X v3 (1 : Int32) σ H locs ls hf hP hS (lv_sub hl [0, 1, 3] rfl)
      · replace hf := mm_it c_3 hf
        refine lv_aload_n hx hb dX11_stays_18 rfl (lv_at hl 0 rfl) ?_
        refine lv_iload_n hx hb dX11_stays_19 rfl (lv_at hl 1 rfl) ?_
        refine lv_iload_n hx hb dX11_stays_20 rfl (lv_at hl 3 rfl) ?_
        refine lv_aload_n hx hb dX11_stays_21 rfl (lv_at hl 0 rfl) ?_
        refine gf_30_10 X hP  wd_779 dX11_stays_22 ?_
        refine lv_iload_n hx hb dX11_stays_25 rfl (lv_at hl 3 rfl) ?_
        obtain ⟨h_4, hf⟩ := mm_gd_ok hf
        refine al_38 X hP  h_4 dX11_stays_26 ?_
        obtain ⟨r_5, s_5, e_5, hf⟩ := mm_bd_ok hf
        refine mm_callV X hP hS hl.1 [.int x1, .int v3, .int (σ 10 38 0 v3.toNatClampNeg)] [] (cx_X11_isInTheWay l D ad cA hI x1 v3 (σ 10 38 0 v3.toNatClampNeg) σ r_5 s_5 e_5) kp_30 rfl rfl wd_998 wd_1000 wp_48 wd_12 wd_1001 hd_X11_isInTheWay ⟨Nat.le_of_ble_eq_true rfl, Nat.le_of_ble_eq_true rfl⟩ rfl (Nat.le_of_ble_eq_true rfl) dX11_stays_27 (fun H locs hP hS => ?_)
        refine lv_if_eq (tgt := 37) hx hb dX11_stays_30 (by decide) (fun c_6 => ?_) (fun c_6 => ?_)
        · replace hf := mm_it c_6 hf
          refine lv_iconst (v := (0 : Int32)) hx hb dX11_stays_37 (by decide) ?_
          exact cx_X11_stays_J38 x1 rv σ1 (fun z0 z1 z => fx_X11_stays_L4 x1 fu z0 z1 z) ih X v3 (0 : Int32) s_5 H locs ls hf hP hS (lv_sub hl [0, 1, 3] rfl)
        · replace hf := mm_if c_6 hf
          refine lv_iconst (v := (1 : Int32)) hx hb dX11_stays_33 (by decide) ?_
          refine lv_goto (tgt := 38) hx hb dX11_stays_34 (by decide) ?_
          exact cx_X11_stays_J38 x1 rv σ1 (fun z0 z1 z => fx_X11_stays_L4 x1 fu z0 z1 z) ih X v3 (1 : Int32) s_5 H locs ls hf hP hS (lv_sub hl [0, 1, 3] rfl)
def fx_X11_stays (x1 : Int32) (σ : mm_M) : mm_R := fx_X11_stays_L4 x1 mm_FU (0 : Int32) (0 : Int32) σ
set_option maxHeartbeats 4000000 in
set_option maxRecDepth 100000 in
theorem cx_X11_stays (l : Launch) (D : va_G) (ad : mm_A) (cA : Nat → ClassId) (hI : mm_Inj ad) (x1 : Int32)  (σ : mm_M) (rv : Int32) (σ1 : mm_M) (hf : fx_X11_stays x1 σ = some (rv, σ1)) : Met l yX11_stays (Cond.code yX11_stays cX11_stays 4 (some .boolean) :: tb) (mm_rm 5 110) (mm_pre D ad cA [.ref (ad 10 30 0), .int x1] σ) (mm_Q D ad cA (some (.int rv)) σ1) 0 0 (mm_AS ad) := by
  refine mm_start (by decide +kernel) hI (Nat.le_of_ble_eq_true rfl) ?_
  intro p e s m args below meth c X hP ls hl
  have hl : lv_has ls 4 [(0, .ref (ad 10 30 0)), (1, .int x1)] := hl
  have hx := X.1
  have hb := X.2.1
  have hS : va_S (mm_AS ad) s.heap s.heap [] := va_S.rf
  have hgen : ∀ (H : Heap) (locs : List Loc), va_P D vwCl (mm_wd ad cA σ) H → va_S (mm_AS ad) s.heap H locs → W p l e (mm_rm 5 110) s m args below meth c H locs 0 0 (MQ below (mm_Q D ad cA (some (.int rv)) σ1) args s 0 0 (mm_AS ad)) (F0 m 0 ls []) := by
    intro H locs hP hS
    rw [fx_X11_stays] at hf
    refine lv_iconst (v := (0 : Int32)) hx hb dX11_stays_0 (by decide) ?_
    refine lv_istore_n (lv' := [(2, .int (0 : Int32)), (0, .ref (ad 10 30 0)), (1, .int x1)]) hx hb dX11_stays_1 rfl hl (by decide) rfl (fun ls hl => ?_)
    refine lv_iconst (v := (0 : Int32)) hx hb dX11_stays_2 (by decide) ?_
    refine lv_istore_n (lv' := [(3, .int (0 : Int32)), (2, .int (0 : Int32)), (0, .ref (ad 10 30 0)), (1, .int x1)]) hx hb dX11_stays_3 rfl hl (by decide) rfl (fun ls hl => ?_)
    exact cx_X11_stays_L4 x1 rv σ1 X mm_FU (0 : Int32) (0 : Int32) σ H locs ls hf hP hS (lv_sub hl [2, 3, 1, 0] rfl)
  exact hgen _ _ hP hS
def fx_X11_belts_J59  (k2 : Int32 → mm_M → mm_R) (v1 : Int32) (w1 : Int32) (w2 : Int32) (σ : mm_M) : mm_R := mm_gd (mm_ix w1 4 = true) (mm_gd (w2 = 0 ∨ w2 = 1) (mm_lt (mm_u σ 10 38 0 w1.toNatClampNeg w2) fun s_12 => (mm_bd (fx_X11_wants v1 s_12) fun r_13 s_13 => (mm_gd (mm_ix v1 4 = true) (mm_lt (mm_u s_13 10 39 0 v1.toNatClampNeg r_13) fun s_15 => (mm_li (v1 + (1 : Int32)) fun y_16 => (k2 y_16 s_15)))))))
set_option maxHeartbeats 4000000 in
set_option maxRecDepth 100000 in
theorem cx_X11_belts_J59 {p : Program} {l : Launch} {e : Env} {s : State} {m : MethodId} {args : Array Value} {below : List Frame} {meth : Method} {c : Code} {D : va_G} {ad : mm_A} {cA : Nat → ClassId}   (rv : Int32) (σ1 : mm_M) (k2 : Int32 → mm_M → mm_R) (hk2 : ∀ (v1 : Int32) (σ : mm_M) (H : Heap) (locs : List Loc) (ls : Array Slot), k2 v1 σ = some (rv, σ1) → va_P D vwCl (mm_wd ad cA σ) H → va_S (mm_AS ad) s.heap H locs → lv_has ls 3 [(0, .ref (ad 10 30 0)), (1, .int v1)] → W p l e (mm_rm 6 133) s m args below meth c H locs 0 0 (MQ below (mm_Q D ad cA none σ1) args s 0 0 (mm_AS ad)) (F0 m 2 ls [])) (X : mm_X p s m args meth c cX11_belts 3 none RX11 D ad cA) : ∀ (v1 : Int32) (w1 : Int32) (w2 : Int32) (σ : mm_M) (H : Heap) (locs : List Loc) (ls : Array Slot), fx_X11_belts_J59 k2 v1 w1 w2 σ = some (rv, σ1) → va_P D vwCl (mm_wd ad cA σ) H → va_S (mm_AS ad) s.heap H locs → lv_has ls 3 [(0, .ref (ad 10 30 0)), (1, .int v1)] → W p l e (mm_rm 6 133) s m args below meth c H locs 0 0 (MQ below (mm_Q D ad cA none σ1) args s 0 0 (mm_AS ad)) (F0 m 59 ls [.int w2, .int w1, .ref (ad 10 38 0)]) := by
  have hx := X.1
  have hb := X.2.1
  have hI := X.2.2.2.2.2.2.2.2.2
  intro v1 w1 w2 σ H locs ls hf hP hS hl
  rw [fx_X11_belts_J59] at hf
  obtain ⟨h_10, hf⟩ := mm_gd_ok hf
  obtain ⟨h_11, hf⟩ := mm_gd_ok hf
  refine as_38 X hP hS  h_10 h_11 dX11_belts_59 (fun H locs hP hS => ?_)
  obtain ⟨s_12, e_12, hf⟩ := mm_lt_ok hf
  rw [← e_12] at hP
  refine lv_aload_n hx hb dX11_belts_60 rfl (lv_at hl 0 rfl) ?_
  refine gf_30_11 X hP  wd_780 dX11_belts_61 ?_
  refine lv_iload_n hx hb dX11_belts_64 rfl (lv_at hl 1 rfl) ?_
  refine lv_aload_n hx hb dX11_belts_65 rfl (lv_at hl 0 rfl) ?_
  refine lv_iload_n hx hb dX11_belts_66 rfl (lv_at hl 1 rfl) ?_
  obtain ⟨r_13, s_13, e_13, hf⟩ := mm_bd_ok hf
  refine mm_callV X hP hS hl.1 [.int v1] [.int v1, .ref (ad 10 39 0)] (cx_X11_wants l D ad cA hI v1 s_12 r_13 s_13 e_13) kp_30 rfl rfl wd_990 wd_992 wp_46 wd_12 wd_993 hd_X11_wants ⟨Nat.le_of_ble_eq_true rfl, Nat.le_of_ble_eq_true rfl⟩ rfl (Nat.le_of_ble_eq_true rfl) dX11_belts_67 (fun H locs hP hS => ?_)
  obtain ⟨h_14, hf⟩ := mm_gd_ok hf
  refine as_39 X hP hS  h_14  dX11_belts_70 (fun H locs hP hS => ?_)
  obtain ⟨s_15, e_15, hf⟩ := mm_lt_ok hf
  rw [← e_15] at hP
  obtain ⟨y_16, e_16, hf⟩ := mm_li_ok hf
  refine lv_iinc (v := y_16) (lv' := [(1, .int y_16), (0, .ref (ad 10 30 0))]) hx hb dX11_belts_71 hl (k := 1) rfl (by rw [e_16]; rfl) (by decide) rfl (fun ls hl => ?_)
  refine lv_goto (tgt := 2) hx hb dX11_belts_74 (by decide) ?_
  exact hk2 y_16 s_15 H locs ls  hf hP hS (lv_sub hl [1, 0] rfl)
def fx_X11_belts_J58  (k2 : Int32 → mm_M → mm_R) (v1 : Int32) (w1 : Int32) (σ : mm_M) : mm_R := fx_X11_belts_J59 k2 v1 w1 (0 : Int32) σ
set_option maxHeartbeats 4000000 in
set_option maxRecDepth 100000 in
theorem cx_X11_belts_J58 {p : Program} {l : Launch} {e : Env} {s : State} {m : MethodId} {args : Array Value} {below : List Frame} {meth : Method} {c : Code} {D : va_G} {ad : mm_A} {cA : Nat → ClassId}   (rv : Int32) (σ1 : mm_M) (k2 : Int32 → mm_M → mm_R) (hk2 : ∀ (v1 : Int32) (σ : mm_M) (H : Heap) (locs : List Loc) (ls : Array Slot), k2 v1 σ = some (rv, σ1) → va_P D vwCl (mm_wd ad cA σ) H → va_S (mm_AS ad) s.heap H locs → lv_has ls 3 [(0, .ref (ad 10 30 0)), (1, .int v1)] → W p l e (mm_rm 6 133) s m args below meth c H locs 0 0 (MQ below (mm_Q D ad cA none σ1) args s 0 0 (mm_AS ad)) (F0 m 2 ls [])) (X : mm_X p s m args meth c cX11_belts 3 none RX11 D ad cA) : ∀ (v1 : Int32) (w1 : Int32) (σ : mm_M) (H : Heap) (locs : List Loc) (ls : Array Slot), fx_X11_belts_J58 k2 v1 w1 σ = some (rv, σ1) → va_P D vwCl (mm_wd ad cA σ) H → va_S (mm_AS ad) s.heap H locs → lv_has ls 3 [(0, .ref (ad 10 30 0)), (1, .int v1)] → W p l e (mm_rm 6 133) s m args below meth c H locs 0 0 (MQ below (mm_Q D ad cA none σ1) args s 0 0 (mm_AS ad)) (F0 m 58 ls [.int w1, .ref (ad 10 38 0)]) := by
  have hx := X.1
  have hb := X.2.1
  have hI := X.2.2.2.2.2.2.2.2.2
  intro v1 w1 σ H locs ls hf hP hS hl
  rw [fx_X11_belts_J58] at hf
  refine lv_iconst (v := (0 : Int32)) hx hb dX11_belts_58 (by decide) ?_
  exact cx_X11_belts_J59 rv σ1 k2 hk2 X v1 w1 (0 : Int32) σ H locs ls hf hP hS (lv_sub hl [0, 1] rfl)
def fx_X11_belts_L87  (k79 : Int32 → mm_M → mm_R) : Nat → Int32 → Int32 → mm_M → mm_R
  | 0, _, _, _ => none
  | fu + 1, v1, v2, σ => if (σ 10 31 0 (0 : Int32).toNatClampNeg) ≤ v2 then k79 v1 σ else mm_gd (mm_ix v2 4 = true) (if (σ 10 38 0 v2.toNatClampNeg) = (0 : Int32) then mm_li (v2 + (1 : Int32)) fun y_27 => (fx_X11_belts_L87 k79 fu v1 y_27 σ) else mm_bd (fx_X11_stays v2 σ) fun r_28 s_28 => (if r_28 = (0 : Int32) then mm_li (v2 + (1 : Int32)) fun y_30 => (fx_X11_belts_L87 k79 fu v1 y_30 s_28) else mm_gd (mm_ix v2 4 = true) (mm_lt (mm_u s_28 10 38 0 v2.toNatClampNeg (0 : Int32)) fun s_32 => (mm_li (v2 + (1 : Int32)) fun y_33 => (fx_X11_belts_L87 k79 fu (1 : Int32) y_33 s_32)))))
set_option maxHeartbeats 4000000 in
set_option maxRecDepth 100000 in
theorem cx_X11_belts_L87 {p : Program} {l : Launch} {e : Env} {s : State} {m : MethodId} {args : Array Value} {below : List Frame} {meth : Method} {c : Code} {D : va_G} {ad : mm_A} {cA : Nat → ClassId}   (rv : Int32) (σ1 : mm_M) (k79 : Int32 → mm_M → mm_R) (hk79 : ∀ (v1 : Int32) (σ : mm_M) (H : Heap) (locs : List Loc) (ls : Array Slot), k79 v1 σ = some (rv, σ1) → va_P D vwCl (mm_wd ad cA σ) H → va_S (mm_AS ad) s.heap H locs → lv_has ls 3 [(0, .ref (ad 10 30 0)), (1, .int v1)] → W p l e (mm_rm 6 133) s m args below meth c H locs 0 0 (MQ below (mm_Q D ad cA none σ1) args s 0 0 (mm_AS ad)) (F0 m 79 ls [])) (X : mm_X p s m args meth c cX11_belts 3 none RX11 D ad cA) : ∀ (fu : Nat), ∀ (v1 : Int32) (v2 : Int32) (σ : mm_M) (H : Heap) (locs : List Loc) (ls : Array Slot), fx_X11_belts_L87 k79 fu v1 v2 σ = some (rv, σ1) → va_P D vwCl (mm_wd ad cA σ) H → va_S (mm_AS ad) s.heap H locs → lv_has ls 3 [(0, .ref (ad 10 30 0)), (1, .int v1), (2, .int v2)] → W p l e (mm_rm 6 133) s m args below meth c H locs 0 0 (MQ below (mm_Q D ad cA none σ1) args s 0 0 (mm_AS ad)) (F0 m 87 ls []) := by
  have hx := X.1
  have hb := X.2.1
  have hI := X.2.2.2.2.2.2.2.2.2
  intro fu
  induction fu with
  | zero =>
    intro v1 v2 σ H locs ls hf
    exact mm_no hf
  | succ fu ih =>
    intro v1 v2 σ H locs ls hf hP hS hl
    rw [fx_X11_belts_L87] at hf
    refine lv_iload_n hx hb dX11_belts_87 rfl (lv_at hl 2 rfl) ?_
    refine lv_aload_n hx hb dX11_belts_88 rfl (lv_at hl 0 rfl) ?_
    refine gf_30_0 X hP  wd_769 dX11_belts_89 ?_
    refine lv_iconst (v := (0 : Int32)) hx hb dX11_belts_92 (by decide) ?_
    refine al_31 X hP  (by decide : mm_ix (0 : Int32) 207 = true) dX11_belts_93 ?_
    refine lv_icmp_ge (tgt := 129) hx hb dX11_belts_94 (by decide) (fun c_24 => ?_) (fun c_24 => ?_)
    · replace hf := mm_it c_24 hf
      refine lv_goto (tgt := 79) hx hb dX11_belts_129 (by decide) ?_
      exact hk79 v1 σ H locs ls  hf hP hS (lv_sub hl [0, 1] rfl)
    · replace hf := mm_if c_24 hf
      refine lv_aload_n hx hb dX11_belts_97 rfl (lv_at hl 0 rfl) ?_
      refine gf_30_10 X hP  wd_779 dX11_belts_98 ?_
      refine lv_iload_n hx hb dX11_belts_101 rfl (lv_at hl 2 rfl) ?_
      obtain ⟨h_25, hf⟩ := mm_gd_ok hf
      refine al_38 X hP  h_25 dX11_belts_102 ?_
      refine lv_if_eq (tgt := 123) hx hb dX11_belts_103 (by decide) (fun c_26 => ?_) (fun c_26 => ?_)
      · replace hf := mm_it c_26 hf
        obtain ⟨y_27, e_27, hf⟩ := mm_li_ok hf
        refine lv_iinc (v := y_27) (lv' := [(2, .int y_27), (0, .ref (ad 10 30 0)), (1, .int v1)]) hx hb dX11_belts_123 hl (k := 2) rfl (by rw [e_27]; rfl) (by decide) rfl (fun ls hl => ?_)
        refine lv_goto (tgt := 87) hx hb dX11_belts_126 (by decide) ?_
        exact ih v1 y_27 σ H locs ls  hf hP hS (lv_sub hl [1, 2, 0] rfl)
      · replace hf := mm_if c_26 hf
        refine lv_aload_n hx hb dX11_belts_106 rfl (lv_at hl 0 rfl) ?_
        refine lv_iload_n hx hb dX11_belts_107 rfl (lv_at hl 2 rfl) ?_
        obtain ⟨r_28, s_28, e_28, hf⟩ := mm_bd_ok hf
        refine mm_callV X hP hS hl.1 [.int v2] [] (cx_X11_stays l D ad cA hI v2 σ r_28 s_28 e_28) kp_30 rfl rfl wd_994 wd_996 wp_47 wd_12 wd_997 hd_X11_stays ⟨Nat.le_of_ble_eq_true rfl, Nat.le_of_ble_eq_true rfl⟩ rfl (Nat.le_of_ble_eq_true rfl) dX11_belts_108 (fun H locs hP hS => ?_)
        refine lv_if_eq (tgt := 123) hx hb dX11_belts_111 (by decide) (fun c_29 => ?_) (fun c_29 => ?_)
        · replace hf := mm_it c_29 hf
          obtain ⟨y_30, e_30, hf⟩ := mm_li_ok hf
          refine lv_iinc (v := y_30) (lv' := [(2, .int y_30), (0, .ref (ad 10 30 0)), (1, .int v1)]) hx hb dX11_belts_123 hl (k := 2) rfl (by rw [e_30]; rfl) (by decide) rfl (fun ls hl => ?_)
          refine lv_goto (tgt := 87) hx hb dX11_belts_126 (by decide) ?_
          exact ih v1 y_30 s_28 H locs ls  hf hP hS (lv_sub hl [1, 2, 0] rfl)
        · replace hf := mm_if c_29 hf
          refine lv_aload_n hx hb dX11_belts_114 rfl (lv_at hl 0 rfl) ?_
          refine gf_30_10 X hP  wd_779 dX11_belts_115 ?_
          refine lv_iload_n hx hb dX11_belts_118 rfl (lv_at hl 2 rfl) ?_
          refine lv_iconst (v := (0 : Int32)) hx hb dX11_belts_119 (by decide) ?_
          obtain ⟨h_31, hf⟩ := mm_gd_ok hf
          refine as_38 X hP hS  h_31 (by decide) dX11_belts_120 (fun H locs hP hS => ?_)
          obtain ⟨s_32, e_32, hf⟩ := mm_lt_ok hf
          rw [← e_32] at hP
          refine lv_iconst (v := (1 : Int32)) hx hb dX11_belts_121 (by decide) ?_
          refine lv_istore_n (lv' := [(1, .int (1 : Int32)), (0, .ref (ad 10 30 0)), (2, .int v2)]) hx hb dX11_belts_122 rfl hl (by decide) rfl (fun ls hl => ?_)
          obtain ⟨y_33, e_33, hf⟩ := mm_li_ok hf
          refine lv_iinc (v := y_33) (lv' := [(2, .int y_33), (1, .int (1 : Int32)), (0, .ref (ad 10 30 0))]) hx hb dX11_belts_123 hl (k := 2) rfl (by rw [e_33]; rfl) (by decide) rfl (fun ls hl => ?_)
          refine lv_goto (tgt := 87) hx hb dX11_belts_126 (by decide) ?_
          exact ih (1 : Int32) y_33 s_32 H locs ls  hf hP hS (lv_sub hl [2, 1, 0] rfl)
def fx_X11_belts_L134   : Nat → Int32 → mm_M → mm_R
  | 0, _, _ => none
  | fu + 1, v2, σ => if (σ 10 31 0 (0 : Int32).toNatClampNeg) ≤ v2 then some (0, σ) else mm_gd (mm_ix v2 4 = true) (if (σ 10 38 0 v2.toNatClampNeg) = (0 : Int32) then mm_li (v2 + (1 : Int32)) fun y_20 => (fx_X11_belts_L134 fu y_20 σ) else mm_gd (mm_ix v2 4 = true) (mm_bd (fx_X11_comesTo v2 (σ 10 39 0 v2.toNatClampNeg) σ) fun _ s_22 => (mm_li (v2 + (1 : Int32)) fun y_23 => (fx_X11_belts_L134 fu y_23 s_22))))
set_option maxHeartbeats 4000000 in
set_option maxRecDepth 100000 in
theorem cx_X11_belts_L134 {p : Program} {l : Launch} {e : Env} {s : State} {m : MethodId} {args : Array Value} {below : List Frame} {meth : Method} {c : Code} {D : va_G} {ad : mm_A} {cA : Nat → ClassId}   (rv : Int32) (σ1 : mm_M)  (X : mm_X p s m args meth c cX11_belts 3 none RX11 D ad cA) : ∀ (fu : Nat), ∀ (v2 : Int32) (σ : mm_M) (H : Heap) (locs : List Loc) (ls : Array Slot), fx_X11_belts_L134  fu v2 σ = some (rv, σ1) → va_P D vwCl (mm_wd ad cA σ) H → va_S (mm_AS ad) s.heap H locs → lv_has ls 3 [(0, .ref (ad 10 30 0)), (2, .int v2)] → W p l e (mm_rm 6 133) s m args below meth c H locs 0 0 (MQ below (mm_Q D ad cA none σ1) args s 0 0 (mm_AS ad)) (F0 m 134 ls []) := by
  have hx := X.1
  have hb := X.2.1
  have hI := X.2.2.2.2.2.2.2.2.2
  intro fu
  induction fu with
  | zero =>
    intro v2 σ H locs ls hf
    exact mm_no hf
  | succ fu ih =>
    intro v2 σ H locs ls hf hP hS hl
    rw [fx_X11_belts_L134] at hf
    refine lv_iload_n hx hb dX11_belts_134 rfl (lv_at hl 1 rfl) ?_
    refine lv_aload_n hx hb dX11_belts_135 rfl (lv_at hl 0 rfl) ?_
    refine gf_30_0 X hP  wd_769 dX11_belts_136 ?_
    refine lv_iconst (v := (0 : Int32)) hx hb dX11_belts_139 (by decide) ?_
    refine al_31 X hP  (by decide : mm_ix (0 : Int32) 207 = true) dX11_belts_140 ?_
    refine lv_icmp_ge (tgt := 170) hx hb dX11_belts_141 (by decide) (fun c_17 => ?_) (fun c_17 => ?_)
    · replace hf := mm_it c_17 hf
      obtain ⟨rfl, rfl⟩ := mm_ret hf
      exact mm_vret X hP hS dX11_belts_170
    · replace hf := mm_if c_17 hf
      refine lv_aload_n hx hb dX11_belts_144 rfl (lv_at hl 0 rfl) ?_
      refine gf_30_10 X hP  wd_779 dX11_belts_145 ?_
      refine lv_iload_n hx hb dX11_belts_148 rfl (lv_at hl 1 rfl) ?_
      obtain ⟨h_18, hf⟩ := mm_gd_ok hf
      refine al_38 X hP  h_18 dX11_belts_149 ?_
      refine lv_if_eq (tgt := 164) hx hb dX11_belts_150 (by decide) (fun c_19 => ?_) (fun c_19 => ?_)
      · replace hf := mm_it c_19 hf
        obtain ⟨y_20, e_20, hf⟩ := mm_li_ok hf
        refine lv_iinc (v := y_20) (lv' := [(2, .int y_20), (0, .ref (ad 10 30 0))]) hx hb dX11_belts_164 hl (k := 1) rfl (by rw [e_20]; rfl) (by decide) rfl (fun ls hl => ?_)
        refine lv_goto (tgt := 134) hx hb dX11_belts_167 (by decide) ?_
        exact ih y_20 σ H locs ls  hf hP hS (lv_sub hl [1, 0] rfl)
      · replace hf := mm_if c_19 hf
        refine lv_aload_n hx hb dX11_belts_153 rfl (lv_at hl 0 rfl) ?_
        refine lv_iload_n hx hb dX11_belts_154 rfl (lv_at hl 1 rfl) ?_
        refine lv_aload_n hx hb dX11_belts_155 rfl (lv_at hl 0 rfl) ?_
        refine gf_30_11 X hP  wd_780 dX11_belts_156 ?_
        refine lv_iload_n hx hb dX11_belts_159 rfl (lv_at hl 1 rfl) ?_
        obtain ⟨h_21, hf⟩ := mm_gd_ok hf
        refine al_39 X hP  h_21 dX11_belts_160 ?_
        obtain ⟨r_22, s_22, e_22, hf⟩ := mm_bd_ok hf
        refine mm_callV X hP hS hl.1 [.int v2, .int (σ 10 39 0 v2.toNatClampNeg)] [] (cx_X11_comesTo l D ad cA hI v2 (σ 10 39 0 v2.toNatClampNeg) σ r_22 s_22 e_22) kp_30 rfl rfl wd_966 wd_968 wp_40 wd_12 wd_969 hd_X11_comesTo ⟨Nat.le_of_ble_eq_true rfl, Nat.le_of_ble_eq_true rfl⟩ rfl (Nat.le_of_ble_eq_true rfl) dX11_belts_161 (fun H locs hP hS => ?_)
        obtain ⟨y_23, e_23, hf⟩ := mm_li_ok hf
        refine lv_iinc (v := y_23) (lv' := [(2, .int y_23), (0, .ref (ad 10 30 0))]) hx hb dX11_belts_164 hl (k := 1) rfl (by rw [e_23]; rfl) (by decide) rfl (fun ls hl => ?_)
        refine lv_goto (tgt := 134) hx hb dX11_belts_167 (by decide) ?_
        exact ih y_23 s_22 H locs ls  hf hP hS (lv_sub hl [1, 0] rfl)
def fx_X11_belts_L79   : Nat → Int32 → mm_M → mm_R
  | 0, _, _ => none
  | fu + 1, v1, σ => if v1 = (0 : Int32) then fx_X11_belts_L134 mm_FU (0 : Int32) σ else fx_X11_belts_L87 (fun z0 z => fx_X11_belts_L79 fu z0 z) mm_FU (0 : Int32) (0 : Int32) σ
set_option maxHeartbeats 4000000 in
set_option maxRecDepth 100000 in
theorem cx_X11_belts_L79 {p : Program} {l : Launch} {e : Env} {s : State} {m : MethodId} {args : Array Value} {below : List Frame} {meth : Method} {c : Code} {D : va_G} {ad : mm_A} {cA : Nat → ClassId}   (rv : Int32) (σ1 : mm_M)  (X : mm_X p s m args meth c cX11_belts 3 none RX11 D ad cA) : ∀ (fu : Nat), ∀ (v1 : Int32) (σ : mm_M) (H : Heap) (locs : List Loc) (ls : Array Slot), fx_X11_belts_L79  fu v1 σ = some (rv, σ1) → va_P D vwCl (mm_wd ad cA σ) H → va_S (mm_AS ad) s.heap H locs → lv_has ls 3 [(0, .ref (ad 10 30 0)), (1, .int v1)] → W p l e (mm_rm 6 133) s m args below meth c H locs 0 0 (MQ below (mm_Q D ad cA none σ1) args s 0 0 (mm_AS ad)) (F0 m 79 ls []) := by
  have hx := X.1
  have hb := X.2.1
  have hI := X.2.2.2.2.2.2.2.2.2
  intro fu
  induction fu with
  | zero =>
    intro v1 σ H locs ls hf
    exact mm_no hf
  | succ fu ih =>
    intro v1 σ H locs ls hf hP hS hl
    rw [fx_X11_belts_L79] at hf
    refine lv_iload_n hx hb dX11_belts_79 rfl (lv_at hl 1 rfl) ?_
    refine lv_if_eq (tgt := 132) hx hb dX11_belts_80 (by decide) (fun c_9 => ?_) (fun c_9 => ?_)
    · replace hf := mm_it c_9 hf
      refine lv_iconst (v := (0 : Int32)) hx hb dX11_belts_132 (by decide) ?_
      refine lv_istore_n (lv' := [(2, .int (0 : Int32)), (0, .ref (ad 10 30 0)), (1, .int v1)]) hx hb dX11_belts_133 rfl hl (by decide) rfl (fun ls hl => ?_)
      exact cx_X11_belts_L134 rv σ1 X mm_FU (0 : Int32) σ H locs ls hf hP hS (lv_sub hl [1, 0] rfl)
    · replace hf := mm_if c_9 hf
      refine lv_iconst (v := (0 : Int32)) hx hb dX11_belts_83 (by decide) ?_
      refine lv_istore_n (lv' := [(1, .int (0 : Int32)), (0, .ref (ad 10 30 0))]) hx hb dX11_belts_84 rfl hl (by decide) rfl (fun ls hl => ?_)
      refine lv_iconst (v := (0 : Int32)) hx hb dX11_belts_85 (by decide) ?_
      refine lv_istore_n (lv' := [(2, .int (0 : Int32)), (1, .int (0 : Int32)), (0, .ref (ad 10 30 0))]) hx hb dX11_belts_86 rfl hl (by decide) rfl (fun ls hl => ?_)
      exact cx_X11_belts_L87 rv σ1 (fun z0 z => fx_X11_belts_L79 fu z0 z) ih X mm_FU (0 : Int32) (0 : Int32) σ H locs ls hf hP hS (lv_sub hl [2, 1, 0] rfl)
def fx_X11_belts_L2   : Nat → Int32 → mm_M → mm_R
  | 0, _, _ => none
  | fu + 1, v1, σ => if (σ 10 31 0 (0 : Int32).toNatClampNeg) ≤ v1 then fx_X11_belts_L79 mm_FU (1 : Int32) σ else mm_bd (fx_X11_isOnBelt v1 σ) fun r_2 s_2 => (if r_2 = (0 : Int32) then fx_X11_belts_J58 (fun z0 z => fx_X11_belts_L2 fu z0 z) v1 v1 s_2 else mm_bd (fx_X11_of v1 (1 : Int32) s_2) fun r_4 s_4 => (mm_bd (fx_X11_of v1 (1 : Int32) s_4) fun r_5 s_5 => (mm_gd (mm_ix ((11 : Int32) + r_5) 207 = true) (mm_bd (fx_X11_isWall r_4 ((s_5 10 31 0 ((11 : Int32) + r_5).toNatClampNeg) - (1 : Int32)) s_5) fun r_7 s_7 => (if r_7 = (0 : Int32) then fx_X11_belts_J59 (fun z0 z => fx_X11_belts_L2 fu z0 z) v1 v1 (1 : Int32) s_7 else fx_X11_belts_J58 (fun z0 z => fx_X11_belts_L2 fu z0 z) v1 v1 s_7)))))
set_option maxHeartbeats 4000000 in
set_option maxRecDepth 100000 in
theorem cx_X11_belts_L2 {p : Program} {l : Launch} {e : Env} {s : State} {m : MethodId} {args : Array Value} {below : List Frame} {meth : Method} {c : Code} {D : va_G} {ad : mm_A} {cA : Nat → ClassId}   (rv : Int32) (σ1 : mm_M)  (X : mm_X p s m args meth c cX11_belts 3 none RX11 D ad cA) : ∀ (fu : Nat), ∀ (v1 : Int32) (σ : mm_M) (H : Heap) (locs : List Loc) (ls : Array Slot), fx_X11_belts_L2  fu v1 σ = some (rv, σ1) → va_P D vwCl (mm_wd ad cA σ) H → va_S (mm_AS ad) s.heap H locs → lv_has ls 3 [(0, .ref (ad 10 30 0)), (1, .int v1)] → W p l e (mm_rm 6 133) s m args below meth c H locs 0 0 (MQ below (mm_Q D ad cA none σ1) args s 0 0 (mm_AS ad)) (F0 m 2 ls []) := by
  have hx := X.1
  have hb := X.2.1
  have hI := X.2.2.2.2.2.2.2.2.2
  intro fu
  induction fu with
  | zero =>
    intro v1 σ H locs ls hf
    exact mm_no hf
  | succ fu ih =>
    intro v1 σ H locs ls hf hP hS hl
    rw [fx_X11_belts_L2] at hf
    refine lv_iload_n hx hb dX11_belts_2 rfl (lv_at hl 1 rfl) ?_
    refine lv_aload_n hx hb dX11_belts_3 rfl (lv_at hl 0 rfl) ?_
    refine gf_30_0 X hP  wd_769 dX11_belts_4 ?_
    refine lv_iconst (v := (0 : Int32)) hx hb dX11_belts_7 (by decide) ?_
    refine al_31 X hP  (by decide : mm_ix (0 : Int32) 207 = true) dX11_belts_8 ?_
    refine lv_icmp_ge (tgt := 77) hx hb dX11_belts_9 (by decide) (fun c_1 => ?_) (fun c_1 => ?_)
    · replace hf := mm_it c_1 hf
      refine lv_iconst (v := (1 : Int32)) hx hb dX11_belts_77 (by decide) ?_
      refine lv_istore_n (lv' := [(1, .int (1 : Int32)), (0, .ref (ad 10 30 0))]) hx hb dX11_belts_78 rfl hl (by decide) rfl (fun ls hl => ?_)
      exact cx_X11_belts_L79 rv σ1 X mm_FU (1 : Int32) σ H locs ls hf hP hS (lv_sub hl [1, 0] rfl)
    · replace hf := mm_if c_1 hf
      refine lv_aload_n hx hb dX11_belts_12 rfl (lv_at hl 0 rfl) ?_
      refine gf_30_10 X hP  wd_779 dX11_belts_13 ?_
      refine lv_iload_n hx hb dX11_belts_16 rfl (lv_at hl 1 rfl) ?_
      refine lv_aload_n hx hb dX11_belts_17 rfl (lv_at hl 0 rfl) ?_
      refine lv_iload_n hx hb dX11_belts_18 rfl (lv_at hl 1 rfl) ?_
      obtain ⟨r_2, s_2, e_2, hf⟩ := mm_bd_ok hf
      refine mm_callV X hP hS hl.1 [.int v1] [.int v1, .ref (ad 10 38 0)] (cx_X11_isOnBelt l D ad cA hI v1 σ r_2 s_2 e_2) kp_30 rfl rfl wd_986 wd_988 wp_45 wd_12 wd_989 hd_X11_isOnBelt ⟨Nat.le_of_ble_eq_true rfl, Nat.le_of_ble_eq_true rfl⟩ rfl (Nat.le_of_ble_eq_true rfl) dX11_belts_19 (fun H locs hP hS => ?_)
      refine lv_if_eq (tgt := 58) hx hb dX11_belts_22 (by decide) (fun c_3 => ?_) (fun c_3 => ?_)
      · replace hf := mm_it c_3 hf
        exact cx_X11_belts_J58 rv σ1 (fun z0 z => fx_X11_belts_L2 fu z0 z) ih X v1 v1 s_2 H locs ls hf hP hS (lv_sub hl [0, 1] rfl)
      · replace hf := mm_if c_3 hf
        refine lv_aload_n hx hb dX11_belts_25 rfl (lv_at hl 0 rfl) ?_
        refine lv_aload_n hx hb dX11_belts_26 rfl (lv_at hl 0 rfl) ?_
        refine lv_iload_n hx hb dX11_belts_27 rfl (lv_at hl 1 rfl) ?_
        refine lv_iconst (v := (1 : Int32)) hx hb dX11_belts_28 (by decide) ?_
        obtain ⟨r_4, s_4, e_4, hf⟩ := mm_bd_ok hf
        refine mm_callV X hP hS hl.1 [.int v1, .int (1 : Int32)] [.ref (ad 10 30 0), .int v1, .ref (ad 10 38 0)] (cx_X11_of l D ad cA hI v1 (1 : Int32) s_2 r_4 s_4 e_4) kp_30 rfl rfl wd_850 wd_852 wp_19 wd_12 wd_853 hd_X11_of ⟨Nat.le_of_ble_eq_true rfl, Nat.le_of_ble_eq_true rfl⟩ rfl (Nat.le_of_ble_eq_true rfl) dX11_belts_29 (fun H locs hP hS => ?_)
        refine lv_aload_n hx hb dX11_belts_32 rfl (lv_at hl 0 rfl) ?_
        refine gf_30_0 X hP  wd_769 dX11_belts_33 ?_
        refine lv_bipush (v := (11 : Int32)) hx hb dX11_belts_36 (by decide) ?_
        refine lv_aload_n hx hb dX11_belts_38 rfl (lv_at hl 0 rfl) ?_
        refine lv_iload_n hx hb dX11_belts_39 rfl (lv_at hl 1 rfl) ?_
        refine lv_iconst (v := (1 : Int32)) hx hb dX11_belts_40 (by decide) ?_
        obtain ⟨r_5, s_5, e_5, hf⟩ := mm_bd_ok hf
        refine mm_callV X hP hS hl.1 [.int v1, .int (1 : Int32)] [.int (11 : Int32), .ref (ad 10 31 0), .int r_4, .ref (ad 10 30 0), .int v1, .ref (ad 10 38 0)] (cx_X11_of l D ad cA hI v1 (1 : Int32) s_4 r_5 s_5 e_5) kp_30 rfl rfl wd_850 wd_852 wp_19 wd_12 wd_853 hd_X11_of ⟨Nat.le_of_ble_eq_true rfl, Nat.le_of_ble_eq_true rfl⟩ rfl (Nat.le_of_ble_eq_true rfl) dX11_belts_41 (fun H locs hP hS => ?_)
        refine lv_iadd hx hb dX11_belts_44 ?_
        obtain ⟨h_6, hf⟩ := mm_gd_ok hf
        refine al_31 X hP  h_6 dX11_belts_45 ?_
        refine lv_iconst (v := (1 : Int32)) hx hb dX11_belts_46 (by decide) ?_
        refine lv_isub hx hb dX11_belts_47 ?_
        obtain ⟨r_7, s_7, e_7, hf⟩ := mm_bd_ok hf
        refine mm_callV X hP hS hl.1 [.int r_4, .int ((s_5 10 31 0 ((11 : Int32) + r_5).toNatClampNeg) - (1 : Int32))] [.int v1, .ref (ad 10 38 0)] (cx_X11_isWall l D ad cA hI r_4 ((s_5 10 31 0 ((11 : Int32) + r_5).toNatClampNeg) - (1 : Int32)) s_5 r_7 s_7 e_7) kp_30 rfl rfl wd_962 wd_964 wp_39 wd_12 wd_965 hd_X11_isWall ⟨Nat.le_of_ble_eq_true rfl, Nat.le_of_ble_eq_true rfl⟩ rfl (Nat.le_of_ble_eq_true rfl) dX11_belts_48 (fun H locs hP hS => ?_)
        refine lv_if_ne (tgt := 58) hx hb dX11_belts_51 (by decide) (fun c_8 => ?_) (fun c_8 => ?_)
        · replace hf := mm_if c_8 hf
          exact cx_X11_belts_J58 rv σ1 (fun z0 z => fx_X11_belts_L2 fu z0 z) ih X v1 v1 s_7 H locs ls hf hP hS (lv_sub hl [0, 1] rfl)
        · replace hf := mm_it c_8 hf
          refine lv_iconst (v := (1 : Int32)) hx hb dX11_belts_54 (by decide) ?_
          refine lv_goto (tgt := 59) hx hb dX11_belts_55 (by decide) ?_
          exact cx_X11_belts_J59 rv σ1 (fun z0 z => fx_X11_belts_L2 fu z0 z) ih X v1 v1 (1 : Int32) s_7 H locs ls hf hP hS (lv_sub hl [0, 1] rfl)
def fx_X11_belts  (σ : mm_M) : mm_R := fx_X11_belts_L2 mm_FU (0 : Int32) σ
set_option maxHeartbeats 4000000 in
set_option maxRecDepth 100000 in
theorem cx_X11_belts (l : Launch) (D : va_G) (ad : mm_A) (cA : Nat → ClassId) (hI : mm_Inj ad)   (σ : mm_M) (rv : Int32) (σ1 : mm_M) (hf : fx_X11_belts  σ = some (rv, σ1)) : Met l yX11_belts (Cond.code yX11_belts cX11_belts 3 none :: tb) (mm_rm 6 133) (mm_pre D ad cA [.ref (ad 10 30 0)] σ) (mm_Q D ad cA none σ1) 0 0 (mm_AS ad) := by
  refine mm_start (by decide +kernel) hI (Nat.le_of_ble_eq_true rfl) ?_
  intro p e s m args below meth c X hP ls hl
  have hl : lv_has ls 3 [(0, .ref (ad 10 30 0))] := hl
  have hx := X.1
  have hb := X.2.1
  have hS : va_S (mm_AS ad) s.heap s.heap [] := va_S.rf
  have hgen : ∀ (H : Heap) (locs : List Loc), va_P D vwCl (mm_wd ad cA σ) H → va_S (mm_AS ad) s.heap H locs → W p l e (mm_rm 6 133) s m args below meth c H locs 0 0 (MQ below (mm_Q D ad cA none σ1) args s 0 0 (mm_AS ad)) (F0 m 0 ls []) := by
    intro H locs hP hS
    rw [fx_X11_belts] at hf
    refine lv_iconst (v := (0 : Int32)) hx hb dX11_belts_0 (by decide) ?_
    refine lv_istore_n (lv' := [(1, .int (0 : Int32)), (0, .ref (ad 10 30 0))]) hx hb dX11_belts_1 rfl hl (by decide) rfl (fun ls hl => ?_)
    exact cx_X11_belts_L2 rv σ1 X mm_FU (0 : Int32) σ H locs ls hf hP hS (lv_sub hl [1, 0] rfl)
  exact hgen _ _ hP hS
def fx_X11_turns (x1 : Int32) (x2 : Int32) (σ : mm_M) : mm_R := mm_bd (fx_X11_of x1 (2 : Int32) σ) fun r_1 s_1 => (mm_bd (fx_X11_lays x1 (2 : Int32) ((r_1 + x2) - (r_1 + x2) / (4 : Int32) * (4 : Int32)) s_1) fun _ s_2 => (some (0, s_2)))
set_option maxHeartbeats 4000000 in
set_option maxRecDepth 100000 in
theorem cx_X11_turns (l : Launch) (D : va_G) (ad : mm_A) (cA : Nat → ClassId) (hI : mm_Inj ad) (x1 : Int32) (x2 : Int32)  (σ : mm_M) (rv : Int32) (σ1 : mm_M) (hf : fx_X11_turns x1 x2 σ = some (rv, σ1)) : Met l yX11_turns (Cond.code yX11_turns cX11_turns 3 none :: tb) (mm_rm 1 23) (mm_pre D ad cA [.ref (ad 10 30 0), .int x1, .int x2] σ) (mm_Q D ad cA none σ1) 0 0 (mm_AS ad) := by
  refine mm_start (by decide +kernel) hI (Nat.le_of_ble_eq_true rfl) ?_
  intro p e s m args below meth c X hP ls hl
  have hl : lv_has ls 3 [(0, .ref (ad 10 30 0)), (1, .int x1), (2, .int x2)] := hl
  have hx := X.1
  have hb := X.2.1
  have hS : va_S (mm_AS ad) s.heap s.heap [] := va_S.rf
  have hgen : ∀ (H : Heap) (locs : List Loc), va_P D vwCl (mm_wd ad cA σ) H → va_S (mm_AS ad) s.heap H locs → W p l e (mm_rm 1 23) s m args below meth c H locs 0 0 (MQ below (mm_Q D ad cA none σ1) args s 0 0 (mm_AS ad)) (F0 m 0 ls []) := by
    intro H locs hP hS
    rw [fx_X11_turns] at hf
    refine lv_aload_n hx hb dX11_turns_0 rfl (lv_at hl 0 rfl) ?_
    refine lv_iload_n hx hb dX11_turns_1 rfl (lv_at hl 1 rfl) ?_
    refine lv_iconst (v := (2 : Int32)) hx hb dX11_turns_2 (by decide) ?_
    refine lv_aload_n hx hb dX11_turns_3 rfl (lv_at hl 0 rfl) ?_
    refine lv_iload_n hx hb dX11_turns_4 rfl (lv_at hl 1 rfl) ?_
    refine lv_iconst (v := (2 : Int32)) hx hb dX11_turns_5 (by decide) ?_
    obtain ⟨r_1, s_1, e_1, hf⟩ := mm_bd_ok hf
    refine mm_callV X hP hS hl.1 [.int x1, .int (2 : Int32)] [.int (2 : Int32), .int x1, .ref (ad 10 30 0)] (cx_X11_of l D ad cA hI x1 (2 : Int32) σ r_1 s_1 e_1) kp_30 rfl rfl wd_850 wd_852 wp_19 wd_12 wd_853 hd_X11_of ⟨Nat.le_of_ble_eq_true rfl, Nat.le_of_ble_eq_true rfl⟩ rfl (Nat.le_of_ble_eq_true rfl) dX11_turns_6 (fun H locs hP hS => ?_)
    refine lv_iload_n hx hb dX11_turns_9 rfl (lv_at hl 2 rfl) ?_
    refine lv_iadd hx hb dX11_turns_10 ?_
    refine lv_iconst (v := (4 : Int32)) hx hb dX11_turns_11 (by decide) ?_
    refine lv_irem hx hb dX11_turns_12 (by decide) ?_
    obtain ⟨r_2, s_2, e_2, hf⟩ := mm_bd_ok hf
    refine mm_callV X hP hS hl.1 [.int x1, .int (2 : Int32), .int ((r_1 + x2) - (r_1 + x2) / (4 : Int32) * (4 : Int32))] [] (cx_X11_lays l D ad cA hI x1 (2 : Int32) ((r_1 + x2) - (r_1 + x2) / (4 : Int32) * (4 : Int32)) s_1 r_2 s_2 e_2) kp_30 rfl rfl wd_891 wd_893 wp_25 wd_12 wd_894 hd_X11_lays ⟨Nat.le_of_ble_eq_true rfl, Nat.le_of_ble_eq_true rfl⟩ rfl (Nat.le_of_ble_eq_true rfl) dX11_turns_13 (fun H locs hP hS => ?_)
    obtain ⟨rfl, rfl⟩ := mm_ret hf
    exact mm_vret X hP hS dX11_turns_16
  exact hgen _ _ hP hS
def fx_X11_gears_J61  (k2 : Int32 → mm_M → mm_R) (v1 : Int32) (w1 : Int32) (w2 : Int32) (σ : mm_M) : mm_R := mm_bd (fx_X11_turns w1 w2 σ) fun _ s_8 => (mm_li (v1 + (1 : Int32)) fun y_9 => (k2 y_9 s_8))
set_option maxHeartbeats 4000000 in
set_option maxRecDepth 100000 in
theorem cx_X11_gears_J61 {p : Program} {l : Launch} {e : Env} {s : State} {m : MethodId} {args : Array Value} {below : List Frame} {meth : Method} {c : Code} {D : va_G} {ad : mm_A} {cA : Nat → ClassId}   (rv : Int32) (σ1 : mm_M) (k2 : Int32 → mm_M → mm_R) (hk2 : ∀ (v1 : Int32) (σ : mm_M) (H : Heap) (locs : List Loc) (ls : Array Slot), k2 v1 σ = some (rv, σ1) → va_P D vwCl (mm_wd ad cA σ) H → va_S (mm_AS ad) s.heap H locs → lv_has ls 3 [(0, .ref (ad 10 30 0)), (1, .int v1)] → W p l e (mm_rm 2 45) s m args below meth c H locs 0 0 (MQ below (mm_Q D ad cA none σ1) args s 0 0 (mm_AS ad)) (F0 m 2 ls [])) (X : mm_X p s m args meth c cX11_gears 3 none RX11 D ad cA) : ∀ (v1 : Int32) (w1 : Int32) (w2 : Int32) (σ : mm_M) (H : Heap) (locs : List Loc) (ls : Array Slot), fx_X11_gears_J61 k2 v1 w1 w2 σ = some (rv, σ1) → va_P D vwCl (mm_wd ad cA σ) H → va_S (mm_AS ad) s.heap H locs → lv_has ls 3 [(0, .ref (ad 10 30 0)), (1, .int v1)] → W p l e (mm_rm 2 45) s m args below meth c H locs 0 0 (MQ below (mm_Q D ad cA none σ1) args s 0 0 (mm_AS ad)) (F0 m 61 ls [.int w2, .int w1, .ref (ad 10 30 0)]) := by
  have hx := X.1
  have hb := X.2.1
  have hI := X.2.2.2.2.2.2.2.2.2
  intro v1 w1 w2 σ H locs ls hf hP hS hl
  rw [fx_X11_gears_J61] at hf
  obtain ⟨r_8, s_8, e_8, hf⟩ := mm_bd_ok hf
  refine mm_callV X hP hS hl.1 [.int w1, .int w2] [] (cx_X11_turns l D ad cA hI w1 w2 σ r_8 s_8 e_8) kp_30 rfl rfl wd_978 wd_980 wp_43 wd_12 wd_981 hd_X11_turns ⟨Nat.le_of_ble_eq_true rfl, Nat.le_of_ble_eq_true rfl⟩ rfl (Nat.le_of_ble_eq_true rfl) dX11_gears_61 (fun H locs hP hS => ?_)
  obtain ⟨y_9, e_9, hf⟩ := mm_li_ok hf
  refine lv_iinc (v := y_9) (lv' := [(1, .int y_9), (0, .ref (ad 10 30 0))]) hx hb dX11_gears_64 hl (k := 1) rfl (by rw [e_9]; rfl) (by decide) rfl (fun ls hl => ?_)
  refine lv_goto (tgt := 2) hx hb dX11_gears_67 (by decide) ?_
  exact hk2 y_9 s_8 H locs ls  hf hP hS (lv_sub hl [1, 0] rfl)
def fx_X11_gears_J38  (k2 : Int32 → mm_M → mm_R) (v1 : Int32) (w0 : Int32) (σ : mm_M) : mm_R := if w0 = (5 : Int32) then fx_X11_gears_J61 k2 v1 v1 (3 : Int32) σ else if w0 = (6 : Int32) then fx_X11_gears_J61 k2 v1 v1 (1 : Int32) σ else fx_X11_gears_J61 k2 v1 v1 (0 : Int32) σ
set_option maxHeartbeats 4000000 in
set_option maxRecDepth 100000 in
theorem cx_X11_gears_J38 {p : Program} {l : Launch} {e : Env} {s : State} {m : MethodId} {args : Array Value} {below : List Frame} {meth : Method} {c : Code} {D : va_G} {ad : mm_A} {cA : Nat → ClassId}   (rv : Int32) (σ1 : mm_M) (k2 : Int32 → mm_M → mm_R) (hk2 : ∀ (v1 : Int32) (σ : mm_M) (H : Heap) (locs : List Loc) (ls : Array Slot), k2 v1 σ = some (rv, σ1) → va_P D vwCl (mm_wd ad cA σ) H → va_S (mm_AS ad) s.heap H locs → lv_has ls 3 [(0, .ref (ad 10 30 0)), (1, .int v1)] → W p l e (mm_rm 2 45) s m args below meth c H locs 0 0 (MQ below (mm_Q D ad cA none σ1) args s 0 0 (mm_AS ad)) (F0 m 2 ls [])) (X : mm_X p s m args meth c cX11_gears 3 none RX11 D ad cA) : ∀ (v1 : Int32) (w0 : Int32) (σ : mm_M) (H : Heap) (locs : List Loc) (ls : Array Slot), fx_X11_gears_J38 k2 v1 w0 σ = some (rv, σ1) → va_P D vwCl (mm_wd ad cA σ) H → va_S (mm_AS ad) s.heap H locs → lv_has ls 3 [(0, .ref (ad 10 30 0)), (1, .int v1)] → W p l e (mm_rm 2 45) s m args below meth c H locs 0 0 (MQ below (mm_Q D ad cA none σ1) args s 0 0 (mm_AS ad)) (F0 m 38 ls [.int w0]) := by
  have hx := X.1
  have hb := X.2.1
  have hI := X.2.2.2.2.2.2.2.2.2
  intro v1 w0 σ H locs ls hf hP hS hl
  rw [fx_X11_gears_J38] at hf
  refine lv_istore_n (lv' := [(2, .int w0), (0, .ref (ad 10 30 0)), (1, .int v1)]) hx hb dX11_gears_38 rfl hl (by decide) rfl (fun ls hl => ?_)
  refine lv_aload_n hx hb dX11_gears_39 rfl (lv_at hl 1 rfl) ?_
  refine lv_iload_n hx hb dX11_gears_40 rfl (lv_at hl 2 rfl) ?_
  refine lv_iload_n hx hb dX11_gears_41 rfl (lv_at hl 0 rfl) ?_
  refine lv_iconst (v := (5 : Int32)) hx hb dX11_gears_42 (by decide) ?_
  refine lv_icmp_ne (tgt := 50) hx hb dX11_gears_43 (by decide) (fun c_6 => ?_) (fun c_6 => ?_)
  · replace hf := mm_if c_6 hf
    refine lv_iload_n hx hb dX11_gears_50 rfl (lv_at hl 0 rfl) ?_
    refine lv_bipush (v := (6 : Int32)) hx hb dX11_gears_51 (by decide) ?_
    refine lv_icmp_ne (tgt := 60) hx hb dX11_gears_53 (by decide) (fun c_7 => ?_) (fun c_7 => ?_)
    · replace hf := mm_if c_7 hf
      refine lv_iconst (v := (0 : Int32)) hx hb dX11_gears_60 (by decide) ?_
      exact cx_X11_gears_J61 rv σ1 k2 hk2 X v1 v1 (0 : Int32) σ H locs ls hf hP hS (lv_sub hl [1, 2] rfl)
    · replace hf := mm_it c_7 hf
      refine lv_iconst (v := (1 : Int32)) hx hb dX11_gears_56 (by decide) ?_
      refine lv_goto (tgt := 61) hx hb dX11_gears_57 (by decide) ?_
      exact cx_X11_gears_J61 rv σ1 k2 hk2 X v1 v1 (1 : Int32) σ H locs ls hf hP hS (lv_sub hl [1, 2] rfl)
  · replace hf := mm_it c_6 hf
    refine lv_iconst (v := (3 : Int32)) hx hb dX11_gears_46 (by decide) ?_
    refine lv_goto (tgt := 61) hx hb dX11_gears_47 (by decide) ?_
    exact cx_X11_gears_J61 rv σ1 k2 hk2 X v1 v1 (3 : Int32) σ H locs ls hf hP hS (lv_sub hl [1, 2] rfl)
def fx_X11_gears_L2   : Nat → Int32 → mm_M → mm_R
  | 0, _, _ => none
  | fu + 1, v1, σ => if (σ 10 31 0 (0 : Int32).toNatClampNeg) ≤ v1 then some (0, σ) else mm_bd (fx_X11_isOut v1 σ) fun r_2 s_2 => (if r_2 = (0 : Int32) then mm_bd (fx_X11_of v1 (1 : Int32) s_2) fun r_4 s_4 => (mm_gd (mm_ix ((11 : Int32) + r_4) 207 = true) (fx_X11_gears_J38 (fun z0 z => fx_X11_gears_L2 fu z0 z) v1 (s_4 10 31 0 ((11 : Int32) + r_4).toNatClampNeg) s_4)) else fx_X11_gears_J38 (fun z0 z => fx_X11_gears_L2 fu z0 z) v1 (0 : Int32) s_2)
set_option maxHeartbeats 4000000 in
set_option maxRecDepth 100000 in
theorem cx_X11_gears_L2 {p : Program} {l : Launch} {e : Env} {s : State} {m : MethodId} {args : Array Value} {below : List Frame} {meth : Method} {c : Code} {D : va_G} {ad : mm_A} {cA : Nat → ClassId}   (rv : Int32) (σ1 : mm_M)  (X : mm_X p s m args meth c cX11_gears 3 none RX11 D ad cA) : ∀ (fu : Nat), ∀ (v1 : Int32) (σ : mm_M) (H : Heap) (locs : List Loc) (ls : Array Slot), fx_X11_gears_L2  fu v1 σ = some (rv, σ1) → va_P D vwCl (mm_wd ad cA σ) H → va_S (mm_AS ad) s.heap H locs → lv_has ls 3 [(0, .ref (ad 10 30 0)), (1, .int v1)] → W p l e (mm_rm 2 45) s m args below meth c H locs 0 0 (MQ below (mm_Q D ad cA none σ1) args s 0 0 (mm_AS ad)) (F0 m 2 ls []) := by
  have hx := X.1
  have hb := X.2.1
  have hI := X.2.2.2.2.2.2.2.2.2
  intro fu
  induction fu with
  | zero =>
    intro v1 σ H locs ls hf
    exact mm_no hf
  | succ fu ih =>
    intro v1 σ H locs ls hf hP hS hl
    rw [fx_X11_gears_L2] at hf
    refine lv_iload_n hx hb dX11_gears_2 rfl (lv_at hl 1 rfl) ?_
    refine lv_aload_n hx hb dX11_gears_3 rfl (lv_at hl 0 rfl) ?_
    refine gf_30_0 X hP  wd_769 dX11_gears_4 ?_
    refine lv_iconst (v := (0 : Int32)) hx hb dX11_gears_7 (by decide) ?_
    refine al_31 X hP  (by decide : mm_ix (0 : Int32) 207 = true) dX11_gears_8 ?_
    refine lv_icmp_ge (tgt := 70) hx hb dX11_gears_9 (by decide) (fun c_1 => ?_) (fun c_1 => ?_)
    · replace hf := mm_it c_1 hf
      obtain ⟨rfl, rfl⟩ := mm_ret hf
      exact mm_vret X hP hS dX11_gears_70
    · replace hf := mm_if c_1 hf
      refine lv_aload_n hx hb dX11_gears_12 rfl (lv_at hl 0 rfl) ?_
      refine lv_iload_n hx hb dX11_gears_13 rfl (lv_at hl 1 rfl) ?_
      obtain ⟨r_2, s_2, e_2, hf⟩ := mm_bd_ok hf
      refine mm_callV X hP hS hl.1 [.int v1] [] (cx_X11_isOut l D ad cA hI v1 σ r_2 s_2 e_2) kp_30 rfl rfl wd_907 wd_909 wp_28 wd_12 wd_910 hd_X11_isOut ⟨Nat.le_of_ble_eq_true rfl, Nat.le_of_ble_eq_true rfl⟩ rfl (Nat.le_of_ble_eq_true rfl) dX11_gears_14 (fun H locs hP hS => ?_)
      refine lv_if_eq (tgt := 24) hx hb dX11_gears_17 (by decide) (fun c_3 => ?_) (fun c_3 => ?_)
      · replace hf := mm_it c_3 hf
        refine lv_aload_n hx hb dX11_gears_24 rfl (lv_at hl 0 rfl) ?_
        refine gf_30_0 X hP  wd_769 dX11_gears_25 ?_
        refine lv_bipush (v := (11 : Int32)) hx hb dX11_gears_28 (by decide) ?_
        refine lv_aload_n hx hb dX11_gears_30 rfl (lv_at hl 0 rfl) ?_
        refine lv_iload_n hx hb dX11_gears_31 rfl (lv_at hl 1 rfl) ?_
        refine lv_iconst (v := (1 : Int32)) hx hb dX11_gears_32 (by decide) ?_
        obtain ⟨r_4, s_4, e_4, hf⟩ := mm_bd_ok hf
        refine mm_callV X hP hS hl.1 [.int v1, .int (1 : Int32)] [.int (11 : Int32), .ref (ad 10 31 0)] (cx_X11_of l D ad cA hI v1 (1 : Int32) s_2 r_4 s_4 e_4) kp_30 rfl rfl wd_850 wd_852 wp_19 wd_12 wd_853 hd_X11_of ⟨Nat.le_of_ble_eq_true rfl, Nat.le_of_ble_eq_true rfl⟩ rfl (Nat.le_of_ble_eq_true rfl) dX11_gears_33 (fun H locs hP hS => ?_)
        refine lv_iadd hx hb dX11_gears_36 ?_
        obtain ⟨h_5, hf⟩ := mm_gd_ok hf
        refine al_31 X hP  h_5 dX11_gears_37 ?_
        exact cx_X11_gears_J38 rv σ1 (fun z0 z => fx_X11_gears_L2 fu z0 z) ih X v1 (s_4 10 31 0 ((11 : Int32) + r_4).toNatClampNeg) s_4 H locs ls hf hP hS (lv_sub hl [0, 1] rfl)
      · replace hf := mm_if c_3 hf
        refine lv_iconst (v := (0 : Int32)) hx hb dX11_gears_20 (by decide) ?_
        refine lv_goto (tgt := 38) hx hb dX11_gears_21 (by decide) ?_
        exact cx_X11_gears_J38 rv σ1 (fun z0 z => fx_X11_gears_L2 fu z0 z) ih X v1 (0 : Int32) s_2 H locs ls hf hP hS (lv_sub hl [0, 1] rfl)
def fx_X11_gears  (σ : mm_M) : mm_R := fx_X11_gears_L2 mm_FU (0 : Int32) σ
set_option maxHeartbeats 4000000 in
set_option maxRecDepth 100000 in
theorem cx_X11_gears (l : Launch) (D : va_G) (ad : mm_A) (cA : Nat → ClassId) (hI : mm_Inj ad)   (σ : mm_M) (rv : Int32) (σ1 : mm_M) (hf : fx_X11_gears  σ = some (rv, σ1)) : Met l yX11_gears (Cond.code yX11_gears cX11_gears 3 none :: tb) (mm_rm 2 45) (mm_pre D ad cA [.ref (ad 10 30 0)] σ) (mm_Q D ad cA none σ1) 0 0 (mm_AS ad) := by
  refine mm_start (by decide +kernel) hI (Nat.le_of_ble_eq_true rfl) ?_
  intro p e s m args below meth c X hP ls hl
  have hl : lv_has ls 3 [(0, .ref (ad 10 30 0))] := hl
  have hx := X.1
  have hb := X.2.1
  have hS : va_S (mm_AS ad) s.heap s.heap [] := va_S.rf
  have hgen : ∀ (H : Heap) (locs : List Loc), va_P D vwCl (mm_wd ad cA σ) H → va_S (mm_AS ad) s.heap H locs → W p l e (mm_rm 2 45) s m args below meth c H locs 0 0 (MQ below (mm_Q D ad cA none σ1) args s 0 0 (mm_AS ad)) (F0 m 0 ls []) := by
    intro H locs hP hS
    rw [fx_X11_gears] at hf
    refine lv_iconst (v := (0 : Int32)) hx hb dX11_gears_0 (by decide) ?_
    refine lv_istore_n (lv' := [(1, .int (0 : Int32)), (0, .ref (ad 10 30 0))]) hx hb dX11_gears_1 rfl hl (by decide) rfl (fun ls hl => ?_)
    exact cx_X11_gears_L2 rv σ1 X mm_FU (0 : Int32) σ H locs ls hf hP hS (lv_sub hl [1, 0] rfl)
  exact hgen _ _ hP hS
def fx_X11_nextFlag (x1 : Int32) (σ : mm_M) : mm_R := mm_bd (fx_X11_of x1 (4 : Int32) σ) fun r_1 s_1 => (if (s_1 10 31 0 (3 : Int32).toNatClampNeg) ≤ r_1 then some ((-1 : Int32), s_1) else mm_bd (fx_X11_of x1 (4 : Int32) s_1) fun r_3 s_3 => (mm_gd (mm_ix ((7 : Int32) + r_3) 207 = true) (some (s_3 10 31 0 ((7 : Int32) + r_3).toNatClampNeg, s_3))))
set_option maxHeartbeats 4000000 in
set_option maxRecDepth 100000 in
theorem cx_X11_nextFlag (l : Launch) (D : va_G) (ad : mm_A) (cA : Nat → ClassId) (hI : mm_Inj ad) (x1 : Int32)  (σ : mm_M) (rv : Int32) (σ1 : mm_M) (hf : fx_X11_nextFlag x1 σ = some (rv, σ1)) : Met l yX11_nextFlag (Cond.code yX11_nextFlag cX11_nextFlag 2 (some .int) :: tb) (mm_rm 1 22) (mm_pre D ad cA [.ref (ad 10 30 0), .int x1] σ) (mm_Q D ad cA (some (.int rv)) σ1) 0 0 (mm_AS ad) := by
  refine mm_start (by decide +kernel) hI (Nat.le_of_ble_eq_true rfl) ?_
  intro p e s m args below meth c X hP ls hl
  have hl : lv_has ls 2 [(0, .ref (ad 10 30 0)), (1, .int x1)] := hl
  have hx := X.1
  have hb := X.2.1
  have hS : va_S (mm_AS ad) s.heap s.heap [] := va_S.rf
  have hgen : ∀ (H : Heap) (locs : List Loc), va_P D vwCl (mm_wd ad cA σ) H → va_S (mm_AS ad) s.heap H locs → W p l e (mm_rm 1 22) s m args below meth c H locs 0 0 (MQ below (mm_Q D ad cA (some (.int rv)) σ1) args s 0 0 (mm_AS ad)) (F0 m 0 ls []) := by
    intro H locs hP hS
    rw [fx_X11_nextFlag] at hf
    refine lv_aload_n hx hb dX11_nextFlag_0 rfl (lv_at hl 0 rfl) ?_
    refine lv_iload_n hx hb dX11_nextFlag_1 rfl (lv_at hl 1 rfl) ?_
    refine lv_iconst (v := (4 : Int32)) hx hb dX11_nextFlag_2 (by decide) ?_
    obtain ⟨r_1, s_1, e_1, hf⟩ := mm_bd_ok hf
    refine mm_callV X hP hS hl.1 [.int x1, .int (4 : Int32)] [] (cx_X11_of l D ad cA hI x1 (4 : Int32) σ r_1 s_1 e_1) kp_30 rfl rfl wd_850 wd_852 wp_19 wd_12 wd_853 hd_X11_of ⟨Nat.le_of_ble_eq_true rfl, Nat.le_of_ble_eq_true rfl⟩ rfl (Nat.le_of_ble_eq_true rfl) dX11_nextFlag_3 (fun H locs hP hS => ?_)
    refine lv_aload_n hx hb dX11_nextFlag_6 rfl (lv_at hl 0 rfl) ?_
    refine gf_30_0 X hP  wd_769 dX11_nextFlag_7 ?_
    refine lv_iconst (v := (3 : Int32)) hx hb dX11_nextFlag_10 (by decide) ?_
    refine al_31 X hP  (by decide : mm_ix (3 : Int32) 207 = true) dX11_nextFlag_11 ?_
    refine lv_icmp_ge (tgt := 32) hx hb dX11_nextFlag_12 (by decide) (fun c_2 => ?_) (fun c_2 => ?_)
    · replace hf := mm_it c_2 hf
      refine lv_iconst (v := (-1 : Int32)) hx hb dX11_nextFlag_32 (by decide) ?_
      obtain ⟨rfl, rfl⟩ := mm_ret hf
      exact mm_iret X hP hS dX11_nextFlag_33
    · replace hf := mm_if c_2 hf
      refine lv_aload_n hx hb dX11_nextFlag_15 rfl (lv_at hl 0 rfl) ?_
      refine gf_30_0 X hP  wd_769 dX11_nextFlag_16 ?_
      refine lv_bipush (v := (7 : Int32)) hx hb dX11_nextFlag_19 (by decide) ?_
      refine lv_aload_n hx hb dX11_nextFlag_21 rfl (lv_at hl 0 rfl) ?_
      refine lv_iload_n hx hb dX11_nextFlag_22 rfl (lv_at hl 1 rfl) ?_
      refine lv_iconst (v := (4 : Int32)) hx hb dX11_nextFlag_23 (by decide) ?_
      obtain ⟨r_3, s_3, e_3, hf⟩ := mm_bd_ok hf
      refine mm_callV X hP hS hl.1 [.int x1, .int (4 : Int32)] [.int (7 : Int32), .ref (ad 10 31 0)] (cx_X11_of l D ad cA hI x1 (4 : Int32) s_1 r_3 s_3 e_3) kp_30 rfl rfl wd_850 wd_852 wp_19 wd_12 wd_853 hd_X11_of ⟨Nat.le_of_ble_eq_true rfl, Nat.le_of_ble_eq_true rfl⟩ rfl (Nat.le_of_ble_eq_true rfl) dX11_nextFlag_24 (fun H locs hP hS => ?_)
      refine lv_iadd hx hb dX11_nextFlag_27 ?_
      obtain ⟨h_4, hf⟩ := mm_gd_ok hf
      refine al_31 X hP  h_4 dX11_nextFlag_28 ?_
      refine lv_goto (tgt := 33) hx hb dX11_nextFlag_29 (by decide) ?_
      obtain ⟨rfl, rfl⟩ := mm_ret hf
      exact mm_iret X hP hS dX11_nextFlag_33
  exact hgen _ _ hP hS
