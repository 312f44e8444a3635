def fx_X11_isGood (x1 : Int32) (σ : mm_M) : mm_R := mm_gd (mm_ix ((11 : Int32) + x1) 207 = true) (if (σ 10 31 0 ((11 : Int32) + x1).toNatClampNeg) = (7 : Int32) then some ((0 : Int32), σ) else mm_bd (fx_X11_cartOn x1 σ) fun r_3 s_3 => (if (0 : Int32) ≤ r_3 then some ((0 : Int32), s_3) else some ((1 : Int32), s_3)))
set_option maxHeartbeats 4000000 in
set_option maxRecDepth 100000 in
theorem cx_X11_isGood (l : Launch) (D : va_G) (ad : mm_A) (cA : Nat → ClassId) (hI : mm_Inj ad) (x1 : Int32)  (σ : mm_M) (rv : Int32) (σ1 : mm_M) (hf : fx_X11_isGood x1 σ = some (rv, σ1)) : Met l yX11_isGood (Cond.code yX11_isGood cX11_isGood 2 (some .boolean) :: tb) (mm_rm 2 45) (mm_pre D ad cA [.ref (ad 10 30 0), .int x1] σ) (mm_Q D ad cA (some (.int rv)) σ1) 0 0 (mm_AS ad) := by
  refine mm_start (by decide +kernel) hI (Nat.le_of_ble_eq_true rfl) ?_
  intro p e s m args below meth c X hP ls hl
  have hl : lv_has ls 2 [(0, .ref (ad 10 30 0)), (1, .int x1)] := hl
  have hx := X.1
  have hb := X.2.1
  have hS : va_S (mm_AS ad) s.heap s.heap [] := va_S.rf
  have hgen : ∀ (H : Heap) (locs : List Loc), va_P D vwCl (mm_wd ad cA σ) H → va_S (mm_AS ad) s.heap H locs → W p l e (mm_rm 2 45) s m args below meth c H locs 0 0 (MQ below (mm_Q D ad cA (some (.int rv)) σ1) args s 0 0 (mm_AS ad)) (F0 m 0 ls []) := by
    intro H locs hP hS
    rw [fx_X11_isGood] at hf
    refine lv_aload_n hx hb dX11_isGood_0 rfl (lv_at hl 0 rfl) ?_
    refine gf_30_0 X hP  wd_769 dX11_isGood_1 ?_
    refine lv_bipush (v := (11 : Int32)) hx hb dX11_isGood_4 (by decide) ?_
    refine lv_iload_n hx hb dX11_isGood_6 rfl (lv_at hl 1 rfl) ?_
    refine lv_iadd hx hb dX11_isGood_7 ?_
    obtain ⟨h_1, hf⟩ := mm_gd_ok hf
    refine al_31 X hP  h_1 dX11_isGood_8 ?_
    refine lv_bipush (v := (7 : Int32)) hx hb dX11_isGood_9 (by decide) ?_
    refine lv_icmp_eq (tgt := 26) hx hb dX11_isGood_11 (by decide) (fun c_2 => ?_) (fun c_2 => ?_)
    · replace hf := mm_it c_2 hf
      refine lv_iconst (v := (0 : Int32)) hx hb dX11_isGood_26 (by decide) ?_
      obtain ⟨rfl, rfl⟩ := mm_ret hf
      exact mm_zret (Or.inl rfl) X hP hS dX11_isGood_27
    · replace hf := mm_if c_2 hf
      refine lv_aload_n hx hb dX11_isGood_14 rfl (lv_at hl 0 rfl) ?_
      refine lv_iload_n hx hb dX11_isGood_15 rfl (lv_at hl 1 rfl) ?_
      obtain ⟨r_3, s_3, e_3, hf⟩ := mm_bd_ok hf
      refine mm_callV X hP hS hl.1 [.int x1] [] (cx_X11_cartOn l D ad cA hI x1 σ r_3 s_3 e_3) kp_30 rfl rfl wd_846 wd_848 wp_18 wd_12 wd_849 hd_X11_cartOn ⟨Nat.le_of_ble_eq_true rfl, Nat.le_of_ble_eq_true rfl⟩ rfl (Nat.le_of_ble_eq_true rfl) dX11_isGood_16 (fun H locs hP hS => ?_)
      refine lv_if_ge (tgt := 26) hx hb dX11_isGood_19 (by decide) (fun c_4 => ?_) (fun c_4 => ?_)
      · replace hf := mm_it c_4 hf
        refine lv_iconst (v := (0 : Int32)) hx hb dX11_isGood_26 (by decide) ?_
        obtain ⟨rfl, rfl⟩ := mm_ret hf
        exact mm_zret (Or.inl rfl) X hP hS dX11_isGood_27
      · replace hf := mm_if c_4 hf
        refine lv_iconst (v := (1 : Int32)) hx hb dX11_isGood_22 (by decide) ?_
        refine lv_goto (tgt := 27) hx hb dX11_isGood_23 (by decide) ?_
        obtain ⟨rfl, rfl⟩ := mm_ret hf
        exact mm_zret (Or.inr rfl) X hP hS dX11_isGood_27
  exact hgen _ _ hP hS
def fx_X11_lays (x1 : Int32) (x2 : Int32) (x3 : Int32) (σ : mm_M) : mm_R := mm_gd (mm_ix (((139 : Int32) + ((17 : Int32) * x1)) + x2) 207 = true) (mm_lt (mm_u σ 10 31 0 (((139 : Int32) + ((17 : Int32) * x1)) + x2).toNatClampNeg x3) fun s_2 => (some (0, s_2)))
set_option maxHeartbeats 4000000 in
set_option maxRecDepth 100000 in
theorem cx_X11_lays (l : Launch) (D : va_G) (ad : mm_A) (cA : Nat → ClassId) (hI : mm_Inj ad) (x1 : Int32) (x2 : Int32) (x3 : Int32)  (σ : mm_M) (rv : Int32) (σ1 : mm_M) (hf : fx_X11_lays x1 x2 x3 σ = some (rv, σ1)) : Met l yX11_lays (Cond.code yX11_lays cX11_lays 4 none :: tb) (mm_rm 0 0) (mm_pre D ad cA [.ref (ad 10 30 0), .int x1, .int x2, .int x3] σ) (mm_Q D ad cA none σ1) 0 0 (mm_AS ad) := by
  refine mm_start (by decide +kernel) hI (Nat.le_of_ble_eq_true rfl) ?_
  intro p e s m args below meth c X hP ls hl
  have hl : lv_has ls 4 [(0, .ref (ad 10 30 0)), (1, .int x1), (2, .int x2), (3, .int x3)] := hl
  have hx := X.1
  have hb := X.2.1
  have hS : va_S (mm_AS ad) s.heap s.heap [] := va_S.rf
  have hgen : ∀ (H : Heap) (locs : List Loc), va_P D vwCl (mm_wd ad cA σ) H → va_S (mm_AS ad) s.heap H locs → W p l e (mm_rm 0 0) s m args below meth c H locs 0 0 (MQ below (mm_Q D ad cA none σ1) args s 0 0 (mm_AS ad)) (F0 m 0 ls []) := by
    intro H locs hP hS
    rw [fx_X11_lays] at hf
    refine lv_aload_n hx hb dX11_lays_0 rfl (lv_at hl 0 rfl) ?_
    refine gf_30_0 X hP  wd_769 dX11_lays_1 ?_
    refine lv_sipush (v := (139 : Int32)) hx hb dX11_lays_4 (by decide) ?_
    refine lv_bipush (v := (17 : Int32)) hx hb dX11_lays_7 (by decide) ?_
    refine lv_iload_n hx hb dX11_lays_9 rfl (lv_at hl 1 rfl) ?_
    refine lv_imul hx hb dX11_lays_10 ?_
    refine lv_iadd hx hb dX11_lays_11 ?_
    refine lv_iload_n hx hb dX11_lays_12 rfl (lv_at hl 2 rfl) ?_
    refine lv_iadd hx hb dX11_lays_13 ?_
    refine lv_iload_n hx hb dX11_lays_14 rfl (lv_at hl 3 rfl) ?_
    obtain ⟨h_1, hf⟩ := mm_gd_ok hf
    refine as_31 X hP hS  h_1  dX11_lays_15 (fun H locs hP hS => ?_)
    obtain ⟨s_2, e_2, hf⟩ := mm_lt_ok hf
    rw [← e_2] at hP
    obtain ⟨rfl, rfl⟩ := mm_ret hf
    exact mm_vret X hP hS dX11_lays_16
  exact hgen _ _ hP hS
def fx_X11_comes_L63 (x1 : Int32) (x2 : Int32)  : Nat → Int32 → Int32 → mm_M → mm_R
  | 0, _, _, _ => none
  | fu + 1, v3, v4, σ => if (17 : Int32) ≤ v4 then mm_bd (fx_X11_lays v3 (0 : Int32) x1 σ) fun _ s_11 => (mm_bd (fx_X11_lays v3 (1 : Int32) x1 s_11) fun _ s_12 => (mm_bd (fx_X11_lays v3 (2 : Int32) x2 s_12) fun _ s_13 => (some (v3, s_13)))) else mm_bd (fx_X11_lays v3 v4 (0 : Int32) σ) fun _ s_14 => (mm_li (v4 + (1 : Int32)) fun y_15 => (fx_X11_comes_L63 x1 x2 fu v3 y_15 s_14))
set_option maxHeartbeats 4000000 in
set_option maxRecDepth 100000 in
theorem cx_X11_comes_L63 {p : Program} {l : Launch} {e : Env} {s : State} {m : MethodId} {args : Array Value} {below : List Frame} {meth : Method} {c : Code} {D : va_G} {ad : mm_A} {cA : Nat → ClassId} (x1 : Int32) (x2 : Int32)  (rv : Int32) (σ1 : mm_M)  (X : mm_X p s m args meth c cX11_comes 5 (some .int) RX11 D ad cA) : ∀ (fu : Nat), ∀ (v3 : Int32) (v4 : Int32) (σ : mm_M) (H : Heap) (locs : List Loc) (ls : Array Slot), fx_X11_comes_L63 x1 x2 fu v3 v4 σ = some (rv, σ1) → va_P D vwCl (mm_wd ad cA σ) H → va_S (mm_AS ad) s.heap H locs → lv_has ls 5 [(0, .ref (ad 10 30 0)), (1, .int x1), (2, .int x2), (3, .int v3), (4, .int v4)] → W p l e (mm_rm 3 66) s m args below meth c H locs 0 0 (MQ below (mm_Q D ad cA (some (.int rv)) σ1) args s 0 0 (mm_AS ad)) (F0 m 63 ls []) := by
  have hx := X.1
  have hb := X.2.1
  have hI := X.2.2.2.2.2.2.2.2.2
  intro fu
  induction fu with
  | zero =>
    intro v3 v4 σ H locs ls hf
    exact mm_no hf
  | succ fu ih =>
    intro v3 v4 σ H locs ls hf hP hS hl
    rw [fx_X11_comes_L63] at hf
    refine lv_iload hx hb dX11_comes_63 (lv_at hl 4 rfl) ?_
    refine lv_bipush (v := (17 : Int32)) hx hb dX11_comes_65 (by decide) ?_
    refine lv_icmp_ge (tgt := 84) hx hb dX11_comes_67 (by decide) (fun c_10 => ?_) (fun c_10 => ?_)
    · replace hf := mm_it c_10 hf
      refine lv_aload_n hx hb dX11_comes_84 rfl (lv_at hl 0 rfl) ?_
      refine lv_iload_n hx hb dX11_comes_85 rfl (lv_at hl 3 rfl) ?_
      refine lv_iconst (v := (0 : Int32)) hx hb dX11_comes_86 (by decide) ?_
      refine lv_iload_n hx hb dX11_comes_87 rfl (lv_at hl 1 rfl) ?_
      obtain ⟨r_11, s_11, e_11, hf⟩ := mm_bd_ok hf
      refine mm_callV X hP hS hl.1 [.int v3, .int (0 : Int32), .int x1] [] (cx_X11_lays l D ad cA hI v3 (0 : Int32) x1 σ r_11 s_11 e_11) kp_30 rfl rfl wd_891 wd_893 wp_25 wd_12 wd_894 hd_X11_lays ⟨Nat.le_of_ble_eq_true rfl, Nat.le_of_ble_eq_true rfl⟩ rfl (Nat.le_of_ble_eq_true rfl) dX11_comes_88 (fun H locs hP hS => ?_)
      refine lv_aload_n hx hb dX11_comes_91 rfl (lv_at hl 0 rfl) ?_
      refine lv_iload_n hx hb dX11_comes_92 rfl (lv_at hl 3 rfl) ?_
      refine lv_iconst (v := (1 : Int32)) hx hb dX11_comes_93 (by decide) ?_
      refine lv_iload_n hx hb dX11_comes_94 rfl (lv_at hl 1 rfl) ?_
      obtain ⟨r_12, s_12, e_12, hf⟩ := mm_bd_ok hf
      refine mm_callV X hP hS hl.1 [.int v3, .int (1 : Int32), .int x1] [] (cx_X11_lays l D ad cA hI v3 (1 : Int32) x1 s_11 r_12 s_12 e_12) kp_30 rfl rfl wd_891 wd_893 wp_25 wd_12 wd_894 hd_X11_lays ⟨Nat.le_of_ble_eq_true rfl, Nat.le_of_ble_eq_true rfl⟩ rfl (Nat.le_of_ble_eq_true rfl) dX11_comes_95 (fun H locs hP hS => ?_)
      refine lv_aload_n hx hb dX11_comes_98 rfl (lv_at hl 0 rfl) ?_
      refine lv_iload_n hx hb dX11_comes_99 rfl (lv_at hl 3 rfl) ?_
      refine lv_iconst (v := (2 : Int32)) hx hb dX11_comes_100 (by decide) ?_
      refine lv_iload_n hx hb dX11_comes_101 rfl (lv_at hl 2 rfl) ?_
      obtain ⟨r_13, s_13, e_13, hf⟩ := mm_bd_ok hf
      refine mm_callV X hP hS hl.1 [.int v3, .int (2 : Int32), .int x2] [] (cx_X11_lays l D ad cA hI v3 (2 : Int32) x2 s_12 r_13 s_13 e_13) kp_30 rfl rfl wd_891 wd_893 wp_25 wd_12 wd_894 hd_X11_lays ⟨Nat.le_of_ble_eq_true rfl, Nat.le_of_ble_eq_true rfl⟩ rfl (Nat.le_of_ble_eq_true rfl) dX11_comes_102 (fun H locs hP hS => ?_)
      refine lv_iload_n hx hb dX11_comes_105 rfl (lv_at hl 3 rfl) ?_
      obtain ⟨rfl, rfl⟩ := mm_ret hf
      exact mm_iret X hP hS dX11_comes_106
    · replace hf := mm_if c_10 hf
      refine lv_aload_n hx hb dX11_comes_70 rfl (lv_at hl 0 rfl) ?_
      refine lv_iload_n hx hb dX11_comes_71 rfl (lv_at hl 3 rfl) ?_
      refine lv_iload hx hb dX11_comes_72 (lv_at hl 4 rfl) ?_
      refine lv_iconst (v := (0 : Int32)) hx hb dX11_comes_74 (by decide) ?_
      obtain ⟨r_14, s_14, e_14, hf⟩ := mm_bd_ok hf
      refine mm_callV X hP hS hl.1 [.int v3, .int v4, .int (0 : Int32)] [] (cx_X11_lays l D ad cA hI v3 v4 (0 : Int32) σ r_14 s_14 e_14) kp_30 rfl rfl wd_891 wd_893 wp_25 wd_12 wd_894 hd_X11_lays ⟨Nat.le_of_ble_eq_true rfl, Nat.le_of_ble_eq_true rfl⟩ rfl (Nat.le_of_ble_eq_true rfl) dX11_comes_75 (fun H locs hP hS => ?_)
      obtain ⟨y_15, e_15, hf⟩ := mm_li_ok hf
      refine lv_iinc (v := y_15) (lv' := [(4, .int y_15), (0, .ref (ad 10 30 0)), (1, .int x1), (2, .int x2), (3, .int v3)]) hx hb dX11_comes_78 hl (k := 4) rfl (by rw [e_15]; rfl) (by decide) rfl (fun ls hl => ?_)
      refine lv_goto (tgt := 63) hx hb dX11_comes_81 (by decide) ?_
      exact ih v3 y_15 s_14 H locs ls  hf hP hS (lv_sub hl [1, 2, 3, 4, 0] rfl)
def fx_X11_comes (x1 : Int32) (x2 : Int32) (σ : mm_M) : mm_R := mm_bd (fx_X11_isCell x1 σ) fun r_1 s_1 => (if r_1 = (0 : Int32) then some ((-1000001 : Int32), s_1) else mm_bd (fx_X11_in x2 (0 : Int32) (3 : Int32) s_1) fun r_3 s_3 => (if r_3 = (0 : Int32) then some ((-1000001 : Int32), s_3) else mm_bd (fx_X11_isGood x1 s_3) fun r_5 s_5 => (if r_5 = (0 : Int32) then some ((-1000002 : Int32), s_5) else if (s_5 10 31 0 (0 : Int32).toNatClampNeg) = (4 : Int32) then some ((-1000003 : Int32), s_5) else mm_li (s_5 10 31 0 (0 : Int32).toNatClampNeg) fun y_8 => (mm_lt (mm_u s_5 10 31 0 (0 : Int32).toNatClampNeg ((s_5 10 31 0 (0 : Int32).toNatClampNeg) + (1 : Int32))) fun s_9 => (fx_X11_comes_L63 x1 x2 mm_FU y_8 (0 : Int32) s_9)))))
set_option maxHeartbeats 4000000 in
set_option maxRecDepth 100000 in
theorem cx_X11_comes (l : Launch) (D : va_G) (ad : mm_A) (cA : Nat → ClassId) (hI : mm_Inj ad) (x1 : Int32) (x2 : Int32)  (σ : mm_M) (rv : Int32) (σ1 : mm_M) (hf : fx_X11_comes x1 x2 σ = some (rv, σ1)) : Met l yX11_comes (Cond.code yX11_comes cX11_comes 5 (some .int) :: tb) (mm_rm 3 66) (mm_pre D ad cA [.ref (ad 10 30 0), .int x1, .int x2] σ) (mm_Q D ad cA (some (.int rv)) σ1) 0 0 (mm_AS ad) := by
  refine mm_start (by decide +kernel) hI (Nat.le_of_ble_eq_true rfl) ?_
  intro p e s m args below meth c X hP ls hl
  have hl : lv_has ls 5 [(0, .ref (ad 10 30 0)), (1, .int x1), (2, .int x2)] := hl
  have hx := X.1
  have hb := X.2.1
  have hS : va_S (mm_AS ad) s.heap s.heap [] := va_S.rf
  have hgen : ∀ (H : Heap) (locs : List Loc), va_P D vwCl (mm_wd ad cA σ) H → va_S (mm_AS ad) s.heap H locs → W p l e (mm_rm 3 66) s m args below meth c H locs 0 0 (MQ below (mm_Q D ad cA (some (.int rv)) σ1) args s 0 0 (mm_AS ad)) (F0 m 0 ls []) := by
    intro H locs hP hS
    rw [fx_X11_comes] at hf
    refine lv_iload_n hx hb dX11_comes_0 rfl (lv_at hl 1 rfl) ?_
    obtain ⟨r_1, s_1, e_1, hf⟩ := mm_bd_ok hf
    refine mm_callS X hP hS hl.1 [.int x1] [] (cx_X11_isCell l D ad cA hI x1 σ r_1 s_1 e_1) wd_839 wd_840 wd_12 wd_841 hd_X11_isCell ⟨Nat.le_of_ble_eq_true rfl, Nat.le_of_ble_eq_true rfl⟩ rfl (Nat.le_of_ble_eq_true rfl) dX11_comes_1 (fun H locs hP hS => ?_)
    refine lv_if_eq (tgt := 16) hx hb dX11_comes_4 (by decide) (fun c_2 => ?_) (fun c_2 => ?_)
    · replace hf := mm_it c_2 hf
      refine lv_ldc (v := (-1000001 : Int32)) hx hb X.2.2.2.2.2.1 (X.2.2.2.2.2.2.1 _ wd_845) dX11_comes_16 ?_
      obtain ⟨rfl, rfl⟩ := mm_ret hf
      exact mm_iret X hP hS dX11_comes_18
    · replace hf := mm_if c_2 hf
      refine lv_iload_n hx hb dX11_comes_7 rfl (lv_at hl 2 rfl) ?_
      refine lv_iconst (v := (0 : Int32)) hx hb dX11_comes_8 (by decide) ?_
      refine lv_iconst (v := (3 : Int32)) hx hb dX11_comes_9 (by decide) ?_
      obtain ⟨r_3, s_3, e_3, hf⟩ := mm_bd_ok hf
      refine mm_callS X hP hS hl.1 [.int x2, .int (0 : Int32), .int (3 : Int32)] [] (cx_X11_in l D ad cA hI x2 (0 : Int32) (3 : Int32) s_1 r_3 s_3 e_3) wd_842 wd_843 wd_12 wd_844 hd_X11_in ⟨Nat.le_of_ble_eq_true rfl, Nat.le_of_ble_eq_true rfl⟩ rfl (Nat.le_of_ble_eq_true rfl) dX11_comes_10 (fun H locs hP hS => ?_)
      refine lv_if_ne (tgt := 19) hx hb dX11_comes_13 (by decide) (fun c_4 => ?_) (fun c_4 => ?_)
      · replace hf := mm_if c_4 hf
        refine lv_aload_n hx hb dX11_comes_19 rfl (lv_at hl 0 rfl) ?_
        refine lv_iload_n hx hb dX11_comes_20 rfl (lv_at hl 1 rfl) ?_
        obtain ⟨r_5, s_5, e_5, hf⟩ := mm_bd_ok hf
        refine mm_callV X hP hS hl.1 [.int x1] [] (cx_X11_isGood l D ad cA hI x1 s_3 r_5 s_5 e_5) kp_30 rfl rfl wd_886 wd_888 wp_24 wd_12 wd_889 hd_X11_isGood ⟨Nat.le_of_ble_eq_true rfl, Nat.le_of_ble_eq_true rfl⟩ rfl (Nat.le_of_ble_eq_true rfl) dX11_comes_21 (fun H locs hP hS => ?_)
        refine lv_if_ne (tgt := 30) hx hb dX11_comes_24 (by decide) (fun c_6 => ?_) (fun c_6 => ?_)
        · replace hf := mm_if c_6 hf
          refine lv_aload_n hx hb dX11_comes_30 rfl (lv_at hl 0 rfl) ?_
          refine gf_30_0 X hP  wd_769 dX11_comes_31 ?_
          refine lv_iconst (v := (0 : Int32)) hx hb dX11_comes_34 (by decide) ?_
          refine al_31 X hP  (by decide : mm_ix (0 : Int32) 207 = true) dX11_comes_35 ?_
          refine lv_iconst (v := (4 : Int32)) hx hb dX11_comes_36 (by decide) ?_
          refine lv_icmp_ne (tgt := 43) hx hb dX11_comes_37 (by decide) (fun c_7 => ?_) (fun c_7 => ?_)
          · replace hf := mm_if c_7 hf
            refine lv_aload_n hx hb dX11_comes_43 rfl (lv_at hl 0 rfl) ?_
            refine gf_30_0 X hP  wd_769 dX11_comes_44 ?_
            refine lv_iconst (v := (0 : Int32)) hx hb dX11_comes_47 (by decide) ?_
            refine al_31 X hP  (by decide : mm_ix (0 : Int32) 207 = true) dX11_comes_48 ?_
            obtain ⟨y_8, e_8, hf⟩ := mm_li_ok hf
            rw [← e_8]
            refine lv_istore_n (lv' := [(3, .int y_8), (0, .ref (ad 10 30 0)), (1, .int x1), (2, .int x2)]) hx hb dX11_comes_49 rfl hl (by decide) rfl (fun ls hl => ?_)
            refine lv_aload_n hx hb dX11_comes_50 rfl (lv_at hl 1 rfl) ?_
            refine gf_30_0 X hP  wd_769 dX11_comes_51 ?_
            refine lv_iconst (v := (0 : Int32)) hx hb dX11_comes_54 (by decide) ?_
            refine lv_dup2_11 hx hb dX11_comes_55 rfl rfl ?_
            refine al_31 X hP  (by decide : mm_ix (0 : Int32) 207 = true) dX11_comes_56 ?_
            refine lv_iconst (v := (1 : Int32)) hx hb dX11_comes_57 (by decide) ?_
            refine lv_iadd hx hb dX11_comes_58 ?_
            refine as_31 X hP hS  (by decide : mm_ix (0 : Int32) 207 = true)  dX11_comes_59 (fun H locs hP hS => ?_)
            obtain ⟨s_9, e_9, hf⟩ := mm_lt_ok hf
            rw [← e_9] at hP
            refine lv_iconst (v := (0 : Int32)) hx hb dX11_comes_60 (by decide) ?_
            refine lv_istore (lv' := [(4, .int (0 : Int32)), (3, .int y_8), (0, .ref (ad 10 30 0)), (1, .int x1), (2, .int x2)]) hx hb dX11_comes_61 hl (by decide) rfl (fun ls hl => ?_)
            exact cx_X11_comes_L63 x1 x2 rv σ1 X mm_FU y_8 (0 : Int32) s_9 H locs ls hf hP hS (lv_sub hl [2, 3, 4, 1, 0] rfl)
          · replace hf := mm_it c_7 hf
            refine lv_ldc (v := (-1000003 : Int32)) hx hb X.2.2.2.2.2.1 (X.2.2.2.2.2.2.1 _ wd_890) dX11_comes_40 ?_
            obtain ⟨rfl, rfl⟩ := mm_ret hf
            exact mm_iret X hP hS dX11_comes_42
        · replace hf := mm_it c_6 hf
          refine lv_ldc (v := (-1000002 : Int32)) hx hb X.2.2.2.2.2.1 (X.2.2.2.2.2.2.1 _ wd_854) dX11_comes_27 ?_
          obtain ⟨rfl, rfl⟩ := mm_ret hf
          exact mm_iret X hP hS dX11_comes_29
      · replace hf := mm_it c_4 hf
        refine lv_ldc (v := (-1000001 : Int32)) hx hb X.2.2.2.2.2.1 (X.2.2.2.2.2.2.1 _ wd_845) dX11_comes_16 ?_
        obtain ⟨rfl, rfl⟩ := mm_ret hf
        exact mm_iret X hP hS dX11_comes_18
  exact hgen _ _ hP hS
def fx_X11_cart (x1 : Int32) (x2 : Int32) (σ : mm_M) : mm_R := mm_bd (fx_X11_begins  σ) fun _ s_1 => (mm_bd (fx_X11_comes x1 x2 s_1) fun r_2 s_2 => (mm_bd (fx_X11_acted r_2 s_2) fun r_3 s_3 => (some (r_3, s_3))))
set_option maxHeartbeats 4000000 in
set_option maxRecDepth 100000 in
theorem cx_X11_cart (l : Launch) (D : va_G) (ad : mm_A) (cA : Nat → ClassId) (hI : mm_Inj ad) (x1 : Int32) (x2 : Int32)  (σ : mm_M) (rv : Int32) (σ1 : mm_M) (hf : fx_X11_cart x1 x2 σ = some (rv, σ1)) : Met l yX11_cart (Cond.code yX11_cart cX11_cart 3 (some .int) :: tb) (mm_rm 4 90) (mm_pre D ad cA [.ref (ad 10 30 0), .int x1, .int x2] σ) (mm_Q D ad cA (some (.int rv)) σ1) 0 0 (mm_AS ad) := by
  refine mm_start (by decide +kernel) hI (Nat.le_of_ble_eq_true rfl) ?_
  intro p e s m args below meth c X hP ls hl
  have hl : lv_has ls 3 [(0, .ref (ad 10 30 0)), (1, .int x1), (2, .int x2)] := hl
  have hx := X.1
  have hb := X.2.1
  have hS : va_S (mm_AS ad) s.heap s.heap [] := va_S.rf
  have hgen : ∀ (H : Heap) (locs : List Loc), va_P D vwCl (mm_wd ad cA σ) H → va_S (mm_AS ad) s.heap H locs → W p l e (mm_rm 4 90) s m args below meth c H locs 0 0 (MQ below (mm_Q D ad cA (some (.int rv)) σ1) args s 0 0 (mm_AS ad)) (F0 m 0 ls []) := by
    intro H locs hP hS
    rw [fx_X11_cart] at hf
    refine lv_aload_n hx hb dX11_cart_0 rfl (lv_at hl 0 rfl) ?_
    obtain ⟨r_1, s_1, e_1, hf⟩ := mm_bd_ok hf
    refine mm_callV X hP hS hl.1 [] [] (cx_X11_begins l D ad cA hI  σ r_1 s_1 e_1) kp_30 rfl rfl wd_831 wd_833 wp_16 wd_12 wd_834 hd_X11_begins ⟨Nat.le_of_ble_eq_true rfl, Nat.le_of_ble_eq_true rfl⟩ rfl (Nat.le_of_ble_eq_true rfl) dX11_cart_1 (fun H locs hP hS => ?_)
    refine lv_aload_n hx hb dX11_cart_4 rfl (lv_at hl 0 rfl) ?_
    refine lv_aload_n hx hb dX11_cart_5 rfl (lv_at hl 0 rfl) ?_
    refine lv_iload_n hx hb dX11_cart_6 rfl (lv_at hl 1 rfl) ?_
    refine lv_iload_n hx hb dX11_cart_7 rfl (lv_at hl 2 rfl) ?_
    obtain ⟨r_2, s_2, e_2, hf⟩ := mm_bd_ok hf
    refine mm_callV X hP hS hl.1 [.int x1, .int x2] [.ref (ad 10 30 0)] (cx_X11_comes l D ad cA hI x1 x2 s_1 r_2 s_2 e_2) kp_30 rfl rfl wd_882 wd_884 wp_23 wd_12 wd_885 hd_X11_comes ⟨Nat.le_of_ble_eq_true rfl, Nat.le_of_ble_eq_true rfl⟩ rfl (Nat.le_of_ble_eq_true rfl) dX11_cart_8 (fun H locs hP hS => ?_)
    obtain ⟨r_3, s_3, e_3, hf⟩ := mm_bd_ok hf
    refine mm_callV X hP hS hl.1 [.int r_2] [] (cx_X11_acted l D ad cA hI r_2 s_2 r_3 s_3 e_3) kp_30 rfl rfl wd_855 wd_857 wp_20 wd_12 wd_858 hd_X11_acted ⟨Nat.le_of_ble_eq_true rfl, Nat.le_of_ble_eq_true rfl⟩ rfl (Nat.le_of_ble_eq_true rfl) dX11_cart_11 (fun H locs hP hS => ?_)
    obtain ⟨rfl, rfl⟩ := mm_ret hf
    exact mm_iret X hP hS dX11_cart_14
  exact hgen _ _ hP hS
def fx_X11_isCart (x1 : Int32) (σ : mm_M) : mm_R := mm_bd (fx_X11_in x1 (0 : Int32) ((σ 10 31 0 (0 : Int32).toNatClampNeg) - (1 : Int32)) σ) fun r_1 s_1 => (mm_gd (r_1 = 0 ∨ r_1 = 1) (some (r_1, s_1)))
set_option maxHeartbeats 4000000 in
set_option maxRecDepth 100000 in
theorem cx_X11_isCart (l : Launch) (D : va_G) (ad : mm_A) (cA : Nat → ClassId) (hI : mm_Inj ad) (x1 : Int32)  (σ : mm_M) (rv : Int32) (σ1 : mm_M) (hf : fx_X11_isCart x1 σ = some (rv, σ1)) : Met l yX11_isCart (Cond.code yX11_isCart cX11_isCart 2 (some .boolean) :: tb) (mm_rm 1 22) (mm_pre D ad cA [.ref (ad 10 30 0), .int x1] σ) (mm_Q D ad cA (some (.int rv)) σ1) 0 0 (mm_AS ad) := by
  refine mm_start (by decide +kernel) hI (Nat.le_of_ble_eq_true rfl) ?_
  intro p e s m args below meth c X hP ls hl
  have hl : lv_has ls 2 [(0, .ref (ad 10 30 0)), (1, .int x1)] := hl
  have hx := X.1
  have hb := X.2.1
  have hS : va_S (mm_AS ad) s.heap s.heap [] := va_S.rf
  have hgen : ∀ (H : Heap) (locs : List Loc), va_P D vwCl (mm_wd ad cA σ) H → va_S (mm_AS ad) s.heap H locs → W p l e (mm_rm 1 22) s m args below meth c H locs 0 0 (MQ below (mm_Q D ad cA (some (.int rv)) σ1) args s 0 0 (mm_AS ad)) (F0 m 0 ls []) := by
    intro H locs hP hS
    rw [fx_X11_isCart] at hf
    refine lv_iload_n hx hb dX11_isCart_0 rfl (lv_at hl 1 rfl) ?_
    refine lv_iconst (v := (0 : Int32)) hx hb dX11_isCart_1 (by decide) ?_
    refine lv_aload_n hx hb dX11_isCart_2 rfl (lv_at hl 0 rfl) ?_
    refine gf_30_0 X hP  wd_769 dX11_isCart_3 ?_
    refine lv_iconst (v := (0 : Int32)) hx hb dX11_isCart_6 (by decide) ?_
    refine al_31 X hP  (by decide : mm_ix (0 : Int32) 207 = true) dX11_isCart_7 ?_
    refine lv_iconst (v := (1 : Int32)) hx hb dX11_isCart_8 (by decide) ?_
    refine lv_isub hx hb dX11_isCart_9 ?_
    obtain ⟨r_1, s_1, e_1, hf⟩ := mm_bd_ok hf
    refine mm_callS X hP hS hl.1 [.int x1, .int (0 : Int32), .int ((σ 10 31 0 (0 : Int32).toNatClampNeg) - (1 : Int32))] [] (cx_X11_in l D ad cA hI x1 (0 : Int32) ((σ 10 31 0 (0 : Int32).toNatClampNeg) - (1 : Int32)) σ r_1 s_1 e_1) wd_842 wd_843 wd_12 wd_844 hd_X11_in ⟨Nat.le_of_ble_eq_true rfl, Nat.le_of_ble_eq_true rfl⟩ rfl (Nat.le_of_ble_eq_true rfl) dX11_isCart_10 (fun H locs hP hS => ?_)
    obtain ⟨h_2, hf⟩ := mm_gd_ok hf
    obtain ⟨rfl, rfl⟩ := mm_ret hf
    exact mm_zret h_2 X hP hS dX11_isCart_13
  exact hgen _ _ hP hS
def fx_X11_isOut (x1 : Int32) (σ : mm_M) : mm_R := mm_bd (fx_X11_of x1 (1 : Int32) σ) fun r_1 s_1 => (if (0 : Int32) ≤ r_1 then some ((0 : Int32), s_1) else some ((1 : Int32), s_1))
set_option maxHeartbeats 4000000 in
set_option maxRecDepth 100000 in
theorem cx_X11_isOut (l : Launch) (D : va_G) (ad : mm_A) (cA : Nat → ClassId) (hI : mm_Inj ad) (x1 : Int32)  (σ : mm_M) (rv : Int32) (σ1 : mm_M) (hf : fx_X11_isOut x1 σ = some (rv, σ1)) : Met l yX11_isOut (Cond.code yX11_isOut cX11_isOut 2 (some .boolean) :: tb) (mm_rm 1 22) (mm_pre D ad cA [.ref (ad 10 30 0), .int x1] σ) (mm_Q D ad cA (some (.int rv)) σ1) 0 0 (mm_AS ad) := by
  refine mm_start (by decide +kernel) hI (Nat.le_of_ble_eq_true rfl) ?_
  intro p e s m args below meth c X hP ls hl
  have hl : lv_has ls 2 [(0, .ref (ad 10 30 0)), (1, .int x1)] := hl
  have hx := X.1
  have hb := X.2.1
  have hS : va_S (mm_AS ad) s.heap s.heap [] := va_S.rf
  have hgen : ∀ (H : Heap) (locs : List Loc), va_P D vwCl (mm_wd ad cA σ) H → va_S (mm_AS ad) s.heap H locs → W p l e (mm_rm 1 22) s m args below meth c H locs 0 0 (MQ below (mm_Q D ad cA (some (.int rv)) σ1) args s 0 0 (mm_AS ad)) (F0 m 0 ls []) := by
    intro H locs hP hS
    rw [fx_X11_isOut] at hf
    refine lv_aload_n hx hb dX11_isOut_0 rfl (lv_at hl 0 rfl) ?_
    refine lv_iload_n hx hb dX11_isOut_1 rfl (lv_at hl 1 rfl) ?_
    refine lv_iconst (v := (1 : Int32)) hx hb dX11_isOut_2 (by decide) ?_
    obtain ⟨r_1, s_1, e_1, hf⟩ := mm_bd_ok hf
    refine mm_callV X hP hS hl.1 [.int x1, .int (1 : Int32)] [] (cx_X11_of l D ad cA hI x1 (1 : Int32) σ r_1 s_1 e_1) kp_30 rfl rfl wd_850 wd_852 wp_19 wd_12 wd_853 hd_X11_of ⟨Nat.le_of_ble_eq_true rfl, Nat.le_of_ble_eq_true rfl⟩ rfl (Nat.le_of_ble_eq_true rfl) dX11_isOut_3 (fun H locs hP hS => ?_)
    refine lv_if_ge (tgt := 13) hx hb dX11_isOut_6 (by decide) (fun c_2 => ?_) (fun c_2 => ?_)
    · replace hf := mm_it c_2 hf
      refine lv_iconst (v := (0 : Int32)) hx hb dX11_isOut_13 (by decide) ?_
      obtain ⟨rfl, rfl⟩ := mm_ret hf
      exact mm_zret (Or.inl rfl) X hP hS dX11_isOut_14
    · replace hf := mm_if c_2 hf
      refine lv_iconst (v := (1 : Int32)) hx hb dX11_isOut_9 (by decide) ?_
      refine lv_goto (tgt := 14) hx hb dX11_isOut_10 (by decide) ?_
      obtain ⟨rfl, rfl⟩ := mm_ret hf
      exact mm_zret (Or.inr rfl) X hP hS dX11_isOut_14
  exact hgen _ _ hP hS
def fx_X11_isLocked (x1 : Int32) (x2 : Int32) (σ : mm_M) : mm_R := mm_bd (fx_X11_of x1 (3 : Int32) σ) fun r_1 s_1 => (if x2 < ((5 : Int32) - (r_1 - (4 : Int32))) then some ((0 : Int32), s_1) else some ((1 : Int32), s_1))
set_option maxHeartbeats 4000000 in
set_option maxRecDepth 100000 in
theorem cx_X11_isLocked (l : Launch) (D : va_G) (ad : mm_A) (cA : Nat → ClassId) (hI : mm_Inj ad) (x1 : Int32) (x2 : Int32)  (σ : mm_M) (rv : Int32) (σ1 : mm_M) (hf : fx_X11_isLocked x1 x2 σ = some (rv, σ1)) : Met l yX11_isLocked (Cond.code yX11_isLocked cX11_isLocked 3 (some .boolean) :: tb) (mm_rm 1 22) (mm_pre D ad cA [.ref (ad 10 30 0), .int x1, .int x2] σ) (mm_Q D ad cA (some (.int rv)) σ1) 0 0 (mm_AS ad) := by
  refine mm_start (by decide +kernel) hI (Nat.le_of_ble_eq_true rfl) ?_
  intro p e s m args below meth c X hP ls hl
  have hl : lv_has ls 3 [(0, .ref (ad 10 30 0)), (1, .int x1), (2, .int x2)] := hl
  have hx := X.1
  have hb := X.2.1
  have hS : va_S (mm_AS ad) s.heap s.heap [] := va_S.rf
  have hgen : ∀ (H : Heap) (locs : List Loc), va_P D vwCl (mm_wd ad cA σ) H → va_S (mm_AS ad) s.heap H locs → W p l e (mm_rm 1 22) s m args below meth c H locs 0 0 (MQ below (mm_Q D ad cA (some (.int rv)) σ1) args s 0 0 (mm_AS ad)) (F0 m 0 ls []) := by
    intro H locs hP hS
    rw [fx_X11_isLocked] at hf
    refine lv_iload_n hx hb dX11_isLocked_0 rfl (lv_at hl 2 rfl) ?_
    refine lv_iconst (v := (5 : Int32)) hx hb dX11_isLocked_1 (by decide) ?_
    refine lv_aload_n hx hb dX11_isLocked_2 rfl (lv_at hl 0 rfl) ?_
    refine lv_iload_n hx hb dX11_isLocked_3 rfl (lv_at hl 1 rfl) ?_
    refine lv_iconst (v := (3 : Int32)) hx hb dX11_isLocked_4 (by decide) ?_
    obtain ⟨r_1, s_1, e_1, hf⟩ := mm_bd_ok hf
    refine mm_callV X hP hS hl.1 [.int x1, .int (3 : Int32)] [.int (5 : Int32), .int x2] (cx_X11_of l D ad cA hI x1 (3 : Int32) σ r_1 s_1 e_1) kp_30 rfl rfl wd_850 wd_852 wp_19 wd_12 wd_853 hd_X11_of ⟨Nat.le_of_ble_eq_true rfl, Nat.le_of_ble_eq_true rfl⟩ rfl (Nat.le_of_ble_eq_true rfl) dX11_isLocked_5 (fun H locs hP hS => ?_)
    refine lv_iconst (v := (4 : Int32)) hx hb dX11_isLocked_8 (by decide) ?_
    refine lv_isub hx hb dX11_isLocked_9 ?_
    refine lv_isub hx hb dX11_isLocked_10 ?_
    refine lv_icmp_lt (tgt := 18) hx hb dX11_isLocked_11 (by decide) (fun c_2 => ?_) (fun c_2 => ?_)
    · replace hf := mm_it c_2 hf
      refine lv_iconst (v := (0 : Int32)) hx hb dX11_isLocked_18 (by decide) ?_
      obtain ⟨rfl, rfl⟩ := mm_ret hf
      exact mm_zret (Or.inl rfl) X hP hS dX11_isLocked_19
    · replace hf := mm_if c_2 hf
      refine lv_iconst (v := (1 : Int32)) hx hb dX11_isLocked_14 (by decide) ?_
      refine lv_goto (tgt := 19) hx hb dX11_isLocked_15 (by decide) ?_
      obtain ⟨rfl, rfl⟩ := mm_ret hf
      exact mm_zret (Or.inr rfl) X hP hS dX11_isLocked_19
  exact hgen _ _ hP hS
def fx_X11_rank (x1 : Int32) (x2 : Int32) (σ : mm_M) : mm_R := mm_bd (fx_X11_of x1 (((7 : Int32) + ((2 : Int32) * x2)) + (1 : Int32)) σ) fun r_1 s_1 => (some (r_1, s_1))
set_option maxHeartbeats 4000000 in
set_option maxRecDepth 100000 in
theorem cx_X11_rank (l : Launch) (D : va_G) (ad : mm_A) (cA : Nat → ClassId) (hI : mm_Inj ad) (x1 : Int32) (x2 : Int32)  (σ : mm_M) (rv : Int32) (σ1 : mm_M) (hf : fx_X11_rank x1 x2 σ = some (rv, σ1)) : Met l yX11_rank (Cond.code yX11_rank cX11_rank 3 (some .int) :: tb) (mm_rm 1 22) (mm_pre D ad cA [.ref (ad 10 30 0), .int x1, .int x2] σ) (mm_Q D ad cA (some (.int rv)) σ1) 0 0 (mm_AS ad) := by
  refine mm_start (by decide +kernel) hI (Nat.le_of_ble_eq_true rfl) ?_
  intro p e s m args below meth c X hP ls hl
  have hl : lv_has ls 3 [(0, .ref (ad 10 30 0)), (1, .int x1), (2, .int x2)] := hl
  have hx := X.1
  have hb := X.2.1
  have hS : va_S (mm_AS ad) s.heap s.heap [] := va_S.rf
  have hgen : ∀ (H : Heap) (locs : List Loc), va_P D vwCl (mm_wd ad cA σ) H → va_S (mm_AS ad) s.heap H locs → W p l e (mm_rm 1 22) s m args below meth c H locs 0 0 (MQ below (mm_Q D ad cA (some (.int rv)) σ1) args s 0 0 (mm_AS ad)) (F0 m 0 ls []) := by
    intro H locs hP hS
    rw [fx_X11_rank] at hf
    refine lv_aload_n hx hb dX11_rank_0 rfl (lv_at hl 0 rfl) ?_
    refine lv_iload_n hx hb dX11_rank_1 rfl (lv_at hl 1 rfl) ?_
    refine lv_bipush (v := (7 : Int32)) hx hb dX11_rank_2 (by decide) ?_
    refine lv_iconst (v := (2 : Int32)) hx hb dX11_rank_4 (by decide) ?_
    refine lv_iload_n hx hb dX11_rank_5 rfl (lv_at hl 2 rfl) ?_
    refine lv_imul hx hb dX11_rank_6 ?_
    refine lv_iadd hx hb dX11_rank_7 ?_
    refine lv_iconst (v := (1 : Int32)) hx hb dX11_rank_8 (by decide) ?_
    refine lv_iadd hx hb dX11_rank_9 ?_
    obtain ⟨r_1, s_1, e_1, hf⟩ := mm_bd_ok hf
    refine mm_callV X hP hS hl.1 [.int x1, .int (((7 : Int32) + ((2 : Int32) * x2)) + (1 : Int32))] [] (cx_X11_of l D ad cA hI x1 (((7 : Int32) + ((2 : Int32) * x2)) + (1 : Int32)) σ r_1 s_1 e_1) kp_30 rfl rfl wd_850 wd_852 wp_19 wd_12 wd_853 hd_X11_of ⟨Nat.le_of_ble_eq_true rfl, Nat.le_of_ble_eq_true rfl⟩ rfl (Nat.le_of_ble_eq_true rfl) dX11_rank_10 (fun H locs hP hS => ?_)
    obtain ⟨rfl, rfl⟩ := mm_ret hf
    exact mm_iret X hP hS dX11_rank_13
  exact hgen _ _ hP hS
def fx_X11_withCards_J26 (x1 : Int32) (k4 : Int32 → Int32 → mm_M → mm_R) (v3 : Int32) (w0 : Int32) (w1 : Int32) (σ : mm_M) : mm_R := mm_li (w0 ||| w1) fun y_4 => (mm_li (v3 + (1 : Int32)) fun y_5 => (k4 y_4 y_5 σ))
set_option maxHeartbeats 4000000 in
set_option maxRecDepth 100000 in
theorem cx_X11_withCards_J26 {p : Program} {l : Launch} {e : Env} {s : State} {m : MethodId} {args : Array Value} {below : List Frame} {meth : Method} {c : Code} {D : va_G} {ad : mm_A} {cA : Nat → ClassId} (x1 : Int32)  (rv : Int32) (σ1 : mm_M) (k4 : Int32 → Int32 → mm_M → mm_R) (hk4 : ∀ (v2 : Int32) (v3 : Int32) (σ : mm_M) (H : Heap) (locs : List Loc) (ls : Array Slot), k4 v2 v3 σ = some (rv, σ1) → va_P D vwCl (mm_wd ad cA σ) H → va_S (mm_AS ad) s.heap H locs → lv_has ls 4 [(0, .ref (ad 10 30 0)), (1, .int x1), (2, .int v2), (3, .int v3)] → W p l e (mm_rm 2 44) s m args below meth c H locs 0 0 (MQ below (mm_Q D ad cA (some (.int rv)) σ1) args s 0 0 (mm_AS ad)) (F0 m 4 ls [])) (X : mm_X p s m args meth c cX11_withCards 4 (some .int) RX11 D ad cA) : ∀ (v3 : Int32) (w0 : Int32) (w1 : Int32) (σ : mm_M) (H : Heap) (locs : List Loc) (ls : Array Slot), fx_X11_withCards_J26 x1 k4 v3 w0 w1 σ = some (rv, σ1) → va_P D vwCl (mm_wd ad cA σ) H → va_S (mm_AS ad) s.heap H locs → lv_has ls 4 [(0, .ref (ad 10 30 0)), (1, .int x1), (3, .int v3)] → W p l e (mm_rm 2 44) s m args below meth c H locs 0 0 (MQ below (mm_Q D ad cA (some (.int rv)) σ1) args s 0 0 (mm_AS ad)) (F0 m 26 ls [.int w1, .int w0]) := by
  have hx := X.1
  have hb := X.2.1
  have hI := X.2.2.2.2.2.2.2.2.2
  intro v3 w0 w1 σ H locs ls hf hP hS hl
  rw [fx_X11_withCards_J26] at hf
  refine lv_ior hx hb dX11_withCards_26 ?_
  obtain ⟨y_4, e_4, hf⟩ := mm_li_ok hf
  rw [← e_4]
  refine lv_istore_n (lv' := [(2, .int y_4), (0, .ref (ad 10 30 0)), (1, .int x1), (3, .int v3)]) hx hb dX11_withCards_27 rfl hl (by decide) rfl (fun ls hl => ?_)
  obtain ⟨y_5, e_5, hf⟩ := mm_li_ok hf
  refine lv_iinc (v := y_5) (lv' := [(3, .int y_5), (2, .int y_4), (0, .ref (ad 10 30 0)), (1, .int x1)]) hx hb dX11_withCards_28 hl (k := 3) rfl (by rw [e_5]; rfl) (by decide) rfl (fun ls hl => ?_)
  refine lv_goto (tgt := 4) hx hb dX11_withCards_31 (by decide) ?_
  exact hk4 y_4 y_5 σ H locs ls  hf hP hS (lv_sub hl [2, 3, 1, 0] rfl)
def fx_X11_withCards_L4 (x1 : Int32)  : Nat → Int32 → Int32 → mm_M → mm_R
  | 0, _, _, _ => none
  | fu + 1, v2, v3, σ => if (5 : Int32) ≤ v3 then some (v2, σ) else mm_bd (fx_X11_rank x1 v3 σ) fun r_2 s_2 => (if r_2 ≤ (0 : Int32) then fx_X11_withCards_J26 x1 (fun z0 z1 z => fx_X11_withCards_L4 x1 fu z0 z1 z) v3 v2 (0 : Int32) s_2 else fx_X11_withCards_J26 x1 (fun z0 z1 z => fx_X11_withCards_L4 x1 fu z0 z1 z) v3 v2 ((1 : Int32) <<< (v3 &&& 31)) s_2)
set_option maxHeartbeats 4000000 in
set_option maxRecDepth 100000 in
theorem cx_X11_withCards_L4 {p : Program} {l : Launch} {e : Env} {s : State} {m : MethodId} {args : Array Value} {below : List Frame} {meth : Method} {c : Code} {D : va_G} {ad : mm_A} {cA : Nat → ClassId} (x1 : Int32)  (rv : Int32) (σ1 : mm_M)  (X : mm_X p s m args meth c cX11_withCards 4 (some .int) RX11 D ad cA) : ∀ (fu : Nat), ∀ (v2 : Int32) (v3 : Int32) (σ : mm_M) (H : Heap) (locs : List Loc) (ls : Array Slot), fx_X11_withCards_L4 x1 fu v2 v3 σ = some (rv, σ1) → va_P D vwCl (mm_wd ad cA σ) H → va_S (mm_AS ad) s.heap H locs → lv_has ls 4 [(0, .ref (ad 10 30 0)), (1, .int x1), (2, .int v2), (3, .int v3)] → W p l e (mm_rm 2 44) s m args below meth c H locs 0 0 (MQ below (mm_Q D ad cA (some (.int rv)) σ1) args s 0 0 (mm_AS ad)) (F0 m 4 ls []) := by
  have hx := X.1
  have hb := X.2.1
  have hI := X.2.2.2.2.2.2.2.2.2
  intro fu
  induction fu with
  | zero =>
    intro v2 v3 σ H locs ls hf
    exact mm_no hf
  | succ fu ih =>
    intro v2 v3 σ H locs ls hf hP hS hl
    rw [fx_X11_withCards_L4] at hf
    refine lv_iload_n hx hb dX11_withCards_4 rfl (lv_at hl 3 rfl) ?_
    refine lv_iconst (v := (5 : Int32)) hx hb dX11_withCards_5 (by decide) ?_
    refine lv_icmp_ge (tgt := 34) hx hb dX11_withCards_6 (by decide) (fun c_1 => ?_) (fun c_1 => ?_)
    · replace hf := mm_it c_1 hf
      refine lv_iload_n hx hb dX11_withCards_34 rfl (lv_at hl 2 rfl) ?_
      obtain ⟨rfl, rfl⟩ := mm_ret hf
      exact mm_iret X hP hS dX11_withCards_35
    · replace hf := mm_if c_1 hf
      refine lv_iload_n hx hb dX11_withCards_9 rfl (lv_at hl 2 rfl) ?_
      refine lv_aload_n hx hb dX11_withCards_10 rfl (lv_at hl 0 rfl) ?_
      refine lv_iload_n hx hb dX11_withCards_11 rfl (lv_at hl 1 rfl) ?_
      refine lv_iload_n hx hb dX11_withCards_12 rfl (lv_at hl 3 rfl) ?_
      obtain ⟨r_2, s_2, e_2, hf⟩ := mm_bd_ok hf
      refine mm_callV X hP hS hl.1 [.int x1, .int v3] [.int v2] (cx_X11_rank l D ad cA hI x1 v3 σ r_2 s_2 e_2) kp_30 rfl rfl wd_919 wd_921 wp_31 wd_12 wd_922 hd_X11_rank ⟨Nat.le_of_ble_eq_true rfl, Nat.le_of_ble_eq_true rfl⟩ rfl (Nat.le_of_ble_eq_true rfl) dX11_withCards_13 (fun H locs hP hS => ?_)
      refine lv_if_le (tgt := 25) hx hb dX11_withCards_16 (by decide) (fun c_3 => ?_) (fun c_3 => ?_)
      · replace hf := mm_it c_3 hf
        refine lv_iconst (v := (0 : Int32)) hx hb dX11_withCards_25 (by decide) ?_
        exact cx_X11_withCards_J26 x1 rv σ1 (fun z0 z1 z => fx_X11_withCards_L4 x1 fu z0 z1 z) ih X v3 v2 (0 : Int32) s_2 H locs ls hf hP hS (lv_sub hl [0, 1, 3] rfl)
      · replace hf := mm_if c_3 hf
        refine lv_iconst (v := (1 : Int32)) hx hb dX11_withCards_19 (by decide) ?_
        refine lv_iload_n hx hb dX11_withCards_20 rfl (lv_at hl 3 rfl) ?_
        refine lv_ishl hx hb dX11_withCards_21 ?_
        refine lv_goto (tgt := 26) hx hb dX11_withCards_22 (by decide) ?_
        exact cx_X11_withCards_J26 x1 rv σ1 (fun z0 z1 z => fx_X11_withCards_L4 x1 fu z0 z1 z) ih X v3 v2 ((1 : Int32) <<< (v3 &&& 31)) s_2 H locs ls hf hP hS (lv_sub hl [0, 1, 3] rfl)
def fx_X11_withCards (x1 : Int32) (σ : mm_M) : mm_R := fx_X11_withCards_L4 x1 mm_FU (0 : Int32) (0 : Int32) σ
set_option maxHeartbeats 4000000 in
set_option maxRecDepth 100000 in
theorem cx_X11_withCards (l : Launch) (D : va_G) (ad : mm_A) (cA : Nat → ClassId) (hI : mm_Inj ad) (x1 : Int32)  (σ : mm_M) (rv : Int32) (σ1 : mm_M) (hf : fx_X11_withCards x1 σ = some (rv, σ1)) : Met l yX11_withCards (Cond.code yX11_withCards cX11_withCards 4 (some .int) :: tb) (mm_rm 2 44) (mm_pre D ad cA [.ref (ad 10 30 0), .int x1] σ) (mm_Q D ad cA (some (.int rv)) σ1) 0 0 (mm_AS ad) := by
  refine mm_start (by decide +kernel) hI (Nat.le_of_ble_eq_true rfl) ?_
  intro p e s m args below meth c X hP ls hl
  have hl : lv_has ls 4 [(0, .ref (ad 10 30 0)), (1, .int x1)] := hl
  have hx := X.1
  have hb := X.2.1
  have hS : va_S (mm_AS ad) s.heap s.heap [] := va_S.rf
  have hgen : ∀ (H : Heap) (locs : List Loc), va_P D vwCl (mm_wd ad cA σ) H → va_S (mm_AS ad) s.heap H locs → W p l e (mm_rm 2 44) s m args below meth c H locs 0 0 (MQ below (mm_Q D ad cA (some (.int rv)) σ1) args s 0 0 (mm_AS ad)) (F0 m 0 ls []) := by
    intro H locs hP hS
    rw [fx_X11_withCards] at hf
    refine lv_iconst (v := (0 : Int32)) hx hb dX11_withCards_0 (by decide) ?_
    refine lv_istore_n (lv' := [(2, .int (0 : Int32)), (0, .ref (ad 10 30 0)), (1, .int x1)]) hx hb dX11_withCards_1 rfl hl (by decide) rfl (fun ls hl => ?_)
    refine lv_iconst (v := (0 : Int32)) hx hb dX11_withCards_2 (by decide) ?_
    refine lv_istore_n (lv' := [(3, .int (0 : Int32)), (2, .int (0 : Int32)), (0, .ref (ad 10 30 0)), (1, .int x1)]) hx hb dX11_withCards_3 rfl hl (by decide) rfl (fun ls hl => ?_)
    exact cx_X11_withCards_L4 x1 rv σ1 X mm_FU (0 : Int32) (0 : Int32) σ H locs ls hf hP hS (lv_sub hl [2, 3, 1, 0] rfl)
  exact hgen _ _ hP hS
def fx_X11_ones_L4 (x0 : Int32)  : Nat → Int32 → Int32 → mm_M → mm_R
  | 0, _, _, _ => none
  | fu + 1, v1, v2, σ => if (5 : Int32) ≤ v2 then some (v1, σ) else mm_li (v1 + ((x0 >>> (v2 &&& 31)) &&& (1 : Int32))) fun y_2 => (mm_li (v2 + (1 : Int32)) fun y_3 => (fx_X11_ones_L4 x0 fu y_2 y_3 σ))
set_option maxHeartbeats 4000000 in
set_option maxRecDepth 100000 in
theorem cx_X11_ones_L4 {p : Program} {l : Launch} {e : Env} {s : State} {m : MethodId} {args : Array Value} {below : List Frame} {meth : Method} {c : Code} {D : va_G} {ad : mm_A} {cA : Nat → ClassId} (x0 : Int32)  (rv : Int32) (σ1 : mm_M)  (X : mm_X p s m args meth c cX11_ones 3 (some .int) RX11 D ad cA) : ∀ (fu : Nat), ∀ (v1 : Int32) (v2 : Int32) (σ : mm_M) (H : Heap) (locs : List Loc) (ls : Array Slot), fx_X11_ones_L4 x0 fu v1 v2 σ = some (rv, σ1) → va_P D vwCl (mm_wd ad cA σ) H → va_S (mm_AS ad) s.heap H locs → lv_has ls 3 [(0, .int x0), (1, .int v1), (2, .int v2)] → W p l e (mm_rm 0 0) s m args below meth c H locs 0 0 (MQ below (mm_Q D ad cA (some (.int rv)) σ1) args s 0 0 (mm_AS ad)) (F0 m 4 ls []) := by
  have hx := X.1
  have hb := X.2.1
  have hI := X.2.2.2.2.2.2.2.2.2
  intro fu
  induction fu with
  | zero =>
    intro v1 v2 σ H locs ls hf
    exact mm_no hf
  | succ fu ih =>
    intro v1 v2 σ H locs ls hf hP hS hl
    rw [fx_X11_ones_L4] at hf
    refine lv_iload_n hx hb dX11_ones_4 rfl (lv_at hl 2 rfl) ?_
    refine lv_iconst (v := (5 : Int32)) hx hb dX11_ones_5 (by decide) ?_
    refine lv_icmp_ge (tgt := 23) hx hb dX11_ones_6 (by decide) (fun c_1 => ?_) (fun c_1 => ?_)
    · replace hf := mm_it c_1 hf
      refine lv_iload_n hx hb dX11_ones_23 rfl (lv_at hl 1 rfl) ?_
      obtain ⟨rfl, rfl⟩ := mm_ret hf
      exact mm_iret X hP hS dX11_ones_24
    · replace hf := mm_if c_1 hf
      refine lv_iload_n hx hb dX11_ones_9 rfl (lv_at hl 1 rfl) ?_
      refine lv_iload_n hx hb dX11_ones_10 rfl (lv_at hl 0 rfl) ?_
      refine lv_iload_n hx hb dX11_ones_11 rfl (lv_at hl 2 rfl) ?_
      refine lv_ishr hx hb dX11_ones_12 ?_
      refine lv_iconst (v := (1 : Int32)) hx hb dX11_ones_13 (by decide) ?_
      refine lv_iand hx hb dX11_ones_14 ?_
      refine lv_iadd hx hb dX11_ones_15 ?_
      obtain ⟨y_2, e_2, hf⟩ := mm_li_ok hf
      rw [← e_2]
      refine lv_istore_n (lv' := [(1, .int y_2), (0, .int x0), (2, .int v2)]) hx hb dX11_ones_16 rfl hl (by decide) rfl (fun ls hl => ?_)
      obtain ⟨y_3, e_3, hf⟩ := mm_li_ok hf
      refine lv_iinc (v := y_3) (lv' := [(2, .int y_3), (1, .int y_2), (0, .int x0)]) hx hb dX11_ones_17 hl (k := 2) rfl (by rw [e_3]; rfl) (by decide) rfl (fun ls hl => ?_)
      refine lv_goto (tgt := 4) hx hb dX11_ones_20 (by decide) ?_
      exact ih y_2 y_3 σ H locs ls  hf hP hS (lv_sub hl [2, 1, 0] rfl)
def fx_X11_ones (x0 : Int32) (σ : mm_M) : mm_R := fx_X11_ones_L4 x0 mm_FU (0 : Int32) (0 : Int32) σ
set_option maxHeartbeats 4000000 in
set_option maxRecDepth 100000 in
theorem cx_X11_ones (l : Launch) (D : va_G) (ad : mm_A) (cA : Nat → ClassId) (hI : mm_Inj ad) (x0 : Int32)  (σ : mm_M) (rv : Int32) (σ1 : mm_M) (hf : fx_X11_ones x0 σ = some (rv, σ1)) : Met l yX11_ones (Cond.code yX11_ones cX11_ones 3 (some .int) :: tb) (mm_rm 0 0) (mm_pre D ad cA [.int x0] σ) (mm_Q D ad cA (some (.int rv)) σ1) 0 0 (mm_AS ad) := by
  refine mm_start (by decide +kernel) hI (Nat.le_of_ble_eq_true rfl) ?_
  intro p e s m args below meth c X hP ls hl
  have hl : lv_has ls 3 [(0, .int x0)] := hl
  have hx := X.1
  have hb := X.2.1
  have hS : va_S (mm_AS ad) s.heap s.heap [] := va_S.rf
  have hgen : ∀ (H : Heap) (locs : List Loc), va_P D vwCl (mm_wd ad cA σ) H → va_S (mm_AS ad) s.heap H locs → W p l e (mm_rm 0 0) s m args below meth c H locs 0 0 (MQ below (mm_Q D ad cA (some (.int rv)) σ1) args s 0 0 (mm_AS ad)) (F0 m 0 ls []) := by
    intro H locs hP hS
    rw [fx_X11_ones] at hf
    refine lv_iconst (v := (0 : Int32)) hx hb dX11_ones_0 (by decide) ?_
    refine lv_istore_n (lv' := [(1, .int (0 : Int32)), (0, .int x0)]) hx hb dX11_ones_1 rfl hl (by decide) rfl (fun ls hl => ?_)
    refine lv_iconst (v := (0 : Int32)) hx hb dX11_ones_2 (by decide) ?_
    refine lv_istore_n (lv' := [(2, .int (0 : Int32)), (1, .int (0 : Int32)), (0, .int x0)]) hx hb dX11_ones_3 rfl hl (by decide) rfl (fun ls hl => ?_)
    exact cx_X11_ones_L4 x0 rv σ1 X mm_FU (0 : Int32) (0 : Int32) σ H locs ls hf hP hS (lv_sub hl [2, 1, 0] rfl)
  exact hgen _ _ hP hS
def fx_X11_cards (x1 : Int32) (x2 : Int32) (x3 : Int32) (x4 : Int32) (σ : mm_M) : mm_R := mm_bd (fx_X11_isCart x1 σ) fun r_1 s_1 => (if r_1 = (0 : Int32) then some ((-1000001 : Int32), s_1) else mm_bd (fx_X11_in x2 (0 : Int32) (4 : Int32) s_1) fun r_3 s_3 => (if r_3 = (0 : Int32) then some ((-1000001 : Int32), s_3) else mm_bd (fx_X11_in x3 (0 : Int32) (6 : Int32) s_3) fun r_5 s_5 => (if r_5 = (0 : Int32) then some ((-1000001 : Int32), s_5) else mm_bd (fx_X11_in x4 (1 : Int32) (999 : Int32) s_5) fun r_7 s_7 => (if r_7 = (0 : Int32) then some ((-1000001 : Int32), s_7) else mm_bd (fx_X11_isOut x1 s_7) fun r_9 s_9 => (if r_9 = (0 : Int32) then mm_bd (fx_X11_isLocked x1 x2 s_9) fun r_11 s_11 => (if r_11 = (0 : Int32) then if (s_11 10 31 0 (1 : Int32).toNatClampNeg) ≤ x2 then mm_bd (fx_X11_lays x1 ((7 : Int32) + ((2 : Int32) * x2)) x3 s_11) fun _ s_14 => (mm_bd (fx_X11_lays x1 (((7 : Int32) + ((2 : Int32) * x2)) + (1 : Int32)) x4 s_14) fun _ s_15 => (mm_bd (fx_X11_withCards x1 s_15) fun r_16 s_16 => (mm_bd (fx_X11_ones r_16 s_16) fun r_17 s_17 => (some (r_17, s_17))))) else some ((-1000002 : Int32), s_11) else some ((-1000002 : Int32), s_11)) else some ((-1000002 : Int32), s_9))))))
set_option maxHeartbeats 4000000 in
set_option maxRecDepth 100000 in
theorem cx_X11_cards (l : Launch) (D : va_G) (ad : mm_A) (cA : Nat → ClassId) (hI : mm_Inj ad) (x1 : Int32) (x2 : Int32) (x3 : Int32) (x4 : Int32)  (σ : mm_M) (rv : Int32) (σ1 : mm_M) (hf : fx_X11_cards x1 x2 x3 x4 σ = some (rv, σ1)) : Met l yX11_cards (Cond.code yX11_cards cX11_cards 5 (some .int) :: tb) (mm_rm 3 67) (mm_pre D ad cA [.ref (ad 10 30 0), .int x1, .int x2, .int x3, .int x4] σ) (mm_Q D ad cA (some (.int rv)) σ1) 0 0 (mm_AS ad) := by
  refine mm_start (by decide +kernel) hI (Nat.le_of_ble_eq_true rfl) ?_
  intro p e s m args below meth c X hP ls hl
  have hl : lv_has ls 5 [(0, .ref (ad 10 30 0)), (1, .int x1), (2, .int x2), (3, .int x3), (4, .int x4)] := hl
  have hx := X.1
  have hb := X.2.1
  have hS : va_S (mm_AS ad) s.heap s.heap [] := va_S.rf
  have hgen : ∀ (H : Heap) (locs : List Loc), va_P D vwCl (mm_wd ad cA σ) H → va_S (mm_AS ad) s.heap H locs → W p l e (mm_rm 3 67) s m args below meth c H locs 0 0 (MQ below (mm_Q D ad cA (some (.int rv)) σ1) args s 0 0 (mm_AS ad)) (F0 m 0 ls []) := by
    intro H locs hP hS
    rw [fx_X11_cards] at hf
    refine lv_aload_n hx hb dX11_cards_0 rfl (lv_at hl 0 rfl) ?_
    refine lv_iload_n hx hb dX11_cards_1 rfl (lv_at hl 1 rfl) ?_
    obtain ⟨r_1, s_1, e_1, hf⟩ := mm_bd_ok hf
    refine mm_callV X hP hS hl.1 [.int x1] [] (cx_X11_isCart l D ad cA hI x1 σ r_1 s_1 e_1) kp_30 rfl rfl wd_903 wd_905 wp_27 wd_12 wd_906 hd_X11_isCart ⟨Nat.le_of_ble_eq_true rfl, Nat.le_of_ble_eq_true rfl⟩ rfl (Nat.le_of_ble_eq_true rfl) dX11_cards_2 (fun H locs hP hS => ?_)
    refine lv_if_eq (tgt := 39) hx hb dX11_cards_5 (by decide) (fun c_2 => ?_) (fun c_2 => ?_)
    · replace hf := mm_it c_2 hf
      refine lv_ldc (v := (-1000001 : Int32)) hx hb X.2.2.2.2.2.1 (X.2.2.2.2.2.2.1 _ wd_845) dX11_cards_39 ?_
      obtain ⟨rfl, rfl⟩ := mm_ret hf
      exact mm_iret X hP hS dX11_cards_41
    · replace hf := mm_if c_2 hf
      refine lv_iload_n hx hb dX11_cards_8 rfl (lv_at hl 2 rfl) ?_
      refine lv_iconst (v := (0 : Int32)) hx hb dX11_cards_9 (by decide) ?_
      refine lv_iconst (v := (4 : Int32)) hx hb dX11_cards_10 (by decide) ?_
      obtain ⟨r_3, s_3, e_3, hf⟩ := mm_bd_ok hf
      refine mm_callS X hP hS hl.1 [.int x2, .int (0 : Int32), .int (4 : Int32)] [] (cx_X11_in l D ad cA hI x2 (0 : Int32) (4 : Int32) s_1 r_3 s_3 e_3) wd_842 wd_843 wd_12 wd_844 hd_X11_in ⟨Nat.le_of_ble_eq_true rfl, Nat.le_of_ble_eq_true rfl⟩ rfl (Nat.le_of_ble_eq_true rfl) dX11_cards_11 (fun H locs hP hS => ?_)
      refine lv_if_eq (tgt := 39) hx hb dX11_cards_14 (by decide) (fun c_4 => ?_) (fun c_4 => ?_)
      · replace hf := mm_it c_4 hf
        refine lv_ldc (v := (-1000001 : Int32)) hx hb X.2.2.2.2.2.1 (X.2.2.2.2.2.2.1 _ wd_845) dX11_cards_39 ?_
        obtain ⟨rfl, rfl⟩ := mm_ret hf
        exact mm_iret X hP hS dX11_cards_41
      · replace hf := mm_if c_4 hf
        refine lv_iload_n hx hb dX11_cards_17 rfl (lv_at hl 3 rfl) ?_
        refine lv_iconst (v := (0 : Int32)) hx hb dX11_cards_18 (by decide) ?_
        refine lv_bipush (v := (6 : Int32)) hx hb dX11_cards_19 (by decide) ?_
        obtain ⟨r_5, s_5, e_5, hf⟩ := mm_bd_ok hf
        refine mm_callS X hP hS hl.1 [.int x3, .int (0 : Int32), .int (6 : Int32)] [] (cx_X11_in l D ad cA hI x3 (0 : Int32) (6 : Int32) s_3 r_5 s_5 e_5) wd_842 wd_843 wd_12 wd_844 hd_X11_in ⟨Nat.le_of_ble_eq_true rfl, Nat.le_of_ble_eq_true rfl⟩ rfl (Nat.le_of_ble_eq_true rfl) dX11_cards_21 (fun H locs hP hS => ?_)
        refine lv_if_eq (tgt := 39) hx hb dX11_cards_24 (by decide) (fun c_6 => ?_) (fun c_6 => ?_)
        · replace hf := mm_it c_6 hf
          refine lv_ldc (v := (-1000001 : Int32)) hx hb X.2.2.2.2.2.1 (X.2.2.2.2.2.2.1 _ wd_845) dX11_cards_39 ?_
          obtain ⟨rfl, rfl⟩ := mm_ret hf
          exact mm_iret X hP hS dX11_cards_41
        · replace hf := mm_if c_6 hf
          refine lv_iload hx hb dX11_cards_27 (lv_at hl 4 rfl) ?_
          refine lv_iconst (v := (1 : Int32)) hx hb dX11_cards_29 (by decide) ?_
          refine lv_sipush (v := (999 : Int32)) hx hb dX11_cards_30 (by decide) ?_
          obtain ⟨r_7, s_7, e_7, hf⟩ := mm_bd_ok hf
          refine mm_callS X hP hS hl.1 [.int x4, .int (1 : Int32), .int (999 : Int32)] [] (cx_X11_in l D ad cA hI x4 (1 : Int32) (999 : Int32) s_5 r_7 s_7 e_7) wd_842 wd_843 wd_12 wd_844 hd_X11_in ⟨Nat.le_of_ble_eq_true rfl, Nat.le_of_ble_eq_true rfl⟩ rfl (Nat.le_of_ble_eq_true rfl) dX11_cards_33 (fun H locs hP hS => ?_)
          refine lv_if_ne (tgt := 42) hx hb dX11_cards_36 (by decide) (fun c_8 => ?_) (fun c_8 => ?_)
          · replace hf := mm_if c_8 hf
            refine lv_aload_n hx hb dX11_cards_42 rfl (lv_at hl 0 rfl) ?_
            refine lv_iload_n hx hb dX11_cards_43 rfl (lv_at hl 1 rfl) ?_
            obtain ⟨r_9, s_9, e_9, hf⟩ := mm_bd_ok hf
            refine mm_callV X hP hS hl.1 [.int x1] [] (cx_X11_isOut l D ad cA hI x1 s_7 r_9 s_9 e_9) kp_30 rfl rfl wd_907 wd_909 wp_28 wd_12 wd_910 hd_X11_isOut ⟨Nat.le_of_ble_eq_true rfl, Nat.le_of_ble_eq_true rfl⟩ rfl (Nat.le_of_ble_eq_true rfl) dX11_cards_44 (fun H locs hP hS => ?_)
            refine lv_if_ne (tgt := 69) hx hb dX11_cards_47 (by decide) (fun c_10 => ?_) (fun c_10 => ?_)
            · replace hf := mm_if c_10 hf
              refine lv_ldc (v := (-1000002 : Int32)) hx hb X.2.2.2.2.2.1 (X.2.2.2.2.2.2.1 _ wd_854) dX11_cards_69 ?_
              obtain ⟨rfl, rfl⟩ := mm_ret hf
              exact mm_iret X hP hS dX11_cards_71
            · replace hf := mm_it c_10 hf
              refine lv_aload_n hx hb dX11_cards_50 rfl (lv_at hl 0 rfl) ?_
              refine lv_iload_n hx hb dX11_cards_51 rfl (lv_at hl 1 rfl) ?_
              refine lv_iload_n hx hb dX11_cards_52 rfl (lv_at hl 2 rfl) ?_
              obtain ⟨r_11, s_11, e_11, hf⟩ := mm_bd_ok hf
              refine mm_callV X hP hS hl.1 [.int x1, .int x2] [] (cx_X11_isLocked l D ad cA hI x1 x2 s_9 r_11 s_11 e_11) kp_30 rfl rfl wd_911 wd_913 wp_29 wd_12 wd_914 hd_X11_isLocked ⟨Nat.le_of_ble_eq_true rfl, Nat.le_of_ble_eq_true rfl⟩ rfl (Nat.le_of_ble_eq_true rfl) dX11_cards_53 (fun H locs hP hS => ?_)
              refine lv_if_ne (tgt := 69) hx hb dX11_cards_56 (by decide) (fun c_12 => ?_) (fun c_12 => ?_)
              · replace hf := mm_if c_12 hf
                refine lv_ldc (v := (-1000002 : Int32)) hx hb X.2.2.2.2.2.1 (X.2.2.2.2.2.2.1 _ wd_854) dX11_cards_69 ?_
                obtain ⟨rfl, rfl⟩ := mm_ret hf
                exact mm_iret X hP hS dX11_cards_71
              · replace hf := mm_it c_12 hf
                refine lv_iload_n hx hb dX11_cards_59 rfl (lv_at hl 2 rfl) ?_
                refine lv_aload_n hx hb dX11_cards_60 rfl (lv_at hl 0 rfl) ?_
                refine gf_30_0 X hP  wd_769 dX11_cards_61 ?_
                refine lv_iconst (v := (1 : Int32)) hx hb dX11_cards_64 (by decide) ?_
                refine al_31 X hP  (by decide : mm_ix (1 : Int32) 207 = true) dX11_cards_65 ?_
                refine lv_icmp_ge (tgt := 72) hx hb dX11_cards_66 (by decide) (fun c_13 => ?_) (fun c_13 => ?_)
                · replace hf := mm_it c_13 hf
                  refine lv_aload_n hx hb dX11_cards_72 rfl (lv_at hl 0 rfl) ?_
                  refine lv_iload_n hx hb dX11_cards_73 rfl (lv_at hl 1 rfl) ?_
                  refine lv_bipush (v := (7 : Int32)) hx hb dX11_cards_74 (by decide) ?_
                  refine lv_iconst (v := (2 : Int32)) hx hb dX11_cards_76 (by decide) ?_
                  refine lv_iload_n hx hb dX11_cards_77 rfl (lv_at hl 2 rfl) ?_
                  refine lv_imul hx hb dX11_cards_78 ?_
                  refine lv_iadd hx hb dX11_cards_79 ?_
                  refine lv_iload_n hx hb dX11_cards_80 rfl (lv_at hl 3 rfl) ?_
                  obtain ⟨r_14, s_14, e_14, hf⟩ := mm_bd_ok hf
                  refine mm_callV X hP hS hl.1 [.int x1, .int ((7 : Int32) + ((2 : Int32) * x2)), .int x3] [] (cx_X11_lays l D ad cA hI x1 ((7 : Int32) + ((2 : Int32) * x2)) x3 s_11 r_14 s_14 e_14) kp_30 rfl rfl wd_891 wd_893 wp_25 wd_12 wd_894 hd_X11_lays ⟨Nat.le_of_ble_eq_true rfl, Nat.le_of_ble_eq_true rfl⟩ rfl (Nat.le_of_ble_eq_true rfl) dX11_cards_81 (fun H locs hP hS => ?_)
                  refine lv_aload_n hx hb dX11_cards_84 rfl (lv_at hl 0 rfl) ?_
                  refine lv_iload_n hx hb dX11_cards_85 rfl (lv_at hl 1 rfl) ?_
                  refine lv_bipush (v := (7 : Int32)) hx hb dX11_cards_86 (by decide) ?_
                  refine lv_iconst (v := (2 : Int32)) hx hb dX11_cards_88 (by decide) ?_
                  refine lv_iload_n hx hb dX11_cards_89 rfl (lv_at hl 2 rfl) ?_
                  refine lv_imul hx hb dX11_cards_90 ?_
                  refine lv_iadd hx hb dX11_cards_91 ?_
                  refine lv_iconst (v := (1 : Int32)) hx hb dX11_cards_92 (by decide) ?_
                  refine lv_iadd hx hb dX11_cards_93 ?_
                  refine lv_iload hx hb dX11_cards_94 (lv_at hl 4 rfl) ?_
                  obtain ⟨r_15, s_15, e_15, hf⟩ := mm_bd_ok hf
                  refine mm_callV X hP hS hl.1 [.int x1, .int (((7 : Int32) + ((2 : Int32) * x2)) + (1 : Int32)), .int x4] [] (cx_X11_lays l D ad cA hI x1 (((7 : Int32) + ((2 : Int32) * x2)) + (1 : Int32)) x4 s_14 r_15 s_15 e_15) kp_30 rfl rfl wd_891 wd_893 wp_25 wd_12 wd_894 hd_X11_lays ⟨Nat.le_of_ble_eq_true rfl, Nat.le_of_ble_eq_true rfl⟩ rfl (Nat.le_of_ble_eq_true rfl) dX11_cards_96 (fun H locs hP hS => ?_)
                  refine lv_aload_n hx hb dX11_cards_99 rfl (lv_at hl 0 rfl) ?_
                  refine lv_iload_n hx hb dX11_cards_100 rfl (lv_at hl 1 rfl) ?_
                  obtain ⟨r_16, s_16, e_16, hf⟩ := mm_bd_ok hf
                  refine mm_callV X hP hS hl.1 [.int x1] [] (cx_X11_withCards l D ad cA hI x1 s_15 r_16 s_16 e_16) kp_30 rfl rfl wd_915 wd_917 wp_30 wd_12 wd_918 hd_X11_withCards ⟨Nat.le_of_ble_eq_true rfl, Nat.le_of_ble_eq_true rfl⟩ rfl (Nat.le_of_ble_eq_true rfl) dX11_cards_101 (fun H locs hP hS => ?_)
                  obtain ⟨r_17, s_17, e_17, hf⟩ := mm_bd_ok hf
                  refine mm_callS X hP hS hl.1 [.int r_16] [] (cx_X11_ones l D ad cA hI r_16 s_16 r_17 s_17 e_17) wd_923 wd_924 wd_12 wd_925 hd_X11_ones ⟨Nat.le_of_ble_eq_true rfl, Nat.le_of_ble_eq_true rfl⟩ rfl (Nat.le_of_ble_eq_true rfl) dX11_cards_104 (fun H locs hP hS => ?_)
                  obtain ⟨rfl, rfl⟩ := mm_ret hf
                  exact mm_iret X hP hS dX11_cards_107
                · replace hf := mm_if c_13 hf
                  refine lv_ldc (v := (-1000002 : Int32)) hx hb X.2.2.2.2.2.1 (X.2.2.2.2.2.2.1 _ wd_854) dX11_cards_69 ?_
                  obtain ⟨rfl, rfl⟩ := mm_ret hf
                  exact mm_iret X hP hS dX11_cards_71
          · replace hf := mm_it c_8 hf
            refine lv_ldc (v := (-1000001 : Int32)) hx hb X.2.2.2.2.2.1 (X.2.2.2.2.2.2.1 _ wd_845) dX11_cards_39 ?_
            obtain ⟨rfl, rfl⟩ := mm_ret hf
            exact mm_iret X hP hS dX11_cards_41
  exact hgen _ _ hP hS
def fx_X11_card (x1 : Int32) (x2 : Int32) (x3 : Int32) (x4 : Int32) (σ : mm_M) : mm_R := mm_bd (fx_X11_begins  σ) fun _ s_1 => (mm_bd (fx_X11_cards x1 x2 x3 x4 s_1) fun r_2 s_2 => (mm_bd (fx_X11_acted r_2 s_2) fun r_3 s_3 => (some (r_3, s_3))))
set_option maxHeartbeats 4000000 in
set_option maxRecDepth 100000 in
theorem cx_X11_card (l : Launch) (D : va_G) (ad : mm_A) (cA : Nat → ClassId) (hI : mm_Inj ad) (x1 : Int32) (x2 : Int32) (x3 : Int32) (x4 : Int32)  (σ : mm_M) (rv : Int32) (σ1 : mm_M) (hf : fx_X11_card x1 x2 x3 x4 σ = some (rv, σ1)) : Met l yX11_card (Cond.code yX11_card cX11_card 5 (some .int) :: tb) (mm_rm 4 91) (mm_pre D ad cA [.ref (ad 10 30 0), .int x1, .int x2, .int x3, .int x4] σ) (mm_Q D ad cA (some (.int rv)) σ1) 0 0 (mm_AS ad) := by
  refine mm_start (by decide +kernel) hI (Nat.le_of_ble_eq_true rfl) ?_
  intro p e s m args below meth c X hP ls hl
  have hl : lv_has ls 5 [(0, .ref (ad 10 30 0)), (1, .int x1), (2, .int x2), (3, .int x3), (4, .int x4)] := hl
  have hx := X.1
  have hb := X.2.1
  have hS : va_S (mm_AS ad) s.heap s.heap [] := va_S.rf
  have hgen : ∀ (H : Heap) (locs : List Loc), va_P D vwCl (mm_wd ad cA σ) H → va_S (mm_AS ad) s.heap H locs → W p l e (mm_rm 4 91) s m args below meth c H locs 0 0 (MQ below (mm_Q D ad cA (some (.int rv)) σ1) args s 0 0 (mm_AS ad)) (F0 m 0 ls []) := by
    intro H locs hP hS
    rw [fx_X11_card] at hf
    refine lv_aload_n hx hb dX11_card_0 rfl (lv_at hl 0 rfl) ?_
    obtain ⟨r_1, s_1, e_1, hf⟩ := mm_bd_ok hf
    refine mm_callV X hP hS hl.1 [] [] (cx_X11_begins l D ad cA hI  σ r_1 s_1 e_1) kp_30 rfl rfl wd_831 wd_833 wp_16 wd_12 wd_834 hd_X11_begins ⟨Nat.le_of_ble_eq_true rfl, Nat.le_of_ble_eq_true rfl⟩ rfl (Nat.le_of_ble_eq_true rfl) dX11_card_1 (fun H locs hP hS => ?_)
    refine lv_aload_n hx hb dX11_card_4 rfl (lv_at hl 0 rfl) ?_
    refine lv_aload_n hx hb dX11_card_5 rfl (lv_at hl 0 rfl) ?_
    refine lv_iload_n hx hb dX11_card_6 rfl (lv_at hl 1 rfl) ?_
    refine lv_iload_n hx hb dX11_card_7 rfl (lv_at hl 2 rfl) ?_
    refine lv_iload_n hx hb dX11_card_8 rfl (lv_at hl 3 rfl) ?_
    refine lv_iload hx hb dX11_card_9 (lv_at hl 4 rfl) ?_
    obtain ⟨r_2, s_2, e_2, hf⟩ := mm_bd_ok hf
    refine mm_callV X hP hS hl.1 [.int x1, .int x2, .int x3, .int x4] [.ref (ad 10 30 0)] (cx_X11_cards l D ad cA hI x1 x2 x3 x4 s_1 r_2 s_2 e_2) kp_30 rfl rfl wd_899 wd_901 wp_26 wd_12 wd_902 hd_X11_cards ⟨Nat.le_of_ble_eq_true rfl, Nat.le_of_ble_eq_true rfl⟩ rfl (Nat.le_of_ble_eq_true rfl) dX11_card_11 (fun H locs hP hS => ?_)
    obtain ⟨r_3, s_3, e_3, hf⟩ := mm_bd_ok hf
    refine mm_callV X hP hS hl.1 [.int r_2] [] (cx_X11_acted l D ad cA hI r_2 s_2 r_3 s_3 e_3) kp_30 rfl rfl wd_855 wd_857 wp_20 wd_12 wd_858 hd_X11_acted ⟨Nat.le_of_ble_eq_true rfl, Nat.le_of_ble_eq_true rfl⟩ rfl (Nat.le_of_ble_eq_true rfl) dX11_card_14 (fun H locs hP hS => ?_)
    obtain ⟨rfl, rfl⟩ := mm_ret hf
    exact mm_iret X hP hS dX11_card_17
  exact hgen _ _ hP hS
def fx_X11_damage_J66 (x1 : Int32) (x2 : Int32)  (w0 : Int32) (σ : mm_M) : mm_R := mm_bd (fx_X11_lays x1 (3 : Int32) w0 σ) fun _ s_12 => (mm_bd (fx_X11_acted w0 s_12) fun r_13 s_13 => (some (r_13, s_13)))
set_option maxHeartbeats 4000000 in
set_option maxRecDepth 100000 in
theorem cx_X11_damage_J66 {p : Program} {l : Launch} {e : Env} {s : State} {m : MethodId} {args : Array Value} {below : List Frame} {meth : Method} {c : Code} {D : va_G} {ad : mm_A} {cA : Nat → ClassId} (x1 : Int32) (x2 : Int32)  (rv : Int32) (σ1 : mm_M)  (X : mm_X p s m args meth c cX11_damage 4 (some .int) RX11 D ad cA) : ∀ (w0 : Int32) (σ : mm_M) (H : Heap) (locs : List Loc) (ls : Array Slot), fx_X11_damage_J66 x1 x2 w0 σ = some (rv, σ1) → va_P D vwCl (mm_wd ad cA σ) H → va_S (mm_AS ad) s.heap H locs → lv_has ls 4 [(0, .ref (ad 10 30 0)), (1, .int x1)] → W p l e (mm_rm 2 43) s m args below meth c H locs 0 0 (MQ below (mm_Q D ad cA (some (.int rv)) σ1) args s 0 0 (mm_AS ad)) (F0 m 66 ls [.int w0]) := by
  have hx := X.1
  have hb := X.2.1
  have hI := X.2.2.2.2.2.2.2.2.2
  intro w0 σ H locs ls hf hP hS hl
  rw [fx_X11_damage_J66] at hf
  refine lv_istore_n (lv' := [(3, .int w0), (0, .ref (ad 10 30 0)), (1, .int x1)]) hx hb dX11_damage_66 rfl hl (by decide) rfl (fun ls hl => ?_)
  refine lv_aload_n hx hb dX11_damage_67 rfl (lv_at hl 1 rfl) ?_
  refine lv_iload_n hx hb dX11_damage_68 rfl (lv_at hl 2 rfl) ?_
  refine lv_iconst (v := (3 : Int32)) hx hb dX11_damage_69 (by decide) ?_
  refine lv_iload_n hx hb dX11_damage_70 rfl (lv_at hl 0 rfl) ?_
  obtain ⟨r_12, s_12, e_12, hf⟩ := mm_bd_ok hf
  refine mm_callV X hP hS hl.1 [.int x1, .int (3 : Int32), .int w0] [] (cx_X11_lays l D ad cA hI x1 (3 : Int32) w0 σ r_12 s_12 e_12) kp_30 rfl rfl wd_891 wd_893 wp_25 wd_12 wd_894 hd_X11_lays ⟨Nat.le_of_ble_eq_true rfl, Nat.le_of_ble_eq_true rfl⟩ rfl (Nat.le_of_ble_eq_true rfl) dX11_damage_71 (fun H locs hP hS => ?_)
  refine lv_aload_n hx hb dX11_damage_74 rfl (lv_at hl 1 rfl) ?_
  refine lv_iload_n hx hb dX11_damage_75 rfl (lv_at hl 0 rfl) ?_
  obtain ⟨r_13, s_13, e_13, hf⟩ := mm_bd_ok hf
  refine mm_callV X hP hS hl.1 [.int w0] [] (cx_X11_acted l D ad cA hI w0 s_12 r_13 s_13 e_13) kp_30 rfl rfl wd_855 wd_857 wp_20 wd_12 wd_858 hd_X11_acted ⟨Nat.le_of_ble_eq_true rfl, Nat.le_of_ble_eq_true rfl⟩ rfl (Nat.le_of_ble_eq_true rfl) dX11_damage_76 (fun H locs hP hS => ?_)
  obtain ⟨rfl, rfl⟩ := mm_ret hf
  exact mm_iret X hP hS dX11_damage_79
def fx_X11_damage (x1 : Int32) (x2 : Int32) (σ : mm_M) : mm_R := mm_bd (fx_X11_begins  σ) fun _ s_1 => (mm_bd (fx_X11_isCart x1 s_1) fun r_2 s_2 => (if r_2 = (0 : Int32) then some ((-1000001 : Int32), s_2) else mm_bd (fx_X11_in x2 (-9 : Int32) (9 : Int32) s_2) fun r_4 s_4 => (if r_4 = (0 : Int32) then some ((-1000001 : Int32), s_4) else mm_bd (fx_X11_isOut x1 s_4) fun r_6 s_6 => (if r_6 = (0 : Int32) then mm_bd (fx_X11_of x1 (3 : Int32) s_6) fun r_8 s_8 => (mm_li (r_8 + x2) fun y_9 => (if (0 : Int32) ≤ y_9 then if y_9 ≤ (9 : Int32) then fx_X11_damage_J66 x1 x2 y_9 s_8 else fx_X11_damage_J66 x1 x2 (9 : Int32) s_8 else fx_X11_damage_J66 x1 x2 (0 : Int32) s_8)) else some ((-1000002 : Int32), s_6)))))
set_option maxHeartbeats 4000000 in
set_option maxRecDepth 100000 in
theorem cx_X11_damage (l : Launch) (D : va_G) (ad : mm_A) (cA : Nat → ClassId) (hI : mm_Inj ad) (x1 : Int32) (x2 : Int32)  (σ : mm_M) (rv : Int32) (σ1 : mm_M) (hf : fx_X11_damage x1 x2 σ = some (rv, σ1)) : Met l yX11_damage (Cond.code yX11_damage cX11_damage 4 (some .int) :: tb) (mm_rm 2 43) (mm_pre D ad cA [.ref (ad 10 30 0), .int x1, .int x2] σ) (mm_Q D ad cA (some (.int rv)) σ1) 0 0 (mm_AS ad) := by
  refine mm_start (by decide +kernel) hI (Nat.le_of_ble_eq_true rfl) ?_
  intro p e s m args below meth c X hP ls hl
  have hl : lv_has ls 4 [(0, .ref (ad 10 30 0)), (1, .int x1), (2, .int x2)] := hl
  have hx := X.1
  have hb := X.2.1
  have hS : va_S (mm_AS ad) s.heap s.heap [] := va_S.rf
  have hgen : ∀ (H : Heap) (locs : List Loc), va_P D vwCl (mm_wd ad cA σ) H → va_S (mm_AS ad) s.heap H locs → W p l e (mm_rm 2 43) s m args below meth c H locs 0 0 (MQ below (mm_Q D ad cA (some (.int rv)) σ1) args s 0 0 (mm_AS ad)) (F0 m 0 ls []) := by
    intro H locs hP hS
    rw [fx_X11_damage] at hf
    refine lv_aload_n hx hb dX11_damage_0 rfl (lv_at hl 0 rfl) ?_
    obtain ⟨r_1, s_1, e_1, hf⟩ := mm_bd_ok hf
    refine mm_callV X hP hS hl.1 [] [] (cx_X11_begins l D ad cA hI  σ r_1 s_1 e_1) kp_30 rfl rfl wd_831 wd_833 wp_16 wd_12 wd_834 hd_X11_begins ⟨Nat.le_of_ble_eq_true rfl, Nat.le_of_ble_eq_true rfl⟩ rfl (Nat.le_of_ble_eq_true rfl) dX11_damage_1 (fun H locs hP hS => ?_)
    refine lv_aload_n hx hb dX11_damage_4 rfl (lv_at hl 0 rfl) ?_
    refine lv_iload_n hx hb dX11_damage_5 rfl (lv_at hl 1 rfl) ?_
    obtain ⟨r_2, s_2, e_2, hf⟩ := mm_bd_ok hf
    refine mm_callV X hP hS hl.1 [.int x1] [] (cx_X11_isCart l D ad cA hI x1 s_1 r_2 s_2 e_2) kp_30 rfl rfl wd_903 wd_905 wp_27 wd_12 wd_906 hd_X11_isCart ⟨Nat.le_of_ble_eq_true rfl, Nat.le_of_ble_eq_true rfl⟩ rfl (Nat.le_of_ble_eq_true rfl) dX11_damage_6 (fun H locs hP hS => ?_)
    refine lv_if_eq (tgt := 23) hx hb dX11_damage_9 (by decide) (fun c_3 => ?_) (fun c_3 => ?_)
    · replace hf := mm_it c_3 hf
      refine lv_ldc (v := (-1000001 : Int32)) hx hb X.2.2.2.2.2.1 (X.2.2.2.2.2.2.1 _ wd_845) dX11_damage_23 ?_
      obtain ⟨rfl, rfl⟩ := mm_ret hf
      exact mm_iret X hP hS dX11_damage_25
    · replace hf := mm_if c_3 hf
      refine lv_iload_n hx hb dX11_damage_12 rfl (lv_at hl 2 rfl) ?_
      refine lv_bipush (v := (-9 : Int32)) hx hb dX11_damage_13 (by decide) ?_
      refine lv_bipush (v := (9 : Int32)) hx hb dX11_damage_15 (by decide) ?_
      obtain ⟨r_4, s_4, e_4, hf⟩ := mm_bd_ok hf
      refine mm_callS X hP hS hl.1 [.int x2, .int (-9 : Int32), .int (9 : Int32)] [] (cx_X11_in l D ad cA hI x2 (-9 : Int32) (9 : Int32) s_2 r_4 s_4 e_4) wd_842 wd_843 wd_12 wd_844 hd_X11_in ⟨Nat.le_of_ble_eq_true rfl, Nat.le_of_ble_eq_true rfl⟩ rfl (Nat.le_of_ble_eq_true rfl) dX11_damage_17 (fun H locs hP hS => ?_)
      refine lv_if_ne (tgt := 26) hx hb dX11_damage_20 (by decide) (fun c_5 => ?_) (fun c_5 => ?_)
      · replace hf := mm_if c_5 hf
        refine lv_aload_n hx hb dX11_damage_26 rfl (lv_at hl 0 rfl) ?_
        refine lv_iload_n hx hb dX11_damage_27 rfl (lv_at hl 1 rfl) ?_
        obtain ⟨r_6, s_6, e_6, hf⟩ := mm_bd_ok hf
        refine mm_callV X hP hS hl.1 [.int x1] [] (cx_X11_isOut l D ad cA hI x1 s_4 r_6 s_6 e_6) kp_30 rfl rfl wd_907 wd_909 wp_28 wd_12 wd_910 hd_X11_isOut ⟨Nat.le_of_ble_eq_true rfl, Nat.le_of_ble_eq_true rfl⟩ rfl (Nat.le_of_ble_eq_true rfl) dX11_damage_28 (fun H locs hP hS => ?_)
        refine lv_if_eq (tgt := 37) hx hb dX11_damage_31 (by decide) (fun c_7 => ?_) (fun c_7 => ?_)
        · replace hf := mm_it c_7 hf
          refine lv_aload_n hx hb dX11_damage_37 rfl (lv_at hl 0 rfl) ?_
          refine lv_iload_n hx hb dX11_damage_38 rfl (lv_at hl 1 rfl) ?_
          refine lv_iconst (v := (3 : Int32)) hx hb dX11_damage_39 (by decide) ?_
          obtain ⟨r_8, s_8, e_8, hf⟩ := mm_bd_ok hf
          refine mm_callV X hP hS hl.1 [.int x1, .int (3 : Int32)] [] (cx_X11_of l D ad cA hI x1 (3 : Int32) s_6 r_8 s_8 e_8) kp_30 rfl rfl wd_850 wd_852 wp_19 wd_12 wd_853 hd_X11_of ⟨Nat.le_of_ble_eq_true rfl, Nat.le_of_ble_eq_true rfl⟩ rfl (Nat.le_of_ble_eq_true rfl) dX11_damage_40 (fun H locs hP hS => ?_)
          refine lv_iload_n hx hb dX11_damage_43 rfl (lv_at hl 2 rfl) ?_
          refine lv_iadd hx hb dX11_damage_44 ?_
          obtain ⟨y_9, e_9, hf⟩ := mm_li_ok hf
          rw [← e_9]
          refine lv_istore_n (lv' := [(3, .int y_9), (0, .ref (ad 10 30 0)), (1, .int x1), (2, .int x2)]) hx hb dX11_damage_45 rfl hl (by decide) rfl (fun ls hl => ?_)
          refine lv_iload_n hx hb dX11_damage_46 rfl (lv_at hl 0 rfl) ?_
          refine lv_if_ge (tgt := 54) hx hb dX11_damage_47 (by decide) (fun c_10 => ?_) (fun c_10 => ?_)
          · replace hf := mm_it c_10 hf
            refine lv_iload_n hx hb dX11_damage_54 rfl (lv_at hl 0 rfl) ?_
            refine lv_bipush (v := (9 : Int32)) hx hb dX11_damage_55 (by decide) ?_
            refine lv_icmp_le (tgt := 65) hx hb dX11_damage_57 (by decide) (fun c_11 => ?_) (fun c_11 => ?_)
            · replace hf := mm_it c_11 hf
              refine lv_iload_n hx hb dX11_damage_65 rfl (lv_at hl 0 rfl) ?_
              exact cx_X11_damage_J66 x1 x2 rv σ1 X y_9 s_8 H locs ls hf hP hS (lv_sub hl [1, 2] rfl)
            · replace hf := mm_if c_11 hf
              refine lv_bipush (v := (9 : Int32)) hx hb dX11_damage_60 (by decide) ?_
              refine lv_goto (tgt := 66) hx hb dX11_damage_62 (by decide) ?_
              exact cx_X11_damage_J66 x1 x2 rv σ1 X (9 : Int32) s_8 H locs ls hf hP hS (lv_sub hl [1, 2] rfl)
          · replace hf := mm_if c_10 hf
            refine lv_iconst (v := (0 : Int32)) hx hb dX11_damage_50 (by decide) ?_
            refine lv_goto (tgt := 66) hx hb dX11_damage_51 (by decide) ?_
            exact cx_X11_damage_J66 x1 x2 rv σ1 X (0 : Int32) s_8 H locs ls hf hP hS (lv_sub hl [1, 2] rfl)
        · replace hf := mm_if c_7 hf
          refine lv_ldc (v := (-1000002 : Int32)) hx hb X.2.2.2.2.2.1 (X.2.2.2.2.2.2.1 _ wd_854) dX11_damage_34 ?_
          obtain ⟨rfl, rfl⟩ := mm_ret hf
          exact mm_iret X hP hS dX11_damage_36
      · replace hf := mm_it c_5 hf
        refine lv_ldc (v := (-1000001 : Int32)) hx hb X.2.2.2.2.2.1 (X.2.2.2.2.2.2.1 _ wd_845) dX11_damage_23 ?_
        obtain ⟨rfl, rfl⟩ := mm_ret hf
        exact mm_iret X hP hS dX11_damage_25
  exact hgen _ _ hP hS
def fx_X11_outs_L4   : Nat → Int32 → Int32 → mm_M → mm_R
  | 0, _, _, _ => none
  | fu + 1, v1, v2, σ => if (σ 10 31 0 (0 : Int32).toNatClampNeg) ≤ v2 then some (v1, σ) else mm_bd (fx_X11_of v2 (5 : Int32) σ) fun r_2 s_2 => (mm_li (v1 + r_2) fun y_3 => (mm_li (v2 + (1 : Int32)) fun y_4 => (fx_X11_outs_L4 fu y_3 y_4 s_2)))
set_option maxHeartbeats 4000000 in
set_option maxRecDepth 100000 in
theorem cx_X11_outs_L4 {p : Program} {l : Launch} {e : Env} {s : State} {m : MethodId} {args : Array Value} {below : List Frame} {meth : Method} {c : Code} {D : va_G} {ad : mm_A} {cA : Nat → ClassId}   (rv : Int32) (σ1 : mm_M)  (X : mm_X p s m args meth c cX11_outs 3 (some .int) RX11 D ad cA) : ∀ (fu : Nat), ∀ (v1 : Int32) (v2 : Int32) (σ : mm_M) (H : Heap) (locs : List Loc) (ls : Array Slot), fx_X11_outs_L4  fu v1 v2 σ = some (rv, σ1) → va_P D vwCl (mm_wd ad cA σ) H → va_S (mm_AS ad) s.heap H locs → lv_has ls 3 [(0, .ref (ad 10 30 0)), (1, .int v1), (2, .int v2)] → W p l e (mm_rm 1 22) s m args below meth c H locs 0 0 (MQ below (mm_Q D ad cA (some (.int rv)) σ1) args s 0 0 (mm_AS ad)) (F0 m 4 ls []) := by
  have hx := X.1
  have hb := X.2.1
  have hI := X.2.2.2.2.2.2.2.2.2
  intro fu
  induction fu with
  | zero =>
    intro v1 v2 σ H locs ls hf
    exact mm_no hf
  | succ fu ih =>
    intro v1 v2 σ H locs ls hf hP hS hl
    rw [fx_X11_outs_L4] at hf
    refine lv_iload_n hx hb dX11_outs_4 rfl (lv_at hl 2 rfl) ?_
    refine lv_aload_n hx hb dX11_outs_5 rfl (lv_at hl 0 rfl) ?_
    refine gf_30_0 X hP  wd_769 dX11_outs_6 ?_
    refine lv_iconst (v := (0 : Int32)) hx hb dX11_outs_9 (by decide) ?_
    refine al_31 X hP  (by decide : mm_ix (0 : Int32) 207 = true) dX11_outs_10 ?_
    refine lv_icmp_ge (tgt := 29) hx hb dX11_outs_11 (by decide) (fun c_1 => ?_) (fun c_1 => ?_)
    · replace hf := mm_it c_1 hf
      refine lv_iload_n hx hb dX11_outs_29 rfl (lv_at hl 1 rfl) ?_
      obtain ⟨rfl, rfl⟩ := mm_ret hf
      exact mm_iret X hP hS dX11_outs_30
    · replace hf := mm_if c_1 hf
      refine lv_iload_n hx hb dX11_outs_14 rfl (lv_at hl 1 rfl) ?_
      refine lv_aload_n hx hb dX11_outs_15 rfl (lv_at hl 0 rfl) ?_
      refine lv_iload_n hx hb dX11_outs_16 rfl (lv_at hl 2 rfl) ?_
      refine lv_iconst (v := (5 : Int32)) hx hb dX11_outs_17 (by decide) ?_
      obtain ⟨r_2, s_2, e_2, hf⟩ := mm_bd_ok hf
      refine mm_callV X hP hS hl.1 [.int v2, .int (5 : Int32)] [.int v1] (cx_X11_of l D ad cA hI v2 (5 : Int32) σ r_2 s_2 e_2) kp_30 rfl rfl wd_850 wd_852 wp_19 wd_12 wd_853 hd_X11_of ⟨Nat.le_of_ble_eq_true rfl, Nat.le_of_ble_eq_true rfl⟩ rfl (Nat.le_of_ble_eq_true rfl) dX11_outs_18 (fun H locs hP hS => ?_)
      refine lv_iadd hx hb dX11_outs_21 ?_
      obtain ⟨y_3, e_3, hf⟩ := mm_li_ok hf
      rw [← e_3]
      refine lv_istore_n (lv' := [(1, .int y_3), (0, .ref (ad 10 30 0)), (2, .int v2)]) hx hb dX11_outs_22 rfl hl (by decide) rfl (fun ls hl => ?_)
      obtain ⟨y_4, e_4, hf⟩ := mm_li_ok hf
      refine lv_iinc (v := y_4) (lv' := [(2, .int y_4), (1, .int y_3), (0, .ref (ad 10 30 0))]) hx hb dX11_outs_23 hl (k := 2) rfl (by rw [e_4]; rfl) (by decide) rfl (fun ls hl => ?_)
      refine lv_goto (tgt := 4) hx hb dX11_outs_26 (by decide) ?_
      exact ih y_3 y_4 s_2 H locs ls  hf hP hS (lv_sub hl [2, 1, 0] rfl)
def fx_X11_outs  (σ : mm_M) : mm_R := fx_X11_outs_L4 mm_FU (0 : Int32) (0 : Int32) σ
set_option maxHeartbeats 4000000 in
set_option maxRecDepth 100000 in
theorem cx_X11_outs (l : Launch) (D : va_G) (ad : mm_A) (cA : Nat → ClassId) (hI : mm_Inj ad)   (σ : mm_M) (rv : Int32) (σ1 : mm_M) (hf : fx_X11_outs  σ = some (rv, σ1)) : Met l yX11_outs (Cond.code yX11_outs cX11_outs 3 (some .int) :: tb) (mm_rm 1 22) (mm_pre D ad cA [.ref (ad 10 30 0)] σ) (mm_Q D ad cA (some (.int rv)) σ1) 0 0 (mm_AS ad) := by
  refine mm_start (by decide +kernel) hI (Nat.le_of_ble_eq_true rfl) ?_
  intro p e s m args below meth c X hP ls hl
  have hl : lv_has ls 3 [(0, .ref (ad 10 30 0))] := hl
  have hx := X.1
  have hb := X.2.1
  have hS : va_S (mm_AS ad) s.heap s.heap [] := va_S.rf
  have hgen : ∀ (H : Heap) (locs : List Loc), va_P D vwCl (mm_wd ad cA σ) H → va_S (mm_AS ad) s.heap H locs → W p l e (mm_rm 1 22) s m args below meth c H locs 0 0 (MQ below (mm_Q D ad cA (some (.int rv)) σ1) args s 0 0 (mm_AS ad)) (F0 m 0 ls []) := by
    intro H locs hP hS
    rw [fx_X11_outs] at hf
    refine lv_iconst (v := (0 : Int32)) hx hb dX11_outs_0 (by decide) ?_
    refine lv_istore_n (lv' := [(1, .int (0 : Int32)), (0, .ref (ad 10 30 0))]) hx hb dX11_outs_1 rfl hl (by decide) rfl (fun ls hl => ?_)
    refine lv_iconst (v := (0 : Int32)) hx hb dX11_outs_2 (by decide) ?_
    refine lv_istore_n (lv' := [(2, .int (0 : Int32)), (1, .int (0 : Int32)), (0, .ref (ad 10 30 0))]) hx hb dX11_outs_3 rfl hl (by decide) rfl (fun ls hl => ?_)
    exact cx_X11_outs_L4 rv σ1 X mm_FU (0 : Int32) (0 : Int32) σ H locs ls hf hP hS (lv_sub hl [2, 1, 0] rfl)
  exact hgen _ _ hP hS
def fx_X11_orders_J92  (k14 : Int32 → Int32 → mm_M → mm_R) (v1 : Int32) (v2 : Int32) (v3 : Int32) (σ : mm_M) : mm_R := mm_gd (mm_ix v3 4 = true) (mm_lt (mm_u σ 10 37 0 v3.toNatClampNeg v2) fun s_21 => (mm_lt (mm_u s_21 10 30 0 9 ((s_21 10 30 0 9) + (1 : Int32))) fun s_22 => (mm_li (v2 + (1 : Int32)) fun y_23 => (k14 v1 y_23 s_22))))
set_option maxHeartbeats 4000000 in
set_option maxRecDepth 100000 in
theorem cx_X11_orders_J92 {p : Program} {l : Launch} {e : Env} {s : State} {m : MethodId} {args : Array Value} {below : List Frame} {meth : Method} {c : Code} {D : va_G} {ad : mm_A} {cA : Nat → ClassId}   (rv : Int32) (σ1 : mm_M) (k14 : Int32 → Int32 → mm_M → mm_R) (hk14 : ∀ (v1 : Int32) (v2 : Int32) (σ : mm_M) (H : Heap) (locs : List Loc) (ls : Array Slot), k14 v1 v2 σ = some (rv, σ1) → va_P D vwCl (mm_wd ad cA σ) H → va_S (mm_AS ad) s.heap H locs → lv_has ls 4 [(0, .ref (ad 10 30 0)), (1, .int v1), (2, .int v2)] → W p l e (mm_rm 2 44) s m args below meth c H locs 0 0 (MQ below (mm_Q D ad cA none σ1) args s 0 0 (mm_AS ad)) (F0 m 14 ls [])) (X : mm_X p s m args meth c cX11_orders 4 none RX11 D ad cA) : ∀ (v1 : Int32) (v2 : Int32) (v3 : Int32) (σ : mm_M) (H : Heap) (locs : List Loc) (ls : Array Slot), fx_X11_orders_J92 k14 v1 v2 v3 σ = some (rv, σ1) → va_P D vwCl (mm_wd ad cA σ) H → va_S (mm_AS ad) s.heap H locs → lv_has ls 4 [(0, .ref (ad 10 30 0)), (1, .int v1), (2, .int v2), (3, .int v3)] → W p l e (mm_rm 2 44) s m args below meth c H locs 0 0 (MQ below (mm_Q D ad cA none σ1) args s 0 0 (mm_AS ad)) (F0 m 92 ls []) := by
  have hx := X.1
  have hb := X.2.1
  have hI := X.2.2.2.2.2.2.2.2.2
  intro v1 v2 v3 σ H locs ls hf hP hS hl
  rw [fx_X11_orders_J92] at hf
  refine lv_aload_n hx hb dX11_orders_92 rfl (lv_at hl 0 rfl) ?_
  refine gf_30_8 X hP  wd_777 dX11_orders_93 ?_
  refine lv_iload_n hx hb dX11_orders_96 rfl (lv_at hl 3 rfl) ?_
  refine lv_iload_n hx hb dX11_orders_97 rfl (lv_at hl 2 rfl) ?_
  obtain ⟨h_20, hf⟩ := mm_gd_ok hf
  refine as_37 X hP hS  h_20  dX11_orders_98 (fun H locs hP hS => ?_)
  obtain ⟨s_21, e_21, hf⟩ := mm_lt_ok hf
  rw [← e_21] at hP
  refine lv_aload_n hx hb dX11_orders_99 rfl (lv_at hl 0 rfl) ?_
  refine lv_dup hx hb dX11_orders_100 rfl ?_
  refine gf_30_9 X hP  wd_778 dX11_orders_101 ?_
  refine lv_iconst (v := (1 : Int32)) hx hb dX11_orders_104 (by decide) ?_
  refine lv_iadd hx hb dX11_orders_105 ?_
  refine pf_30_9 X hP hS  wd_778  dX11_orders_106 (fun H locs hP hS => ?_)
  obtain ⟨s_22, e_22, hf⟩ := mm_lt_ok hf
  rw [← e_22] at hP
  obtain ⟨y_23, e_23, hf⟩ := mm_li_ok hf
  refine lv_iinc (v := y_23) (lv' := [(2, .int y_23), (0, .ref (ad 10 30 0)), (1, .int v1), (3, .int v3)]) hx hb dX11_orders_109 hl (k := 2) rfl (by rw [e_23]; rfl) (by decide) rfl (fun ls hl => ?_)
  refine lv_goto (tgt := 14) hx hb dX11_orders_112 (by decide) ?_
  exact hk14 v1 y_23 s_22 H locs ls  hf hP hS (lv_sub hl [1, 2, 0] rfl)
def fx_X11_orders_L46  (k14 : Int32 → Int32 → mm_M → mm_R) : Nat → Int32 → Int32 → Int32 → mm_M → mm_R
  | 0, _, _, _, _ => none
  | fu + 1, v1, v2, v3, σ => if v3 ≤ (0 : Int32) then fx_X11_orders_J92 k14 v1 v2 v3 σ else mm_gd (mm_ix (v3 - (1 : Int32)) 4 = true) (mm_bd (fx_X11_rank (σ 10 37 0 (v3 - (1 : Int32)).toNatClampNeg) v1 σ) fun r_13 s_13 => (mm_bd (fx_X11_rank v2 v1 s_13) fun r_14 s_14 => (if r_14 ≤ r_13 then fx_X11_orders_J92 k14 v1 v2 v3 s_14 else mm_gd (mm_ix (v3 - (1 : Int32)) 4 = true) (mm_gd (mm_ix v3 4 = true) (mm_lt (mm_u s_14 10 37 0 v3.toNatClampNeg (s_14 10 37 0 (v3 - (1 : Int32)).toNatClampNeg)) fun s_18 => (mm_li (v3 + (-1 : Int32)) fun y_19 => (fx_X11_orders_L46 k14 fu v1 v2 y_19 s_18)))))))
set_option maxHeartbeats 4000000 in
set_option maxRecDepth 100000 in
theorem cx_X11_orders_L46 {p : Program} {l : Launch} {e : Env} {s : State} {m : MethodId} {args : Array Value} {below : List Frame} {meth : Method} {c : Code} {D : va_G} {ad : mm_A} {cA : Nat → ClassId}   (rv : Int32) (σ1 : mm_M) (k14 : Int32 → Int32 → mm_M → mm_R) (hk14 : ∀ (v1 : Int32) (v2 : Int32) (σ : mm_M) (H : Heap) (locs : List Loc) (ls : Array Slot), k14 v1 v2 σ = some (rv, σ1) → va_P D vwCl (mm_wd ad cA σ) H → va_S (mm_AS ad) s.heap H locs → lv_has ls 4 [(0, .ref (ad 10 30 0)), (1, .int v1), (2, .int v2)] → W p l e (mm_rm 2 44) s m args below meth c H locs 0 0 (MQ below (mm_Q D ad cA none σ1) args s 0 0 (mm_AS ad)) (F0 m 14 ls [])) (X : mm_X p s m args meth c cX11_orders 4 none RX11 D ad cA) : ∀ (fu : Nat), ∀ (v1 : Int32) (v2 : Int32) (v3 : Int32) (σ : mm_M) (H : Heap) (locs : List Loc) (ls : Array Slot), fx_X11_orders_L46 k14 fu v1 v2 v3 σ = some (rv, σ1) → va_P D vwCl (mm_wd ad cA σ) H → va_S (mm_AS ad) s.heap H locs → lv_has ls 4 [(0, .ref (ad 10 30 0)), (1, .int v1), (2, .int v2), (3, .int v3)] → W p l e (mm_rm 2 44) s m args below meth c H locs 0 0 (MQ below (mm_Q D ad cA none σ1) args s 0 0 (mm_AS ad)) (F0 m 46 ls []) := by
  have hx := X.1
  have hb := X.2.1
  have hI := X.2.2.2.2.2.2.2.2.2
  intro fu
  induction fu with
  | zero =>
    intro v1 v2 v3 σ H locs ls hf
    exact mm_no hf
  | succ fu ih =>
    intro v1 v2 v3 σ H locs ls hf hP hS hl
    rw [fx_X11_orders_L46] at hf
    refine lv_iload_n hx hb dX11_orders_46 rfl (lv_at hl 3 rfl) ?_
    refine lv_if_le (tgt := 92) hx hb dX11_orders_47 (by decide) (fun c_11 => ?_) (fun c_11 => ?_)
    · replace hf := mm_it c_11 hf
      exact cx_X11_orders_J92 rv σ1 k14 hk14 X v1 v2 v3 σ H locs ls hf hP hS (lv_sub hl [0, 1, 2, 3] rfl)
    · replace hf := mm_if c_11 hf
      refine lv_aload_n hx hb dX11_orders_50 rfl (lv_at hl 0 rfl) ?_
      refine lv_aload_n hx hb dX11_orders_51 rfl (lv_at hl 0 rfl) ?_
      refine gf_30_8 X hP  wd_777 dX11_orders_52 ?_
      refine lv_iload_n hx hb dX11_orders_55 rfl (lv_at hl 3 rfl) ?_
      refine lv_iconst (v := (1 : Int32)) hx hb dX11_orders_56 (by decide) ?_
      refine lv_isub hx hb dX11_orders_57 ?_
      obtain ⟨h_12, hf⟩ := mm_gd_ok hf
      refine al_37 X hP  h_12 dX11_orders_58 ?_
      refine lv_iload_n hx hb dX11_orders_59 rfl (lv_at hl 1 rfl) ?_
      obtain ⟨r_13, s_13, e_13, hf⟩ := mm_bd_ok hf
      refine mm_callV X hP hS hl.1 [.int (σ 10 37 0 (v3 - (1 : Int32)).toNatClampNeg), .int v1] [] (cx_X11_rank l D ad cA hI (σ 10 37 0 (v3 - (1 : Int32)).toNatClampNeg) v1 σ r_13 s_13 e_13) kp_30 rfl rfl wd_919 wd_921 wp_31 wd_12 wd_922 hd_X11_rank ⟨Nat.le_of_ble_eq_true rfl, Nat.le_of_ble_eq_true rfl⟩ rfl (Nat.le_of_ble_eq_true rfl) dX11_orders_60 (fun H locs hP hS => ?_)
      refine lv_aload_n hx hb dX11_orders_63 rfl (lv_at hl 0 rfl) ?_
      refine lv_iload_n hx hb dX11_orders_64 rfl (lv_at hl 2 rfl) ?_
      refine lv_iload_n hx hb dX11_orders_65 rfl (lv_at hl 1 rfl) ?_
      obtain ⟨r_14, s_14, e_14, hf⟩ := mm_bd_ok hf
      refine mm_callV X hP hS hl.1 [.int v2, .int v1] [.int r_13] (cx_X11_rank l D ad cA hI v2 v1 s_13 r_14 s_14 e_14) kp_30 rfl rfl wd_919 wd_921 wp_31 wd_12 wd_922 hd_X11_rank ⟨Nat.le_of_ble_eq_true rfl, Nat.le_of_ble_eq_true rfl⟩ rfl (Nat.le_of_ble_eq_true rfl) dX11_orders_66 (fun H locs hP hS => ?_)
      refine lv_icmp_ge (tgt := 92) hx hb dX11_orders_69 (by decide) (fun c_15 => ?_) (fun c_15 => ?_)
      · replace hf := mm_it c_15 hf
        exact cx_X11_orders_J92 rv σ1 k14 hk14 X v1 v2 v3 s_14 H locs ls hf hP hS (lv_sub hl [0, 1, 2, 3] rfl)
      · replace hf := mm_if c_15 hf
        refine lv_aload_n hx hb dX11_orders_72 rfl (lv_at hl 0 rfl) ?_
        refine gf_30_8 X hP  wd_777 dX11_orders_73 ?_
        refine lv_iload_n hx hb dX11_orders_76 rfl (lv_at hl 3 rfl) ?_
        refine lv_aload_n hx hb dX11_orders_77 rfl (lv_at hl 0 rfl) ?_
        refine gf_30_8 X hP  wd_777 dX11_orders_78 ?_
        refine lv_iload_n hx hb dX11_orders_81 rfl (lv_at hl 3 rfl) ?_
        refine lv_iconst (v := (1 : Int32)) hx hb dX11_orders_82 (by decide) ?_
        refine lv_isub hx hb dX11_orders_83 ?_
        obtain ⟨h_16, hf⟩ := mm_gd_ok hf
        refine al_37 X hP  h_16 dX11_orders_84 ?_
        obtain ⟨h_17, hf⟩ := mm_gd_ok hf
        refine as_37 X hP hS  h_17  dX11_orders_85 (fun H locs hP hS => ?_)
        obtain ⟨s_18, e_18, hf⟩ := mm_lt_ok hf
        rw [← e_18] at hP
        obtain ⟨y_19, e_19, hf⟩ := mm_li_ok hf
        refine lv_iinc (v := y_19) (lv' := [(3, .int y_19), (0, .ref (ad 10 30 0)), (1, .int v1), (2, .int v2)]) hx hb dX11_orders_86 hl (k := 3) rfl (by rw [e_19]; rfl) (by decide) rfl (fun ls hl => ?_)
        refine lv_goto (tgt := 46) hx hb dX11_orders_89 (by decide) ?_
        exact ih v1 v2 y_19 s_18 H locs ls  hf hP hS (lv_sub hl [1, 2, 3, 0] rfl)
def fx_X11_orders_L14   : Nat → Int32 → Int32 → mm_M → mm_R
  | 0, _, _, _ => none
  | fu + 1, v1, v2, σ => if (σ 10 31 0 (0 : Int32).toNatClampNeg) ≤ v2 then some (0, σ) else mm_bd (fx_X11_isOut v2 σ) fun r_4 s_4 => (if r_4 = (0 : Int32) then mm_bd (fx_X11_rank v2 v1 s_4) fun r_7 s_7 => (if r_7 ≤ (0 : Int32) then mm_li (v2 + (1 : Int32)) fun y_9 => (fx_X11_orders_L14 fu v1 y_9 s_7) else mm_li (s_7 10 30 0 9) fun y_10 => (fx_X11_orders_L46 (fun z0 z1 z => fx_X11_orders_L14 fu z0 z1 z) mm_FU v1 v2 y_10 s_7)) else mm_li (v2 + (1 : Int32)) fun y_6 => (fx_X11_orders_L14 fu v1 y_6 s_4))
set_option maxHeartbeats 4000000 in
set_option maxRecDepth 100000 in
theorem cx_X11_orders_L14 {p : Program} {l : Launch} {e : Env} {s : State} {m : MethodId} {args : Array Value} {below : List Frame} {meth : Method} {c : Code} {D : va_G} {ad : mm_A} {cA : Nat → ClassId}   (rv : Int32) (σ1 : mm_M)  (X : mm_X p s m args meth c cX11_orders 4 none RX11 D ad cA) : ∀ (fu : Nat), ∀ (v1 : Int32) (v2 : Int32) (σ : mm_M) (H : Heap) (locs : List Loc) (ls : Array Slot), fx_X11_orders_L14  fu v1 v2 σ = some (rv, σ1) → va_P D vwCl (mm_wd ad cA σ) H → va_S (mm_AS ad) s.heap H locs → lv_has ls 4 [(0, .ref (ad 10 30 0)), (1, .int v1), (2, .int v2)] → W p l e (mm_rm 2 44) s m args below meth c H locs 0 0 (MQ below (mm_Q D ad cA none σ1) args s 0 0 (mm_AS ad)) (F0 m 14 ls []) := by
  have hx := X.1
  have hb := X.2.1
  have hI := X.2.2.2.2.2.2.2.2.2
  intro fu
  induction fu with
  | zero =>
    intro v1 v2 σ H locs ls hf
    exact mm_no hf
  | succ fu ih =>
    intro v1 v2 σ H locs ls hf hP hS hl
    rw [fx_X11_orders_L14] at hf
    refine lv_iload_n hx hb dX11_orders_14 rfl (lv_at hl 2 rfl) ?_
    refine lv_aload_n hx hb dX11_orders_15 rfl (lv_at hl 0 rfl) ?_
    refine gf_30_0 X hP  wd_769 dX11_orders_16 ?_
    refine lv_iconst (v := (0 : Int32)) hx hb dX11_orders_19 (by decide) ?_
    refine al_31 X hP  (by decide : mm_ix (0 : Int32) 207 = true) dX11_orders_20 ?_
    refine lv_icmp_ge (tgt := 115) hx hb dX11_orders_21 (by decide) (fun c_3 => ?_) (fun c_3 => ?_)
    · replace hf := mm_it c_3 hf
      obtain ⟨rfl, rfl⟩ := mm_ret hf
      exact mm_vret X hP hS dX11_orders_115
    · replace hf := mm_if c_3 hf
      refine lv_aload_n hx hb dX11_orders_24 rfl (lv_at hl 0 rfl) ?_
      refine lv_iload_n hx hb dX11_orders_25 rfl (lv_at hl 2 rfl) ?_
      obtain ⟨r_4, s_4, e_4, hf⟩ := mm_bd_ok hf
      refine mm_callV X hP hS hl.1 [.int v2] [] (cx_X11_isOut l D ad cA hI v2 σ r_4 s_4 e_4) kp_30 rfl rfl wd_907 wd_909 wp_28 wd_12 wd_910 hd_X11_isOut ⟨Nat.le_of_ble_eq_true rfl, Nat.le_of_ble_eq_true rfl⟩ rfl (Nat.le_of_ble_eq_true rfl) dX11_orders_26 (fun H locs hP hS => ?_)
      refine lv_if_ne (tgt := 109) hx hb dX11_orders_29 (by decide) (fun c_5 => ?_) (fun c_5 => ?_)
      · replace hf := mm_if c_5 hf
        obtain ⟨y_6, e_6, hf⟩ := mm_li_ok hf
        refine lv_iinc (v := y_6) (lv' := [(2, .int y_6), (0, .ref (ad 10 30 0)), (1, .int v1)]) hx hb dX11_orders_109 hl (k := 2) rfl (by rw [e_6]; rfl) (by decide) rfl (fun ls hl => ?_)
        refine lv_goto (tgt := 14) hx hb dX11_orders_112 (by decide) ?_
        exact ih v1 y_6 s_4 H locs ls  hf hP hS (lv_sub hl [1, 2, 0] rfl)
      · replace hf := mm_it c_5 hf
        refine lv_aload_n hx hb dX11_orders_32 rfl (lv_at hl 0 rfl) ?_
        refine lv_iload_n hx hb dX11_orders_33 rfl (lv_at hl 2 rfl) ?_
        refine lv_iload_n hx hb dX11_orders_34 rfl (lv_at hl 1 rfl) ?_
        obtain ⟨r_7, s_7, e_7, hf⟩ := mm_bd_ok hf
        refine mm_callV X hP hS hl.1 [.int v2, .int v1] [] (cx_X11_rank l D ad cA hI v2 v1 s_4 r_7 s_7 e_7) kp_30 rfl rfl wd_919 wd_921 wp_31 wd_12 wd_922 hd_X11_rank ⟨Nat.le_of_ble_eq_true rfl, Nat.le_of_ble_eq_true rfl⟩ rfl (Nat.le_of_ble_eq_true rfl) dX11_orders_35 (fun H locs hP hS => ?_)
        refine lv_if_le (tgt := 109) hx hb dX11_orders_38 (by decide) (fun c_8 => ?_) (fun c_8 => ?_)
        · replace hf := mm_it c_8 hf
          obtain ⟨y_9, e_9, hf⟩ := mm_li_ok hf
          refine lv_iinc (v := y_9) (lv' := [(2, .int y_9), (0, .ref (ad 10 30 0)), (1, .int v1)]) hx hb dX11_orders_109 hl (k := 2) rfl (by rw [e_9]; rfl) (by decide) rfl (fun ls hl => ?_)
          refine lv_goto (tgt := 14) hx hb dX11_orders_112 (by decide) ?_
          exact ih v1 y_9 s_7 H locs ls  hf hP hS (lv_sub hl [1, 2, 0] rfl)
        · replace hf := mm_if c_8 hf
          refine lv_aload_n hx hb dX11_orders_41 rfl (lv_at hl 0 rfl) ?_
          refine gf_30_9 X hP  wd_778 dX11_orders_42 ?_
          obtain ⟨y_10, e_10, hf⟩ := mm_li_ok hf
          rw [← e_10]
          refine lv_istore_n (lv' := [(3, .int y_10), (0, .ref (ad 10 30 0)), (1, .int v1), (2, .int v2)]) hx hb dX11_orders_45 rfl hl (by decide) rfl (fun ls hl => ?_)
          exact cx_X11_orders_L46 rv σ1 (fun z0 z1 z => fx_X11_orders_L14 fu z0 z1 z) ih X mm_FU v1 v2 y_10 s_7 H locs ls hf hP hS (lv_sub hl [1, 2, 3, 0] rfl)
def fx_X11_orders  (σ : mm_M) : mm_R := mm_lt (mm_u σ 10 30 0 9 (0 : Int32)) fun s_1 => (mm_li (s_1 10 31 0 (1 : Int32).toNatClampNeg) fun y_2 => (fx_X11_orders_L14 mm_FU y_2 (0 : Int32) s_1))
set_option maxHeartbeats 4000000 in
set_option maxRecDepth 100000 in
theorem cx_X11_orders (l : Launch) (D : va_G) (ad : mm_A) (cA : Nat → ClassId) (hI : mm_Inj ad)   (σ : mm_M) (rv : Int32) (σ1 : mm_M) (hf : fx_X11_orders  σ = some (rv, σ1)) : Met l yX11_orders (Cond.code yX11_orders cX11_orders 4 none :: tb) (mm_rm 2 44) (mm_pre D ad cA [.ref (ad 10 30 0)] σ) (mm_Q D ad cA none σ1) 0 0 (mm_AS ad) := by
  refine mm_start (by decide +kernel) hI (Nat.le_of_ble_eq_true rfl) ?_
  intro p e s m args below meth c X hP ls hl
  have hl : lv_has ls 4 [(0, .ref (ad 10 30 0))] := hl
  have hx := X.1
  have hb := X.2.1
  have hS : va_S (mm_AS ad) s.heap s.heap [] := va_S.rf
  have hgen : ∀ (H : Heap) (locs : List Loc), va_P D vwCl (mm_wd ad cA σ) H → va_S (mm_AS ad) s.heap H locs → W p l e (mm_rm 2 44) s m args below meth c H locs 0 0 (MQ below (mm_Q D ad cA none σ1) args s 0 0 (mm_AS ad)) (F0 m 0 ls []) := by
    intro H locs hP hS
    rw [fx_X11_orders] at hf
    refine lv_aload_n hx hb dX11_orders_0 rfl (lv_at hl 0 rfl) ?_
    refine lv_iconst (v := (0 : Int32)) hx hb dX11_orders_1 (by decide) ?_
    refine pf_30_9 X hP hS  wd_778  dX11_orders_2 (fun H locs hP hS => ?_)
    obtain ⟨s_1, e_1, hf⟩ := mm_lt_ok hf
    rw [← e_1] at hP
    refine lv_aload_n hx hb dX11_orders_5 rfl (lv_at hl 0 rfl) ?_
    refine gf_30_0 X hP  wd_769 dX11_orders_6 ?_
    refine lv_iconst (v := (1 : Int32)) hx hb dX11_orders_9 (by decide) ?_
    refine al_31 X hP  (by decide : mm_ix (1 : Int32) 207 = true) dX11_orders_10 ?_
    obtain ⟨y_2, e_2, hf⟩ := mm_li_ok hf
    rw [← e_2]
    refine lv_istore_n (lv' := [(1, .int y_2), (0, .ref (ad 10 30 0))]) hx hb dX11_orders_11 rfl hl (by decide) rfl (fun ls hl => ?_)
    refine lv_iconst (v := (0 : Int32)) hx hb dX11_orders_12 (by decide) ?_
    refine lv_istore_n (lv' := [(2, .int (0 : Int32)), (1, .int y_2), (0, .ref (ad 10 30 0))]) hx hb dX11_orders_13 rfl hl (by decide) rfl (fun ls hl => ?_)
    exact cx_X11_orders_L14 rv σ1 X mm_FU y_2 (0 : Int32) s_1 H locs ls hf hP hS (lv_sub hl [2, 1, 0] rfl)
  exact hgen _ _ hP hS
