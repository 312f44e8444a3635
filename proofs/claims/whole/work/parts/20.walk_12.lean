def fx_X11_would_L37 (x1 : Int32) (x2 : Int32) (x3 : Int32)  : Nat → Int32 → mm_M → mm_R
  | 0, _, _ => none
  | fu + 1, v4, σ => if x2 ≤ v4 then mm_bd (fx_X11_cartOf x1 x3 σ) fun r_9 s_9 => (mm_bd (fx_X11_takesBack  s_9) fun _ s_10 => (some (r_9, s_10))) else mm_bd (fx_X11_passes  σ) fun r_11 s_11 => (mm_li (v4 + (1 : Int32)) fun y_12 => (fx_X11_would_L37 x1 x2 x3 fu y_12 s_11))
set_option maxHeartbeats 4000000 in
set_option maxRecDepth 100000 in
theorem cx_X11_would_L37 {p : Program} {l : Launch} {e : Env} {s : State} {m : MethodId} {args : Array Value} {below : List Frame} {meth : Method} {c : Code} {D : va_G} {ad : mm_A} {cA : Nat → ClassId} (x1 : Int32) (x2 : Int32) (x3 : Int32)  (rv : Int32) (σ1 : mm_M)  (X : mm_X p s m args meth c cX11_would 6 (some .int) RX11 D ad cA) : ∀ (fu : Nat), ∀ (v4 : Int32) (σ : mm_M) (H : Heap) (locs : List Loc) (ls : Array Slot), fx_X11_would_L37 x1 x2 x3 fu v4 σ = some (rv, σ1) → va_P D vwCl (mm_wd ad cA σ) H → va_S (mm_AS ad) s.heap H locs → lv_has ls 6 [(0, .ref (ad 10 30 0)), (1, .int x1), (2, .int x2), (3, .int x3), (4, .int v4)] → W p l e (mm_rm 8 178) s m args below meth c H locs 0 0 (MQ below (mm_Q D ad cA (some (.int rv)) σ1) args s 0 0 (mm_AS ad)) (F0 m 37 ls []) := by
  have hx := X.1
  have hb := X.2.1
  have hI := X.2.2.2.2.2.2.2.2.2
  intro fu
  induction fu with
  | zero =>
    intro v4 σ H locs ls hf
    exact mm_no hf
  | succ fu ih =>
    intro v4 σ H locs ls hf hP hS hl
    rw [fx_X11_would_L37] at hf
    refine lv_iload hx hb dX11_would_37 (lv_at hl 4 rfl) ?_
    refine lv_iload_n hx hb dX11_would_39 rfl (lv_at hl 2 rfl) ?_
    refine lv_icmp_ge (tgt := 55) hx hb dX11_would_40 (by decide) (fun c_8 => ?_) (fun c_8 => ?_)
    · replace hf := mm_it c_8 hf
      refine lv_aload_n hx hb dX11_would_55 rfl (lv_at hl 0 rfl) ?_
      refine lv_iload_n hx hb dX11_would_56 rfl (lv_at hl 1 rfl) ?_
      refine lv_iload_n hx hb dX11_would_57 rfl (lv_at hl 3 rfl) ?_
      obtain ⟨r_9, s_9, e_9, hf⟩ := mm_bd_ok hf
      refine mm_callV X hP hS hl.1 [.int x1, .int x3] [] (cx_X11_cartOf l D ad cA hI x1 x3 σ r_9 s_9 e_9) kp_30 rfl rfl wd_1066 wd_1043 wd_1044 wd_12 wd_1045 hd_X11_cartOf ⟨Nat.le_of_ble_eq_true rfl, Nat.le_of_ble_eq_true rfl⟩ rfl (Nat.le_of_ble_eq_true rfl) dX11_would_58 (fun H locs hP hS => ?_)
      refine lv_istore (lv' := [(4, .int r_9), (0, .ref (ad 10 30 0)), (1, .int x1), (2, .int x2), (3, .int x3)]) hx hb dX11_would_61 hl (by decide) rfl (fun ls hl => ?_)
      refine lv_aload_n hx hb dX11_would_63 rfl (lv_at hl 1 rfl) ?_
      obtain ⟨r_10, s_10, e_10, hf⟩ := mm_bd_ok hf
      refine mm_callV X hP hS hl.1 [] [] (cx_X11_takesBack l D ad cA hI  s_9 r_10 s_10 e_10) kp_30 rfl rfl wd_1067 wd_1069 wp_58 wd_12 wd_1070 hd_X11_takesBack ⟨Nat.le_of_ble_eq_true rfl, Nat.le_of_ble_eq_true rfl⟩ rfl (Nat.le_of_ble_eq_true rfl) dX11_would_64 (fun H locs hP hS => ?_)
      refine lv_iload hx hb dX11_would_67 (lv_at hl 0 rfl) ?_
      obtain ⟨rfl, rfl⟩ := mm_ret hf
      exact mm_iret X hP hS dX11_would_69
    · replace hf := mm_if c_8 hf
      refine lv_aload_n hx hb dX11_would_43 rfl (lv_at hl 0 rfl) ?_
      obtain ⟨r_11, s_11, e_11, hf⟩ := mm_bd_ok hf
      refine mm_callV X hP hS hl.1 [] [] (cx_X11_passes l D ad cA hI  σ r_11 s_11 e_11) kp_30 rfl rfl wd_938 wd_940 wp_33 wd_12 wd_941 hd_X11_passes ⟨Nat.le_of_ble_eq_true rfl, Nat.le_of_ble_eq_true rfl⟩ rfl (Nat.le_of_ble_eq_true rfl) dX11_would_44 (fun H locs hP hS => ?_)
      refine lv_istore (lv' := [(5, .int r_11), (0, .ref (ad 10 30 0)), (1, .int x1), (2, .int x2), (3, .int x3), (4, .int v4)]) hx hb dX11_would_47 hl (by decide) rfl (fun ls hl => ?_)
      obtain ⟨y_12, e_12, hf⟩ := mm_li_ok hf
      refine lv_iinc (v := y_12) (lv' := [(4, .int y_12), (5, .int r_11), (0, .ref (ad 10 30 0)), (1, .int x1), (2, .int x2), (3, .int x3)]) hx hb dX11_would_49 hl (k := 5) rfl (by rw [e_12]; rfl) (by decide) rfl (fun ls hl => ?_)
      refine lv_goto (tgt := 37) hx hb dX11_would_52 (by decide) ?_
      exact ih y_12 s_11 H locs ls  hf hP hS (lv_sub hl [2, 3, 4, 5, 0] rfl)
def fx_X11_would (x1 : Int32) (x2 : Int32) (x3 : Int32) (σ : mm_M) : mm_R := mm_bd (fx_X11_isCart x1 σ) fun r_1 s_1 => (if r_1 = (0 : Int32) then some ((-1000001 : Int32), s_1) else mm_bd (fx_X11_in x2 (0 : Int32) (20 : Int32) s_1) fun r_3 s_3 => (if r_3 = (0 : Int32) then some ((-1000001 : Int32), s_3) else mm_bd (fx_X11_in x3 (0 : Int32) (3 : Int32) s_3) fun r_5 s_5 => (if r_5 = (0 : Int32) then some ((-1000001 : Int32), s_5) else mm_bd (fx_X11_putsAside  s_5) fun _ s_7 => (fx_X11_would_L37 x1 x2 x3 mm_FU (0 : Int32) s_7))))
set_option maxHeartbeats 4000000 in
set_option maxRecDepth 100000 in
theorem cx_X11_would (l : Launch) (D : va_G) (ad : mm_A) (cA : Nat → ClassId) (hI : mm_Inj ad) (x1 : Int32) (x2 : Int32) (x3 : Int32)  (σ : mm_M) (rv : Int32) (σ1 : mm_M) (hf : fx_X11_would x1 x2 x3 σ = some (rv, σ1)) : Met l yX11_would (Cond.code yX11_would cX11_would 6 (some .int) :: tb) (mm_rm 8 178) (mm_pre D ad cA [.ref (ad 10 30 0), .int x1, .int x2, .int x3] σ) (mm_Q D ad cA (some (.int rv)) σ1) 0 0 (mm_AS ad) := by
  refine mm_start (by decide +kernel) hI (Nat.le_of_ble_eq_true rfl) ?_
  intro p e s m args below meth c X hP ls hl
  have hl : lv_has ls 6 [(0, .ref (ad 10 30 0)), (1, .int x1), (2, .int x2), (3, .int x3)] := hl
  have hx := X.1
  have hb := X.2.1
  have hS : va_S (mm_AS ad) s.heap s.heap [] := va_S.rf
  have hgen : ∀ (H : Heap) (locs : List Loc), va_P D vwCl (mm_wd ad cA σ) H → va_S (mm_AS ad) s.heap H locs → W p l e (mm_rm 8 178) s m args below meth c H locs 0 0 (MQ below (mm_Q D ad cA (some (.int rv)) σ1) args s 0 0 (mm_AS ad)) (F0 m 0 ls []) := by
    intro H locs hP hS
    rw [fx_X11_would] at hf
    refine lv_aload_n hx hb dX11_would_0 rfl (lv_at hl 0 rfl) ?_
    refine lv_iload_n hx hb dX11_would_1 rfl (lv_at hl 1 rfl) ?_
    obtain ⟨r_1, s_1, e_1, hf⟩ := mm_bd_ok hf
    refine mm_callV X hP hS hl.1 [.int x1] [] (cx_X11_isCart l D ad cA hI x1 σ r_1 s_1 e_1) kp_30 rfl rfl wd_903 wd_905 wp_27 wd_12 wd_906 hd_X11_isCart ⟨Nat.le_of_ble_eq_true rfl, Nat.le_of_ble_eq_true rfl⟩ rfl (Nat.le_of_ble_eq_true rfl) dX11_would_2 (fun H locs hP hS => ?_)
    refine lv_if_eq (tgt := 27) hx hb dX11_would_5 (by decide) (fun c_2 => ?_) (fun c_2 => ?_)
    · replace hf := mm_it c_2 hf
      refine lv_ldc (v := (-1000001 : Int32)) hx hb X.2.2.2.2.2.1 (X.2.2.2.2.2.2.1 _ wd_845) dX11_would_27 ?_
      obtain ⟨rfl, rfl⟩ := mm_ret hf
      exact mm_iret X hP hS dX11_would_29
    · replace hf := mm_if c_2 hf
      refine lv_iload_n hx hb dX11_would_8 rfl (lv_at hl 2 rfl) ?_
      refine lv_iconst (v := (0 : Int32)) hx hb dX11_would_9 (by decide) ?_
      refine lv_bipush (v := (20 : Int32)) hx hb dX11_would_10 (by decide) ?_
      obtain ⟨r_3, s_3, e_3, hf⟩ := mm_bd_ok hf
      refine mm_callS X hP hS hl.1 [.int x2, .int (0 : Int32), .int (20 : Int32)] [] (cx_X11_in l D ad cA hI x2 (0 : Int32) (20 : Int32) s_1 r_3 s_3 e_3) wd_842 wd_843 wd_12 wd_844 hd_X11_in ⟨Nat.le_of_ble_eq_true rfl, Nat.le_of_ble_eq_true rfl⟩ rfl (Nat.le_of_ble_eq_true rfl) dX11_would_12 (fun H locs hP hS => ?_)
      refine lv_if_eq (tgt := 27) hx hb dX11_would_15 (by decide) (fun c_4 => ?_) (fun c_4 => ?_)
      · replace hf := mm_it c_4 hf
        refine lv_ldc (v := (-1000001 : Int32)) hx hb X.2.2.2.2.2.1 (X.2.2.2.2.2.2.1 _ wd_845) dX11_would_27 ?_
        obtain ⟨rfl, rfl⟩ := mm_ret hf
        exact mm_iret X hP hS dX11_would_29
      · replace hf := mm_if c_4 hf
        refine lv_iload_n hx hb dX11_would_18 rfl (lv_at hl 3 rfl) ?_
        refine lv_iconst (v := (0 : Int32)) hx hb dX11_would_19 (by decide) ?_
        refine lv_iconst (v := (3 : Int32)) hx hb dX11_would_20 (by decide) ?_
        obtain ⟨r_5, s_5, e_5, hf⟩ := mm_bd_ok hf
        refine mm_callS X hP hS hl.1 [.int x3, .int (0 : Int32), .int (3 : Int32)] [] (cx_X11_in l D ad cA hI x3 (0 : Int32) (3 : Int32) s_3 r_5 s_5 e_5) wd_842 wd_843 wd_12 wd_844 hd_X11_in ⟨Nat.le_of_ble_eq_true rfl, Nat.le_of_ble_eq_true rfl⟩ rfl (Nat.le_of_ble_eq_true rfl) dX11_would_21 (fun H locs hP hS => ?_)
        refine lv_if_ne (tgt := 30) hx hb dX11_would_24 (by decide) (fun c_6 => ?_) (fun c_6 => ?_)
        · replace hf := mm_if c_6 hf
          refine lv_aload_n hx hb dX11_would_30 rfl (lv_at hl 0 rfl) ?_
          obtain ⟨r_7, s_7, e_7, hf⟩ := mm_bd_ok hf
          refine mm_callV X hP hS hl.1 [] [] (cx_X11_putsAside l D ad cA hI  s_5 r_7 s_7 e_7) kp_30 rfl rfl wd_1062 wd_1064 wp_57 wd_12 wd_1065 hd_X11_putsAside ⟨Nat.le_of_ble_eq_true rfl, Nat.le_of_ble_eq_true rfl⟩ rfl (Nat.le_of_ble_eq_true rfl) dX11_would_31 (fun H locs hP hS => ?_)
          refine lv_iconst (v := (0 : Int32)) hx hb dX11_would_34 (by decide) ?_
          refine lv_istore (lv' := [(4, .int (0 : Int32)), (0, .ref (ad 10 30 0)), (1, .int x1), (2, .int x2), (3, .int x3)]) hx hb dX11_would_35 hl (by decide) rfl (fun ls hl => ?_)
          exact cx_X11_would_L37 x1 x2 x3 rv σ1 X mm_FU (0 : Int32) s_7 H locs ls hf hP hS (lv_sub hl [1, 2, 3, 4, 0] rfl)
        · replace hf := mm_it c_6 hf
          refine lv_ldc (v := (-1000001 : Int32)) hx hb X.2.2.2.2.2.1 (X.2.2.2.2.2.2.1 _ wd_845) dX11_would_27 ?_
          obtain ⟨rfl, rfl⟩ := mm_ret hf
          exact mm_iret X hP hS dX11_would_29
  exact hgen _ _ hP hS
def fx_X11_difference (x0 : Int32) (x1 : Int32) (σ : mm_M) : mm_R := if x1 ≤ x0 then some (x0 - x1, σ) else some (x1 - x0, σ)
set_option maxHeartbeats 4000000 in
set_option maxRecDepth 100000 in
theorem cx_X11_difference (l : Launch) (D : va_G) (ad : mm_A) (cA : Nat → ClassId) (hI : mm_Inj ad) (x0 : Int32) (x1 : Int32)  (σ : mm_M) (rv : Int32) (σ1 : mm_M) (hf : fx_X11_difference x0 x1 σ = some (rv, σ1)) : Met l yX11_difference (Cond.code yX11_difference cX11_difference 2 (some .int) :: tb) (mm_rm 0 0) (mm_pre D ad cA [.int x0, .int x1] σ) (mm_Q D ad cA (some (.int rv)) σ1) 0 0 (mm_AS ad) := by
  refine mm_start (by decide +kernel) hI (Nat.le_of_ble_eq_true rfl) ?_
  intro p e s m args below meth c X hP ls hl
  have hl : lv_has ls 2 [(0, .int x0), (1, .int x1)] := hl
  have hx := X.1
  have hb := X.2.1
  have hS : va_S (mm_AS ad) s.heap s.heap [] := va_S.rf
  have hgen : ∀ (H : Heap) (locs : List Loc), va_P D vwCl (mm_wd ad cA σ) H → va_S (mm_AS ad) s.heap H locs → W p l e (mm_rm 0 0) s m args below meth c H locs 0 0 (MQ below (mm_Q D ad cA (some (.int rv)) σ1) args s 0 0 (mm_AS ad)) (F0 m 0 ls []) := by
    intro H locs hP hS
    rw [fx_X11_difference] at hf
    refine lv_iload_n hx hb dX11_difference_0 rfl (lv_at hl 0 rfl) ?_
    refine lv_iload_n hx hb dX11_difference_1 rfl (lv_at hl 1 rfl) ?_
    refine lv_icmp_ge (tgt := 11) hx hb dX11_difference_2 (by decide) (fun c_1 => ?_) (fun c_1 => ?_)
    · replace hf := mm_it c_1 hf
      refine lv_iload_n hx hb dX11_difference_11 rfl (lv_at hl 0 rfl) ?_
      refine lv_iload_n hx hb dX11_difference_12 rfl (lv_at hl 1 rfl) ?_
      refine lv_isub hx hb dX11_difference_13 ?_
      obtain ⟨rfl, rfl⟩ := mm_ret hf
      exact mm_iret X hP hS dX11_difference_14
    · replace hf := mm_if c_1 hf
      refine lv_iload_n hx hb dX11_difference_5 rfl (lv_at hl 1 rfl) ?_
      refine lv_iload_n hx hb dX11_difference_6 rfl (lv_at hl 0 rfl) ?_
      refine lv_isub hx hb dX11_difference_7 ?_
      refine lv_goto (tgt := 14) hx hb dX11_difference_8 (by decide) ?_
      obtain ⟨rfl, rfl⟩ := mm_ret hf
      exact mm_iret X hP hS dX11_difference_14
  exact hgen _ _ hP hS
def fx_X11_far (x0 : Int32) (x1 : Int32) (σ : mm_M) : mm_R := mm_bd (fx_X11_difference (x0 - x0 / (8 : Int32) * (8 : Int32)) (x1 - x1 / (8 : Int32) * (8 : Int32)) σ) fun r_1 s_1 => (mm_bd (fx_X11_difference (x0 / (8 : Int32)) (x1 / (8 : Int32)) s_1) fun r_2 s_2 => (some (r_1 + r_2, s_2)))
set_option maxHeartbeats 4000000 in
set_option maxRecDepth 100000 in
theorem cx_X11_far (l : Launch) (D : va_G) (ad : mm_A) (cA : Nat → ClassId) (hI : mm_Inj ad) (x0 : Int32) (x1 : Int32)  (σ : mm_M) (rv : Int32) (σ1 : mm_M) (hf : fx_X11_far x0 x1 σ = some (rv, σ1)) : Met l yX11_far (Cond.code yX11_far cX11_far 2 (some .int) :: tb) (mm_rm 1 21) (mm_pre D ad cA [.int x0, .int x1] σ) (mm_Q D ad cA (some (.int rv)) σ1) 0 0 (mm_AS ad) := by
  refine mm_start (by decide +kernel) hI (Nat.le_of_ble_eq_true rfl) ?_
  intro p e s m args below meth c X hP ls hl
  have hl : lv_has ls 2 [(0, .int x0), (1, .int x1)] := hl
  have hx := X.1
  have hb := X.2.1
  have hS : va_S (mm_AS ad) s.heap s.heap [] := va_S.rf
  have hgen : ∀ (H : Heap) (locs : List Loc), va_P D vwCl (mm_wd ad cA σ) H → va_S (mm_AS ad) s.heap H locs → W p l e (mm_rm 1 21) s m args below meth c H locs 0 0 (MQ below (mm_Q D ad cA (some (.int rv)) σ1) args s 0 0 (mm_AS ad)) (F0 m 0 ls []) := by
    intro H locs hP hS
    rw [fx_X11_far] at hf
    refine lv_iload_n hx hb dX11_far_0 rfl (lv_at hl 0 rfl) ?_
    refine lv_bipush (v := (8 : Int32)) hx hb dX11_far_1 (by decide) ?_
    refine lv_irem hx hb dX11_far_3 (by decide) ?_
    refine lv_iload_n hx hb dX11_far_4 rfl (lv_at hl 1 rfl) ?_
    refine lv_bipush (v := (8 : Int32)) hx hb dX11_far_5 (by decide) ?_
    refine lv_irem hx hb dX11_far_7 (by decide) ?_
    obtain ⟨r_1, s_1, e_1, hf⟩ := mm_bd_ok hf
    refine mm_callS X hP hS hl.1 [.int (x0 - x0 / (8 : Int32) * (8 : Int32)), .int (x1 - x1 / (8 : Int32) * (8 : Int32))] [] (cx_X11_difference l D ad cA hI (x0 - x0 / (8 : Int32) * (8 : Int32)) (x1 - x1 / (8 : Int32) * (8 : Int32)) σ r_1 s_1 e_1) wd_1082 wd_1083 wd_12 wd_1084 hd_X11_difference ⟨Nat.le_of_ble_eq_true rfl, Nat.le_of_ble_eq_true rfl⟩ rfl (Nat.le_of_ble_eq_true rfl) dX11_far_8 (fun H locs hP hS => ?_)
    refine lv_iload_n hx hb dX11_far_11 rfl (lv_at hl 0 rfl) ?_
    refine lv_bipush (v := (8 : Int32)) hx hb dX11_far_12 (by decide) ?_
    refine lv_idiv hx hb dX11_far_14 (by decide) ?_
    refine lv_iload_n hx hb dX11_far_15 rfl (lv_at hl 1 rfl) ?_
    refine lv_bipush (v := (8 : Int32)) hx hb dX11_far_16 (by decide) ?_
    refine lv_idiv hx hb dX11_far_18 (by decide) ?_
    obtain ⟨r_2, s_2, e_2, hf⟩ := mm_bd_ok hf
    refine mm_callS X hP hS hl.1 [.int (x0 / (8 : Int32)), .int (x1 / (8 : Int32))] [.int r_1] (cx_X11_difference l D ad cA hI (x0 / (8 : Int32)) (x1 / (8 : Int32)) s_1 r_2 s_2 e_2) wd_1082 wd_1083 wd_12 wd_1084 hd_X11_difference ⟨Nat.le_of_ble_eq_true rfl, Nat.le_of_ble_eq_true rfl⟩ rfl (Nat.le_of_ble_eq_true rfl) dX11_far_19 (fun H locs hP hS => ?_)
    refine lv_iadd hx hb dX11_far_22 ?_
    obtain ⟨rfl, rfl⟩ := mm_ret hf
    exact mm_iret X hP hS dX11_far_23
  exact hgen _ _ hP hS
def fx_X11_farBy_J76 (x1 : Int32) (x2 : Int32) (x3 : Int32) (x4 : Int32)  (w0 : Int32) (σ : mm_M) : mm_R := mm_bd (fx_X11_takesBack  σ) fun _ s_10 => (some (w0, s_10))
set_option maxHeartbeats 4000000 in
set_option maxRecDepth 100000 in
theorem cx_X11_farBy_J76 {p : Program} {l : Launch} {e : Env} {s : State} {m : MethodId} {args : Array Value} {below : List Frame} {meth : Method} {c : Code} {D : va_G} {ad : mm_A} {cA : Nat → ClassId} (x1 : Int32) (x2 : Int32) (x3 : Int32) (x4 : Int32)  (rv : Int32) (σ1 : mm_M)  (X : mm_X p s m args meth c cX11_farBy 9 (some .int) RX11 D ad cA) : ∀ (w0 : Int32) (σ : mm_M) (H : Heap) (locs : List Loc) (ls : Array Slot), fx_X11_farBy_J76 x1 x2 x3 x4 w0 σ = some (rv, σ1) → va_P D vwCl (mm_wd ad cA σ) H → va_S (mm_AS ad) s.heap H locs → lv_has ls 9 [(0, .ref (ad 10 30 0))] → W p l e (mm_rm 8 178) s m args below meth c H locs 0 0 (MQ below (mm_Q D ad cA (some (.int rv)) σ1) args s 0 0 (mm_AS ad)) (F0 m 76 ls [.int w0]) := by
  have hx := X.1
  have hb := X.2.1
  have hI := X.2.2.2.2.2.2.2.2.2
  intro w0 σ H locs ls hf hP hS hl
  rw [fx_X11_farBy_J76] at hf
  refine lv_istore (lv' := [(8, .int w0), (0, .ref (ad 10 30 0))]) hx hb dX11_farBy_76 hl (by decide) rfl (fun ls hl => ?_)
  refine lv_aload_n hx hb dX11_farBy_78 rfl (lv_at hl 1 rfl) ?_
  obtain ⟨r_10, s_10, e_10, hf⟩ := mm_bd_ok hf
  refine mm_callV X hP hS hl.1 [] [] (cx_X11_takesBack l D ad cA hI  σ r_10 s_10 e_10) kp_30 rfl rfl wd_1067 wd_1069 wp_58 wd_12 wd_1070 hd_X11_takesBack ⟨Nat.le_of_ble_eq_true rfl, Nat.le_of_ble_eq_true rfl⟩ rfl (Nat.le_of_ble_eq_true rfl) dX11_farBy_79 (fun H locs hP hS => ?_)
  refine lv_iload hx hb dX11_farBy_82 (lv_at hl 0 rfl) ?_
  obtain ⟨rfl, rfl⟩ := mm_ret hf
  exact mm_iret X hP hS dX11_farBy_84
def fx_X11_farBy (x1 : Int32) (x2 : Int32) (x3 : Int32) (x4 : Int32) (σ : mm_M) : mm_R := mm_bd (fx_X11_of x1 (5 : Int32) σ) fun r_1 s_1 => (mm_li (s_1 10 31 0 (1 : Int32).toNatClampNeg) fun y_2 => (mm_bd (fx_X11_lays x1 ((7 : Int32) + ((2 : Int32) * y_2)) x2 s_1) fun _ s_3 => (mm_bd (fx_X11_lays x1 (((7 : Int32) + ((2 : Int32) * y_2)) + (1 : Int32)) x3 s_3) fun _ s_4 => (mm_bd (fx_X11_passes  s_4) fun r_5 s_5 => (mm_bd (fx_X11_of x1 (5 : Int32) s_5) fun r_6 s_6 => (if r_6 ≤ r_1 then mm_bd (fx_X11_of x1 (1 : Int32) s_6) fun r_8 s_8 => (mm_bd (fx_X11_far r_8 x4 s_8) fun r_9 s_9 => (fx_X11_farBy_J76 x1 x2 x3 x4 r_9 s_9)) else fx_X11_farBy_J76 x1 x2 x3 x4 (-1 : Int32) s_6))))))
set_option maxHeartbeats 4000000 in
set_option maxRecDepth 100000 in
theorem cx_X11_farBy (l : Launch) (D : va_G) (ad : mm_A) (cA : Nat → ClassId) (hI : mm_Inj ad) (x1 : Int32) (x2 : Int32) (x3 : Int32) (x4 : Int32)  (σ : mm_M) (rv : Int32) (σ1 : mm_M) (hf : fx_X11_farBy x1 x2 x3 x4 σ = some (rv, σ1)) : Met l yX11_farBy (Cond.code yX11_farBy cX11_farBy 9 (some .int) :: tb) (mm_rm 8 178) (mm_pre D ad cA [.ref (ad 10 30 0), .int x1, .int x2, .int x3, .int x4] σ) (mm_Q D ad cA (some (.int rv)) σ1) 0 0 (mm_AS ad) := by
  refine mm_start (by decide +kernel) hI (Nat.le_of_ble_eq_true rfl) ?_
  intro p e s m args below meth c X hP ls hl
  have hl : lv_has ls 9 [(0, .ref (ad 10 30 0)), (1, .int x1), (2, .int x2), (3, .int x3), (4, .int x4)] := hl
  have hx := X.1
  have hb := X.2.1
  have hS : va_S (mm_AS ad) s.heap s.heap [] := va_S.rf
  have hgen : ∀ (H : Heap) (locs : List Loc), va_P D vwCl (mm_wd ad cA σ) H → va_S (mm_AS ad) s.heap H locs → W p l e (mm_rm 8 178) s m args below meth c H locs 0 0 (MQ below (mm_Q D ad cA (some (.int rv)) σ1) args s 0 0 (mm_AS ad)) (F0 m 0 ls []) := by
    intro H locs hP hS
    rw [fx_X11_farBy] at hf
    refine lv_aload_n hx hb dX11_farBy_0 rfl (lv_at hl 0 rfl) ?_
    refine lv_iload_n hx hb dX11_farBy_1 rfl (lv_at hl 1 rfl) ?_
    refine lv_iconst (v := (5 : Int32)) hx hb dX11_farBy_2 (by decide) ?_
    obtain ⟨r_1, s_1, e_1, hf⟩ := mm_bd_ok hf
    refine mm_callV X hP hS hl.1 [.int x1, .int (5 : Int32)] [] (cx_X11_of l D ad cA hI x1 (5 : Int32) σ r_1 s_1 e_1) kp_30 rfl rfl wd_850 wd_852 wp_19 wd_12 wd_853 hd_X11_of ⟨Nat.le_of_ble_eq_true rfl, Nat.le_of_ble_eq_true rfl⟩ rfl (Nat.le_of_ble_eq_true rfl) dX11_farBy_3 (fun H locs hP hS => ?_)
    refine lv_istore (lv' := [(5, .int r_1), (0, .ref (ad 10 30 0)), (1, .int x1), (2, .int x2), (3, .int x3), (4, .int x4)]) hx hb dX11_farBy_6 hl (by decide) rfl (fun ls hl => ?_)
    refine lv_aload_n hx hb dX11_farBy_8 rfl (lv_at hl 1 rfl) ?_
    refine gf_30_0 X hP  wd_769 dX11_farBy_9 ?_
    refine lv_iconst (v := (1 : Int32)) hx hb dX11_farBy_12 (by decide) ?_
    refine al_31 X hP  (by decide : mm_ix (1 : Int32) 207 = true) dX11_farBy_13 ?_
    obtain ⟨y_2, e_2, hf⟩ := mm_li_ok hf
    rw [← e_2]
    refine lv_istore (lv' := [(6, .int y_2), (5, .int r_1), (0, .ref (ad 10 30 0)), (1, .int x1), (2, .int x2), (3, .int x3), (4, .int x4)]) hx hb dX11_farBy_14 hl (by decide) rfl (fun ls hl => ?_)
    refine lv_aload_n hx hb dX11_farBy_16 rfl (lv_at hl 2 rfl) ?_
    refine lv_iload_n hx hb dX11_farBy_17 rfl (lv_at hl 3 rfl) ?_
    refine lv_bipush (v := (7 : Int32)) hx hb dX11_farBy_18 (by decide) ?_
    refine lv_iconst (v := (2 : Int32)) hx hb dX11_farBy_20 (by decide) ?_
    refine lv_iload hx hb dX11_farBy_21 (lv_at hl 0 rfl) ?_
    refine lv_imul hx hb dX11_farBy_23 ?_
    refine lv_iadd hx hb dX11_farBy_24 ?_
    refine lv_iload_n hx hb dX11_farBy_25 rfl (lv_at hl 4 rfl) ?_
    obtain ⟨r_3, s_3, e_3, hf⟩ := mm_bd_ok hf
    refine mm_callV X hP hS hl.1 [.int x1, .int ((7 : Int32) + ((2 : Int32) * y_2)), .int x2] [] (cx_X11_lays l D ad cA hI x1 ((7 : Int32) + ((2 : Int32) * y_2)) x2 s_1 r_3 s_3 e_3) kp_30 rfl rfl wd_891 wd_893 wp_25 wd_12 wd_894 hd_X11_lays ⟨Nat.le_of_ble_eq_true rfl, Nat.le_of_ble_eq_true rfl⟩ rfl (Nat.le_of_ble_eq_true rfl) dX11_farBy_26 (fun H locs hP hS => ?_)
    refine lv_aload_n hx hb dX11_farBy_29 rfl (lv_at hl 2 rfl) ?_
    refine lv_iload_n hx hb dX11_farBy_30 rfl (lv_at hl 3 rfl) ?_
    refine lv_bipush (v := (7 : Int32)) hx hb dX11_farBy_31 (by decide) ?_
    refine lv_iconst (v := (2 : Int32)) hx hb dX11_farBy_33 (by decide) ?_
    refine lv_iload hx hb dX11_farBy_34 (lv_at hl 0 rfl) ?_
    refine lv_imul hx hb dX11_farBy_36 ?_
    refine lv_iadd hx hb dX11_farBy_37 ?_
    refine lv_iconst (v := (1 : Int32)) hx hb dX11_farBy_38 (by decide) ?_
    refine lv_iadd hx hb dX11_farBy_39 ?_
    refine lv_iload_n hx hb dX11_farBy_40 rfl (lv_at hl 5 rfl) ?_
    obtain ⟨r_4, s_4, e_4, hf⟩ := mm_bd_ok hf
    refine mm_callV X hP hS hl.1 [.int x1, .int (((7 : Int32) + ((2 : Int32) * y_2)) + (1 : Int32)), .int x3] [] (cx_X11_lays l D ad cA hI x1 (((7 : Int32) + ((2 : Int32) * y_2)) + (1 : Int32)) x3 s_3 r_4 s_4 e_4) kp_30 rfl rfl wd_891 wd_893 wp_25 wd_12 wd_894 hd_X11_lays ⟨Nat.le_of_ble_eq_true rfl, Nat.le_of_ble_eq_true rfl⟩ rfl (Nat.le_of_ble_eq_true rfl) dX11_farBy_41 (fun H locs hP hS => ?_)
    refine lv_aload_n hx hb dX11_farBy_44 rfl (lv_at hl 2 rfl) ?_
    obtain ⟨r_5, s_5, e_5, hf⟩ := mm_bd_ok hf
    refine mm_callV X hP hS hl.1 [] [] (cx_X11_passes l D ad cA hI  s_4 r_5 s_5 e_5) kp_30 rfl rfl wd_938 wd_940 wp_33 wd_12 wd_941 hd_X11_passes ⟨Nat.le_of_ble_eq_true rfl, Nat.le_of_ble_eq_true rfl⟩ rfl (Nat.le_of_ble_eq_true rfl) dX11_farBy_45 (fun H locs hP hS => ?_)
    refine lv_istore (lv' := [(7, .int r_5), (6, .int y_2), (5, .int r_1), (0, .ref (ad 10 30 0)), (1, .int x1), (2, .int x2), (3, .int x3), (4, .int x4)]) hx hb dX11_farBy_48 hl (by decide) rfl (fun ls hl => ?_)
    refine lv_aload_n hx hb dX11_farBy_50 rfl (lv_at hl 3 rfl) ?_
    refine lv_iload_n hx hb dX11_farBy_51 rfl (lv_at hl 4 rfl) ?_
    refine lv_iconst (v := (5 : Int32)) hx hb dX11_farBy_52 (by decide) ?_
    obtain ⟨r_6, s_6, e_6, hf⟩ := mm_bd_ok hf
    refine mm_callV X hP hS hl.1 [.int x1, .int (5 : Int32)] [] (cx_X11_of l D ad cA hI x1 (5 : Int32) s_5 r_6 s_6 e_6) kp_30 rfl rfl wd_850 wd_852 wp_19 wd_12 wd_853 hd_X11_of ⟨Nat.le_of_ble_eq_true rfl, Nat.le_of_ble_eq_true rfl⟩ rfl (Nat.le_of_ble_eq_true rfl) dX11_farBy_53 (fun H locs hP hS => ?_)
    refine lv_iload hx hb dX11_farBy_56 (lv_at hl 2 rfl) ?_
    refine lv_icmp_le (tgt := 65) hx hb dX11_farBy_58 (by decide) (fun c_7 => ?_) (fun c_7 => ?_)
    · replace hf := mm_it c_7 hf
      refine lv_aload_n hx hb dX11_farBy_65 rfl (lv_at hl 3 rfl) ?_
      refine lv_iload_n hx hb dX11_farBy_66 rfl (lv_at hl 4 rfl) ?_
      refine lv_iconst (v := (1 : Int32)) hx hb dX11_farBy_67 (by decide) ?_
      obtain ⟨r_8, s_8, e_8, hf⟩ := mm_bd_ok hf
      refine mm_callV X hP hS hl.1 [.int x1, .int (1 : Int32)] [] (cx_X11_of l D ad cA hI x1 (1 : Int32) s_6 r_8 s_8 e_8) kp_30 rfl rfl wd_850 wd_852 wp_19 wd_12 wd_853 hd_X11_of ⟨Nat.le_of_ble_eq_true rfl, Nat.le_of_ble_eq_true rfl⟩ rfl (Nat.le_of_ble_eq_true rfl) dX11_farBy_68 (fun H locs hP hS => ?_)
      refine lv_iload hx hb dX11_farBy_71 (lv_at hl 7 rfl) ?_
      obtain ⟨r_9, s_9, e_9, hf⟩ := mm_bd_ok hf
      refine mm_callS X hP hS hl.1 [.int r_8, .int x4] [] (cx_X11_far l D ad cA hI r_8 x4 s_8 r_9 s_9 e_9) wd_1079 wd_1080 wd_12 wd_1081 hd_X11_far ⟨Nat.le_of_ble_eq_true rfl, Nat.le_of_ble_eq_true rfl⟩ rfl (Nat.le_of_ble_eq_true rfl) dX11_farBy_73 (fun H locs hP hS => ?_)
      exact cx_X11_farBy_J76 x1 x2 x3 x4 rv σ1 X r_9 s_9 H locs ls hf hP hS (lv_sub hl [3] rfl)
    · replace hf := mm_if c_7 hf
      refine lv_iconst (v := (-1 : Int32)) hx hb dX11_farBy_61 (by decide) ?_
      refine lv_goto (tgt := 76) hx hb dX11_farBy_62 (by decide) ?_
      exact cx_X11_farBy_J76 x1 x2 x3 x4 rv σ1 X (-1 : Int32) s_6 H locs ls hf hP hS (lv_sub hl [3] rfl)
  exact hgen _ _ hP hS
def fx_X11_best_J150 (x1 : Int32) (x2 : Int32) (x3 : Int32) (k81 : Int32 → Int32 → Int32 → Int32 → mm_M → mm_R) (v4 : Int32) (v5 : Int32) (v7 : Int32) (w0 : Int32) (σ : mm_M) : mm_R := mm_li (v7 + (1 : Int32)) fun y_23 => (k81 v4 v5 w0 y_23 σ)
set_option maxHeartbeats 4000000 in
set_option maxRecDepth 100000 in
theorem cx_X11_best_J150 {p : Program} {l : Launch} {e : Env} {s : State} {m : MethodId} {args : Array Value} {below : List Frame} {meth : Method} {c : Code} {D : va_G} {ad : mm_A} {cA : Nat → ClassId} (x1 : Int32) (x2 : Int32) (x3 : Int32)  (rv : Int32) (σ1 : mm_M) (k81 : Int32 → Int32 → Int32 → Int32 → mm_M → mm_R) (hk81 : ∀ (v4 : Int32) (v5 : Int32) (v6 : Int32) (v7 : Int32) (σ : mm_M) (H : Heap) (locs : List Loc) (ls : Array Slot), k81 v4 v5 v6 v7 σ = some (rv, σ1) → va_P D vwCl (mm_wd ad cA σ) H → va_S (mm_AS ad) s.heap H locs → lv_has ls 10 [(0, .ref (ad 10 30 0)), (1, .int x1), (2, .int x2), (3, .int x3), (4, .int v4), (5, .int v5), (6, .int v6), (7, .int v7)] → W p l e (mm_rm 9 206) s m args below meth c H locs 0 0 (MQ below (mm_Q D ad cA (some (.int rv)) σ1) args s 0 0 (mm_AS ad)) (F0 m 81 ls [])) (X : mm_X p s m args meth c cX11_best 10 (some .int) RX11 D ad cA) : ∀ (v4 : Int32) (v5 : Int32) (v7 : Int32) (w0 : Int32) (σ : mm_M) (H : Heap) (locs : List Loc) (ls : Array Slot), fx_X11_best_J150 x1 x2 x3 k81 v4 v5 v7 w0 σ = some (rv, σ1) → va_P D vwCl (mm_wd ad cA σ) H → va_S (mm_AS ad) s.heap H locs → lv_has ls 10 [(0, .ref (ad 10 30 0)), (1, .int x1), (2, .int x2), (3, .int x3), (4, .int v4), (5, .int v5), (7, .int v7)] → W p l e (mm_rm 9 206) s m args below meth c H locs 0 0 (MQ below (mm_Q D ad cA (some (.int rv)) σ1) args s 0 0 (mm_AS ad)) (F0 m 150 ls [.int w0]) := by
  have hx := X.1
  have hb := X.2.1
  have hI := X.2.2.2.2.2.2.2.2.2
  intro v4 v5 v7 w0 σ H locs ls hf hP hS hl
  rw [fx_X11_best_J150] at hf
  refine lv_istore (lv' := [(6, .int w0), (0, .ref (ad 10 30 0)), (1, .int x1), (2, .int x2), (3, .int x3), (4, .int v4), (5, .int v5), (7, .int v7)]) hx hb dX11_best_150 hl (by decide) rfl (fun ls hl => ?_)
  obtain ⟨y_23, e_23, hf⟩ := mm_li_ok hf
  refine lv_iinc (v := y_23) (lv' := [(7, .int y_23), (6, .int w0), (0, .ref (ad 10 30 0)), (1, .int x1), (2, .int x2), (3, .int x3), (4, .int v4), (5, .int v5)]) hx hb dX11_best_152 hl (k := 7) rfl (by rw [e_23]; rfl) (by decide) rfl (fun ls hl => ?_)
  refine lv_goto (tgt := 81) hx hb dX11_best_155 (by decide) ?_
  exact hk81 v4 v5 w0 y_23 σ H locs ls  hf hP hS (lv_sub hl [2, 3, 4, 5, 6, 7, 1, 0] rfl)
def fx_X11_best_J136 (x1 : Int32) (x2 : Int32) (x3 : Int32) (k81 : Int32 → Int32 → Int32 → Int32 → mm_M → mm_R) (v4 : Int32) (v6 : Int32) (v7 : Int32) (v8 : Int32) (v9 : Int32) (w0 : Int32) (σ : mm_M) : mm_R := if v9 = (0 : Int32) then fx_X11_best_J150 x1 x2 x3 k81 v4 w0 v7 v6 σ else fx_X11_best_J150 x1 x2 x3 k81 v4 w0 v7 v8 σ
set_option maxHeartbeats 4000000 in
set_option maxRecDepth 100000 in
theorem cx_X11_best_J136 {p : Program} {l : Launch} {e : Env} {s : State} {m : MethodId} {args : Array Value} {below : List Frame} {meth : Method} {c : Code} {D : va_G} {ad : mm_A} {cA : Nat → ClassId} (x1 : Int32) (x2 : Int32) (x3 : Int32)  (rv : Int32) (σ1 : mm_M) (k81 : Int32 → Int32 → Int32 → Int32 → mm_M → mm_R) (hk81 : ∀ (v4 : Int32) (v5 : Int32) (v6 : Int32) (v7 : Int32) (σ : mm_M) (H : Heap) (locs : List Loc) (ls : Array Slot), k81 v4 v5 v6 v7 σ = some (rv, σ1) → va_P D vwCl (mm_wd ad cA σ) H → va_S (mm_AS ad) s.heap H locs → lv_has ls 10 [(0, .ref (ad 10 30 0)), (1, .int x1), (2, .int x2), (3, .int x3), (4, .int v4), (5, .int v5), (6, .int v6), (7, .int v7)] → W p l e (mm_rm 9 206) s m args below meth c H locs 0 0 (MQ below (mm_Q D ad cA (some (.int rv)) σ1) args s 0 0 (mm_AS ad)) (F0 m 81 ls [])) (X : mm_X p s m args meth c cX11_best 10 (some .int) RX11 D ad cA) : ∀ (v4 : Int32) (v6 : Int32) (v7 : Int32) (v8 : Int32) (v9 : Int32) (w0 : Int32) (σ : mm_M) (H : Heap) (locs : List Loc) (ls : Array Slot), fx_X11_best_J136 x1 x2 x3 k81 v4 v6 v7 v8 v9 w0 σ = some (rv, σ1) → va_P D vwCl (mm_wd ad cA σ) H → va_S (mm_AS ad) s.heap H locs → lv_has ls 10 [(0, .ref (ad 10 30 0)), (1, .int x1), (2, .int x2), (3, .int x3), (4, .int v4), (6, .int v6), (7, .int v7), (8, .int v8), (9, .int v9)] → W p l e (mm_rm 9 206) s m args below meth c H locs 0 0 (MQ below (mm_Q D ad cA (some (.int rv)) σ1) args s 0 0 (mm_AS ad)) (F0 m 136 ls [.int w0]) := by
  have hx := X.1
  have hb := X.2.1
  have hI := X.2.2.2.2.2.2.2.2.2
  intro v4 v6 v7 v8 v9 w0 σ H locs ls hf hP hS hl
  rw [fx_X11_best_J136] at hf
  refine lv_istore (lv' := [(5, .int w0), (0, .ref (ad 10 30 0)), (1, .int x1), (2, .int x2), (3, .int x3), (4, .int v4), (6, .int v6), (7, .int v7), (8, .int v8), (9, .int v9)]) hx hb dX11_best_136 hl (by decide) rfl (fun ls hl => ?_)
  refine lv_iload hx hb dX11_best_138 (lv_at hl 9 rfl) ?_
  refine lv_if_eq (tgt := 148) hx hb dX11_best_140 (by decide) (fun c_22 => ?_) (fun c_22 => ?_)
  · replace hf := mm_it c_22 hf
    refine lv_iload hx hb dX11_best_148 (lv_at hl 6 rfl) ?_
    exact cx_X11_best_J150 x1 x2 x3 rv σ1 k81 hk81 X v4 w0 v7 v6 σ H locs ls hf hP hS (lv_sub hl [1, 2, 3, 4, 5, 0, 7] rfl)
  · replace hf := mm_if c_22 hf
    refine lv_iload hx hb dX11_best_143 (lv_at hl 8 rfl) ?_
    refine lv_goto (tgt := 150) hx hb dX11_best_145 (by decide) ?_
    exact cx_X11_best_J150 x1 x2 x3 rv σ1 k81 hk81 X v4 w0 v7 v8 σ H locs ls hf hP hS (lv_sub hl [1, 2, 3, 4, 5, 0, 7] rfl)
def fx_X11_best_J122 (x1 : Int32) (x2 : Int32) (x3 : Int32) (k81 : Int32 → Int32 → Int32 → Int32 → mm_M → mm_R) (v4 : Int32) (v5 : Int32) (v6 : Int32) (v7 : Int32) (v8 : Int32) (w0 : Int32) (σ : mm_M) : mm_R := if w0 = (0 : Int32) then fx_X11_best_J136 x1 x2 x3 k81 v4 v6 v7 v8 w0 v5 σ else fx_X11_best_J136 x1 x2 x3 k81 v4 v6 v7 v8 w0 v7 σ
set_option maxHeartbeats 4000000 in
set_option maxRecDepth 100000 in
theorem cx_X11_best_J122 {p : Program} {l : Launch} {e : Env} {s : State} {m : MethodId} {args : Array Value} {below : List Frame} {meth : Method} {c : Code} {D : va_G} {ad : mm_A} {cA : Nat → ClassId} (x1 : Int32) (x2 : Int32) (x3 : Int32)  (rv : Int32) (σ1 : mm_M) (k81 : Int32 → Int32 → Int32 → Int32 → mm_M → mm_R) (hk81 : ∀ (v4 : Int32) (v5 : Int32) (v6 : Int32) (v7 : Int32) (σ : mm_M) (H : Heap) (locs : List Loc) (ls : Array Slot), k81 v4 v5 v6 v7 σ = some (rv, σ1) → va_P D vwCl (mm_wd ad cA σ) H → va_S (mm_AS ad) s.heap H locs → lv_has ls 10 [(0, .ref (ad 10 30 0)), (1, .int x1), (2, .int x2), (3, .int x3), (4, .int v4), (5, .int v5), (6, .int v6), (7, .int v7)] → W p l e (mm_rm 9 206) s m args below meth c H locs 0 0 (MQ below (mm_Q D ad cA (some (.int rv)) σ1) args s 0 0 (mm_AS ad)) (F0 m 81 ls [])) (X : mm_X p s m args meth c cX11_best 10 (some .int) RX11 D ad cA) : ∀ (v4 : Int32) (v5 : Int32) (v6 : Int32) (v7 : Int32) (v8 : Int32) (w0 : Int32) (σ : mm_M) (H : Heap) (locs : List Loc) (ls : Array Slot), fx_X11_best_J122 x1 x2 x3 k81 v4 v5 v6 v7 v8 w0 σ = some (rv, σ1) → va_P D vwCl (mm_wd ad cA σ) H → va_S (mm_AS ad) s.heap H locs → lv_has ls 10 [(0, .ref (ad 10 30 0)), (1, .int x1), (2, .int x2), (3, .int x3), (4, .int v4), (5, .int v5), (6, .int v6), (7, .int v7), (8, .int v8)] → W p l e (mm_rm 9 206) s m args below meth c H locs 0 0 (MQ below (mm_Q D ad cA (some (.int rv)) σ1) args s 0 0 (mm_AS ad)) (F0 m 122 ls [.int w0]) := by
  have hx := X.1
  have hb := X.2.1
  have hI := X.2.2.2.2.2.2.2.2.2
  intro v4 v5 v6 v7 v8 w0 σ H locs ls hf hP hS hl
  rw [fx_X11_best_J122] at hf
  refine lv_istore (lv' := [(9, .int w0), (0, .ref (ad 10 30 0)), (1, .int x1), (2, .int x2), (3, .int x3), (4, .int v4), (5, .int v5), (6, .int v6), (7, .int v7), (8, .int v8)]) hx hb dX11_best_122 hl (by decide) rfl (fun ls hl => ?_)
  refine lv_iload hx hb dX11_best_124 (lv_at hl 0 rfl) ?_
  refine lv_if_eq (tgt := 134) hx hb dX11_best_126 (by decide) (fun c_21 => ?_) (fun c_21 => ?_)
  · replace hf := mm_it c_21 hf
    refine lv_iload hx hb dX11_best_134 (lv_at hl 6 rfl) ?_
    exact cx_X11_best_J136 x1 x2 x3 rv σ1 k81 hk81 X v4 v6 v7 v8 w0 v5 σ H locs ls hf hP hS (lv_sub hl [1, 2, 3, 4, 5, 7, 8, 9, 0] rfl)
  · replace hf := mm_if c_21 hf
    refine lv_iload hx hb dX11_best_129 (lv_at hl 8 rfl) ?_
    refine lv_goto (tgt := 136) hx hb dX11_best_131 (by decide) ?_
    exact cx_X11_best_J136 x1 x2 x3 rv σ1 k81 hk81 X v4 v6 v7 v8 w0 v7 σ H locs ls hf hP hS (lv_sub hl [1, 2, 3, 4, 5, 7, 8, 9, 0] rfl)
def fx_X11_best_J121 (x1 : Int32) (x2 : Int32) (x3 : Int32) (k81 : Int32 → Int32 → Int32 → Int32 → mm_M → mm_R) (v4 : Int32) (v5 : Int32) (v6 : Int32) (v7 : Int32) (v8 : Int32) (σ : mm_M) : mm_R := fx_X11_best_J122 x1 x2 x3 k81 v4 v5 v6 v7 v8 (0 : Int32) σ
set_option maxHeartbeats 4000000 in
set_option maxRecDepth 100000 in
theorem cx_X11_best_J121 {p : Program} {l : Launch} {e : Env} {s : State} {m : MethodId} {args : Array Value} {below : List Frame} {meth : Method} {c : Code} {D : va_G} {ad : mm_A} {cA : Nat → ClassId} (x1 : Int32) (x2 : Int32) (x3 : Int32)  (rv : Int32) (σ1 : mm_M) (k81 : Int32 → Int32 → Int32 → Int32 → mm_M → mm_R) (hk81 : ∀ (v4 : Int32) (v5 : Int32) (v6 : Int32) (v7 : Int32) (σ : mm_M) (H : Heap) (locs : List Loc) (ls : Array Slot), k81 v4 v5 v6 v7 σ = some (rv, σ1) → va_P D vwCl (mm_wd ad cA σ) H → va_S (mm_AS ad) s.heap H locs → lv_has ls 10 [(0, .ref (ad 10 30 0)), (1, .int x1), (2, .int x2), (3, .int x3), (4, .int v4), (5, .int v5), (6, .int v6), (7, .int v7)] → W p l e (mm_rm 9 206) s m args below meth c H locs 0 0 (MQ below (mm_Q D ad cA (some (.int rv)) σ1) args s 0 0 (mm_AS ad)) (F0 m 81 ls [])) (X : mm_X p s m args meth c cX11_best 10 (some .int) RX11 D ad cA) : ∀ (v4 : Int32) (v5 : Int32) (v6 : Int32) (v7 : Int32) (v8 : Int32) (σ : mm_M) (H : Heap) (locs : List Loc) (ls : Array Slot), fx_X11_best_J121 x1 x2 x3 k81 v4 v5 v6 v7 v8 σ = some (rv, σ1) → va_P D vwCl (mm_wd ad cA σ) H → va_S (mm_AS ad) s.heap H locs → lv_has ls 10 [(0, .ref (ad 10 30 0)), (1, .int x1), (2, .int x2), (3, .int x3), (4, .int v4), (5, .int v5), (6, .int v6), (7, .int v7), (8, .int v8)] → W p l e (mm_rm 9 206) s m args below meth c H locs 0 0 (MQ below (mm_Q D ad cA (some (.int rv)) σ1) args s 0 0 (mm_AS ad)) (F0 m 121 ls []) := by
  have hx := X.1
  have hb := X.2.1
  have hI := X.2.2.2.2.2.2.2.2.2
  intro v4 v5 v6 v7 v8 σ H locs ls hf hP hS hl
  rw [fx_X11_best_J121] at hf
  refine lv_iconst (v := (0 : Int32)) hx hb dX11_best_121 (by decide) ?_
  exact cx_X11_best_J122 x1 x2 x3 rv σ1 k81 hk81 X v4 v5 v6 v7 v8 (0 : Int32) σ H locs ls hf hP hS (lv_sub hl [0, 1, 2, 3, 4, 5, 6, 7, 8] rfl)
def fx_X11_best_L81 (x1 : Int32) (x2 : Int32) (x3 : Int32)  : Nat → Int32 → Int32 → Int32 → Int32 → mm_M → mm_R
  | 0, _, _, _, _, _ => none
  | fu + 1, v4, v5, v6, v7, σ => if (7 : Int32) ≤ v7 then if (0 : Int32) ≤ v5 then if x3 = (0 : Int32) then some (v5, σ) else some (v6, σ) else some ((-1000004 : Int32), σ) else mm_bd (fx_X11_farBy x1 v7 x2 v4 σ) fun r_17 s_17 => (if r_17 < (0 : Int32) then fx_X11_best_J121 x1 x2 x3 (fun z0 z1 z2 z3 z => fx_X11_best_L81 x1 x2 x3 fu z0 z1 z2 z3 z) v4 v5 v6 v7 r_17 s_17 else if v5 < (0 : Int32) then fx_X11_best_J122 x1 x2 x3 (fun z0 z1 z2 z3 z => fx_X11_best_L81 x1 x2 x3 fu z0 z1 z2 z3 z) v4 v5 v6 v7 r_17 (1 : Int32) s_17 else if v6 ≤ r_17 then fx_X11_best_J121 x1 x2 x3 (fun z0 z1 z2 z3 z => fx_X11_best_L81 x1 x2 x3 fu z0 z1 z2 z3 z) v4 v5 v6 v7 r_17 s_17 else fx_X11_best_J122 x1 x2 x3 (fun z0 z1 z2 z3 z => fx_X11_best_L81 x1 x2 x3 fu z0 z1 z2 z3 z) v4 v5 v6 v7 r_17 (1 : Int32) s_17)
set_option maxHeartbeats 4000000 in
set_option maxRecDepth 100000 in
theorem cx_X11_best_L81 {p : Program} {l : Launch} {e : Env} {s : State} {m : MethodId} {args : Array Value} {below : List Frame} {meth : Method} {c : Code} {D : va_G} {ad : mm_A} {cA : Nat → ClassId} (x1 : Int32) (x2 : Int32) (x3 : Int32)  (rv : Int32) (σ1 : mm_M)  (X : mm_X p s m args meth c cX11_best 10 (some .int) RX11 D ad cA) : ∀ (fu : Nat), ∀ (v4 : Int32) (v5 : Int32) (v6 : Int32) (v7 : Int32) (σ : mm_M) (H : Heap) (locs : List Loc) (ls : Array Slot), fx_X11_best_L81 x1 x2 x3 fu v4 v5 v6 v7 σ = some (rv, σ1) → va_P D vwCl (mm_wd ad cA σ) H → va_S (mm_AS ad) s.heap H locs → lv_has ls 10 [(0, .ref (ad 10 30 0)), (1, .int x1), (2, .int x2), (3, .int x3), (4, .int v4), (5, .int v5), (6, .int v6), (7, .int v7)] → W p l e (mm_rm 9 206) s m args below meth c H locs 0 0 (MQ below (mm_Q D ad cA (some (.int rv)) σ1) args s 0 0 (mm_AS ad)) (F0 m 81 ls []) := by
  have hx := X.1
  have hb := X.2.1
  have hI := X.2.2.2.2.2.2.2.2.2
  intro fu
  induction fu with
  | zero =>
    intro v4 v5 v6 v7 σ H locs ls hf
    exact mm_no hf
  | succ fu ih =>
    intro v4 v5 v6 v7 σ H locs ls hf hP hS hl
    rw [fx_X11_best_L81] at hf
    refine lv_iload hx hb dX11_best_81 (lv_at hl 7 rfl) ?_
    refine lv_bipush (v := (7 : Int32)) hx hb dX11_best_83 (by decide) ?_
    refine lv_icmp_ge (tgt := 158) hx hb dX11_best_85 (by decide) (fun c_14 => ?_) (fun c_14 => ?_)
    · replace hf := mm_it c_14 hf
      refine lv_iload hx hb dX11_best_158 (lv_at hl 5 rfl) ?_
      refine lv_if_ge (tgt := 168) hx hb dX11_best_160 (by decide) (fun c_15 => ?_) (fun c_15 => ?_)
      · replace hf := mm_it c_15 hf
        refine lv_iload_n hx hb dX11_best_168 rfl (lv_at hl 3 rfl) ?_
        refine lv_if_ne (tgt := 177) hx hb dX11_best_169 (by decide) (fun c_16 => ?_) (fun c_16 => ?_)
        · replace hf := mm_if c_16 hf
          refine lv_iload hx hb dX11_best_177 (lv_at hl 6 rfl) ?_
          obtain ⟨rfl, rfl⟩ := mm_ret hf
          exact mm_iret X hP hS dX11_best_179
        · replace hf := mm_it c_16 hf
          refine lv_iload hx hb dX11_best_172 (lv_at hl 5 rfl) ?_
          refine lv_goto (tgt := 179) hx hb dX11_best_174 (by decide) ?_
          obtain ⟨rfl, rfl⟩ := mm_ret hf
          exact mm_iret X hP hS dX11_best_179
      · replace hf := mm_if c_15 hf
        refine lv_ldc (v := (-1000004 : Int32)) hx hb X.2.2.2.2.2.1 (X.2.2.2.2.2.2.1 _ wd_1037) dX11_best_163 ?_
        refine lv_goto (tgt := 179) hx hb dX11_best_165 (by decide) ?_
        obtain ⟨rfl, rfl⟩ := mm_ret hf
        exact mm_iret X hP hS dX11_best_179
    · replace hf := mm_if c_14 hf
      refine lv_aload_n hx hb dX11_best_88 rfl (lv_at hl 0 rfl) ?_
      refine lv_iload_n hx hb dX11_best_89 rfl (lv_at hl 1 rfl) ?_
      refine lv_iload hx hb dX11_best_90 (lv_at hl 7 rfl) ?_
      refine lv_iload_n hx hb dX11_best_92 rfl (lv_at hl 2 rfl) ?_
      refine lv_iload hx hb dX11_best_93 (lv_at hl 4 rfl) ?_
      obtain ⟨r_17, s_17, e_17, hf⟩ := mm_bd_ok hf
      refine mm_callV X hP hS hl.1 [.int x1, .int v7, .int x2, .int v4] [] (cx_X11_farBy l D ad cA hI x1 v7 x2 v4 σ r_17 s_17 e_17) kp_30 rfl rfl wd_1075 wd_1077 wp_59 wd_12 wd_1078 hd_X11_farBy ⟨Nat.le_of_ble_eq_true rfl, Nat.le_of_ble_eq_true rfl⟩ rfl (Nat.le_of_ble_eq_true rfl) dX11_best_95 (fun H locs hP hS => ?_)
      refine lv_istore (lv' := [(8, .int r_17), (0, .ref (ad 10 30 0)), (1, .int x1), (2, .int x2), (3, .int x3), (4, .int v4), (5, .int v5), (6, .int v6), (7, .int v7)]) hx hb dX11_best_98 hl (by decide) rfl (fun ls hl => ?_)
      refine lv_iload hx hb dX11_best_100 (lv_at hl 0 rfl) ?_
      refine lv_if_lt (tgt := 121) hx hb dX11_best_102 (by decide) (fun c_18 => ?_) (fun c_18 => ?_)
      · replace hf := mm_it c_18 hf
        exact cx_X11_best_J121 x1 x2 x3 rv σ1 (fun z0 z1 z2 z3 z => fx_X11_best_L81 x1 x2 x3 fu z0 z1 z2 z3 z) ih X v4 v5 v6 v7 r_17 s_17 H locs ls hf hP hS (lv_sub hl [1, 2, 3, 4, 5, 6, 7, 8, 0] rfl)
      · replace hf := mm_if c_18 hf
        refine lv_iload hx hb dX11_best_105 (lv_at hl 6 rfl) ?_
        refine lv_if_lt (tgt := 117) hx hb dX11_best_107 (by decide) (fun c_19 => ?_) (fun c_19 => ?_)
        · replace hf := mm_it c_19 hf
          refine lv_iconst (v := (1 : Int32)) hx hb dX11_best_117 (by decide) ?_
          refine lv_goto (tgt := 122) hx hb dX11_best_118 (by decide) ?_
          exact cx_X11_best_J122 x1 x2 x3 rv σ1 (fun z0 z1 z2 z3 z => fx_X11_best_L81 x1 x2 x3 fu z0 z1 z2 z3 z) ih X v4 v5 v6 v7 r_17 (1 : Int32) s_17 H locs ls hf hP hS (lv_sub hl [1, 2, 3, 4, 5, 6, 7, 8, 0] rfl)
        · replace hf := mm_if c_19 hf
          refine lv_iload hx hb dX11_best_110 (lv_at hl 0 rfl) ?_
          refine lv_iload hx hb dX11_best_112 (lv_at hl 7 rfl) ?_
          refine lv_icmp_ge (tgt := 121) hx hb dX11_best_114 (by decide) (fun c_20 => ?_) (fun c_20 => ?_)
          · replace hf := mm_it c_20 hf
            exact cx_X11_best_J121 x1 x2 x3 rv σ1 (fun z0 z1 z2 z3 z => fx_X11_best_L81 x1 x2 x3 fu z0 z1 z2 z3 z) ih X v4 v5 v6 v7 r_17 s_17 H locs ls hf hP hS (lv_sub hl [1, 2, 3, 4, 5, 6, 7, 8, 0] rfl)
          · replace hf := mm_if c_20 hf
            refine lv_iconst (v := (1 : Int32)) hx hb dX11_best_117 (by decide) ?_
            refine lv_goto (tgt := 122) hx hb dX11_best_118 (by decide) ?_
            exact cx_X11_best_J122 x1 x2 x3 rv σ1 (fun z0 z1 z2 z3 z => fx_X11_best_L81 x1 x2 x3 fu z0 z1 z2 z3 z) ih X v4 v5 v6 v7 r_17 (1 : Int32) s_17 H locs ls hf hP hS (lv_sub hl [1, 2, 3, 4, 5, 6, 7, 8, 0] rfl)
def fx_X11_best (x1 : Int32) (x2 : Int32) (x3 : Int32) (σ : mm_M) : mm_R := mm_bd (fx_X11_isCart x1 σ) fun r_1 s_1 => (if r_1 = (0 : Int32) then some ((-1000001 : Int32), s_1) else mm_bd (fx_X11_in x2 (1 : Int32) (999 : Int32) s_1) fun r_3 s_3 => (if r_3 = (0 : Int32) then some ((-1000001 : Int32), s_3) else mm_bd (fx_X11_in x3 (0 : Int32) (1 : Int32) s_3) fun r_5 s_5 => (if r_5 = (0 : Int32) then some ((-1000001 : Int32), s_5) else mm_bd (fx_X11_nextFlag x1 s_5) fun r_7 s_7 => (mm_bd (fx_X11_isOut x1 s_7) fun r_8 s_8 => (if r_8 = (0 : Int32) then mm_bd (fx_X11_isLocked x1 (s_8 10 31 0 (1 : Int32).toNatClampNeg) s_8) fun r_10 s_10 => (if r_10 = (0 : Int32) then if (0 : Int32) ≤ r_7 then mm_bd (fx_X11_putsAside  s_10) fun _ s_13 => (fx_X11_best_L81 x1 x2 x3 mm_FU r_7 (-1 : Int32) (0 : Int32) (0 : Int32) s_13) else some ((-1000002 : Int32), s_10) else some ((-1000002 : Int32), s_10)) else some ((-1000002 : Int32), s_8))))))
set_option maxHeartbeats 4000000 in
set_option maxRecDepth 100000 in
theorem cx_X11_best (l : Launch) (D : va_G) (ad : mm_A) (cA : Nat → ClassId) (hI : mm_Inj ad) (x1 : Int32) (x2 : Int32) (x3 : Int32)  (σ : mm_M) (rv : Int32) (σ1 : mm_M) (hf : fx_X11_best x1 x2 x3 σ = some (rv, σ1)) : Met l yX11_best (Cond.code yX11_best cX11_best 10 (some .int) :: tb) (mm_rm 9 206) (mm_pre D ad cA [.ref (ad 10 30 0), .int x1, .int x2, .int x3] σ) (mm_Q D ad cA (some (.int rv)) σ1) 0 0 (mm_AS ad) := by
  refine mm_start (by decide +kernel) hI (Nat.le_of_ble_eq_true rfl) ?_
  intro p e s m args below meth c X hP ls hl
  have hl : lv_has ls 10 [(0, .ref (ad 10 30 0)), (1, .int x1), (2, .int x2), (3, .int x3)] := hl
  have hx := X.1
  have hb := X.2.1
  have hS : va_S (mm_AS ad) s.heap s.heap [] := va_S.rf
  have hgen : ∀ (H : Heap) (locs : List Loc), va_P D vwCl (mm_wd ad cA σ) H → va_S (mm_AS ad) s.heap H locs → W p l e (mm_rm 9 206) s m args below meth c H locs 0 0 (MQ below (mm_Q D ad cA (some (.int rv)) σ1) args s 0 0 (mm_AS ad)) (F0 m 0 ls []) := by
    intro H locs hP hS
    rw [fx_X11_best] at hf
    refine lv_aload_n hx hb dX11_best_0 rfl (lv_at hl 0 rfl) ?_
    refine lv_iload_n hx hb dX11_best_1 rfl (lv_at hl 1 rfl) ?_
    obtain ⟨r_1, s_1, e_1, hf⟩ := mm_bd_ok hf
    refine mm_callV X hP hS hl.1 [.int x1] [] (cx_X11_isCart l D ad cA hI x1 σ r_1 s_1 e_1) kp_30 rfl rfl wd_903 wd_905 wp_27 wd_12 wd_906 hd_X11_isCart ⟨Nat.le_of_ble_eq_true rfl, Nat.le_of_ble_eq_true rfl⟩ rfl (Nat.le_of_ble_eq_true rfl) dX11_best_2 (fun H locs hP hS => ?_)
    refine lv_if_eq (tgt := 28) hx hb dX11_best_5 (by decide) (fun c_2 => ?_) (fun c_2 => ?_)
    · replace hf := mm_it c_2 hf
      refine lv_ldc (v := (-1000001 : Int32)) hx hb X.2.2.2.2.2.1 (X.2.2.2.2.2.2.1 _ wd_845) dX11_best_28 ?_
      obtain ⟨rfl, rfl⟩ := mm_ret hf
      exact mm_iret X hP hS dX11_best_30
    · replace hf := mm_if c_2 hf
      refine lv_iload_n hx hb dX11_best_8 rfl (lv_at hl 2 rfl) ?_
      refine lv_iconst (v := (1 : Int32)) hx hb dX11_best_9 (by decide) ?_
      refine lv_sipush (v := (999 : Int32)) hx hb dX11_best_10 (by decide) ?_
      obtain ⟨r_3, s_3, e_3, hf⟩ := mm_bd_ok hf
      refine mm_callS X hP hS hl.1 [.int x2, .int (1 : Int32), .int (999 : Int32)] [] (cx_X11_in l D ad cA hI x2 (1 : Int32) (999 : Int32) s_1 r_3 s_3 e_3) wd_842 wd_843 wd_12 wd_844 hd_X11_in ⟨Nat.le_of_ble_eq_true rfl, Nat.le_of_ble_eq_true rfl⟩ rfl (Nat.le_of_ble_eq_true rfl) dX11_best_13 (fun H locs hP hS => ?_)
      refine lv_if_eq (tgt := 28) hx hb dX11_best_16 (by decide) (fun c_4 => ?_) (fun c_4 => ?_)
      · replace hf := mm_it c_4 hf
        refine lv_ldc (v := (-1000001 : Int32)) hx hb X.2.2.2.2.2.1 (X.2.2.2.2.2.2.1 _ wd_845) dX11_best_28 ?_
        obtain ⟨rfl, rfl⟩ := mm_ret hf
        exact mm_iret X hP hS dX11_best_30
      · replace hf := mm_if c_4 hf
        refine lv_iload_n hx hb dX11_best_19 rfl (lv_at hl 3 rfl) ?_
        refine lv_iconst (v := (0 : Int32)) hx hb dX11_best_20 (by decide) ?_
        refine lv_iconst (v := (1 : Int32)) hx hb dX11_best_21 (by decide) ?_
        obtain ⟨r_5, s_5, e_5, hf⟩ := mm_bd_ok hf
        refine mm_callS X hP hS hl.1 [.int x3, .int (0 : Int32), .int (1 : Int32)] [] (cx_X11_in l D ad cA hI x3 (0 : Int32) (1 : Int32) s_3 r_5 s_5 e_5) wd_842 wd_843 wd_12 wd_844 hd_X11_in ⟨Nat.le_of_ble_eq_true rfl, Nat.le_of_ble_eq_true rfl⟩ rfl (Nat.le_of_ble_eq_true rfl) dX11_best_22 (fun H locs hP hS => ?_)
        refine lv_if_ne (tgt := 31) hx hb dX11_best_25 (by decide) (fun c_6 => ?_) (fun c_6 => ?_)
        · replace hf := mm_if c_6 hf
          refine lv_aload_n hx hb dX11_best_31 rfl (lv_at hl 0 rfl) ?_
          refine lv_iload_n hx hb dX11_best_32 rfl (lv_at hl 1 rfl) ?_
          obtain ⟨r_7, s_7, e_7, hf⟩ := mm_bd_ok hf
          refine mm_callV X hP hS hl.1 [.int x1] [] (cx_X11_nextFlag l D ad cA hI x1 s_5 r_7 s_7 e_7) kp_30 rfl rfl wd_1010 wd_1012 wp_51 wd_12 wd_1013 hd_X11_nextFlag ⟨Nat.le_of_ble_eq_true rfl, Nat.le_of_ble_eq_true rfl⟩ rfl (Nat.le_of_ble_eq_true rfl) dX11_best_33 (fun H locs hP hS => ?_)
          refine lv_istore (lv' := [(4, .int r_7), (0, .ref (ad 10 30 0)), (1, .int x1), (2, .int x2), (3, .int x3)]) hx hb dX11_best_36 hl (by decide) rfl (fun ls hl => ?_)
          refine lv_aload_n hx hb dX11_best_38 rfl (lv_at hl 1 rfl) ?_
          refine lv_iload_n hx hb dX11_best_39 rfl (lv_at hl 2 rfl) ?_
          obtain ⟨r_8, s_8, e_8, hf⟩ := mm_bd_ok hf
          refine mm_callV X hP hS hl.1 [.int x1] [] (cx_X11_isOut l D ad cA hI x1 s_7 r_8 s_8 e_8) kp_30 rfl rfl wd_907 wd_909 wp_28 wd_12 wd_910 hd_X11_isOut ⟨Nat.le_of_ble_eq_true rfl, Nat.le_of_ble_eq_true rfl⟩ rfl (Nat.le_of_ble_eq_true rfl) dX11_best_40 (fun H locs hP hS => ?_)
          refine lv_if_ne (tgt := 65) hx hb dX11_best_43 (by decide) (fun c_9 => ?_) (fun c_9 => ?_)
          · replace hf := mm_if c_9 hf
            refine lv_ldc (v := (-1000002 : Int32)) hx hb X.2.2.2.2.2.1 (X.2.2.2.2.2.2.1 _ wd_854) dX11_best_65 ?_
            obtain ⟨rfl, rfl⟩ := mm_ret hf
            exact mm_iret X hP hS dX11_best_67
          · replace hf := mm_it c_9 hf
            refine lv_aload_n hx hb dX11_best_46 rfl (lv_at hl 1 rfl) ?_
            refine lv_iload_n hx hb dX11_best_47 rfl (lv_at hl 2 rfl) ?_
            refine lv_aload_n hx hb dX11_best_48 rfl (lv_at hl 1 rfl) ?_
            refine gf_30_0 X hP  wd_769 dX11_best_49 ?_
            refine lv_iconst (v := (1 : Int32)) hx hb dX11_best_52 (by decide) ?_
            refine al_31 X hP  (by decide : mm_ix (1 : Int32) 207 = true) dX11_best_53 ?_
            obtain ⟨r_10, s_10, e_10, hf⟩ := mm_bd_ok hf
            refine mm_callV X hP hS hl.1 [.int x1, .int (s_8 10 31 0 (1 : Int32).toNatClampNeg)] [] (cx_X11_isLocked l D ad cA hI x1 (s_8 10 31 0 (1 : Int32).toNatClampNeg) s_8 r_10 s_10 e_10) kp_30 rfl rfl wd_911 wd_913 wp_29 wd_12 wd_914 hd_X11_isLocked ⟨Nat.le_of_ble_eq_true rfl, Nat.le_of_ble_eq_true rfl⟩ rfl (Nat.le_of_ble_eq_true rfl) dX11_best_54 (fun H locs hP hS => ?_)
            refine lv_if_ne (tgt := 65) hx hb dX11_best_57 (by decide) (fun c_11 => ?_) (fun c_11 => ?_)
            · replace hf := mm_if c_11 hf
              refine lv_ldc (v := (-1000002 : Int32)) hx hb X.2.2.2.2.2.1 (X.2.2.2.2.2.2.1 _ wd_854) dX11_best_65 ?_
              obtain ⟨rfl, rfl⟩ := mm_ret hf
              exact mm_iret X hP hS dX11_best_67
            · replace hf := mm_it c_11 hf
              refine lv_iload hx hb dX11_best_60 (lv_at hl 0 rfl) ?_
              refine lv_if_ge (tgt := 68) hx hb dX11_best_62 (by decide) (fun c_12 => ?_) (fun c_12 => ?_)
              · replace hf := mm_it c_12 hf
                refine lv_aload_n hx hb dX11_best_68 rfl (lv_at hl 1 rfl) ?_
                obtain ⟨r_13, s_13, e_13, hf⟩ := mm_bd_ok hf
                refine mm_callV X hP hS hl.1 [] [] (cx_X11_putsAside l D ad cA hI  s_10 r_13 s_13 e_13) kp_30 rfl rfl wd_1062 wd_1064 wp_57 wd_12 wd_1065 hd_X11_putsAside ⟨Nat.le_of_ble_eq_true rfl, Nat.le_of_ble_eq_true rfl⟩ rfl (Nat.le_of_ble_eq_true rfl) dX11_best_69 (fun H locs hP hS => ?_)
                refine lv_iconst (v := (-1 : Int32)) hx hb dX11_best_72 (by decide) ?_
                refine lv_istore (lv' := [(5, .int (-1 : Int32)), (4, .int r_7), (0, .ref (ad 10 30 0)), (1, .int x1), (2, .int x2), (3, .int x3)]) hx hb dX11_best_73 hl (by decide) rfl (fun ls hl => ?_)
                refine lv_iconst (v := (0 : Int32)) hx hb dX11_best_75 (by decide) ?_
                refine lv_istore (lv' := [(6, .int (0 : Int32)), (5, .int (-1 : Int32)), (4, .int r_7), (0, .ref (ad 10 30 0)), (1, .int x1), (2, .int x2), (3, .int x3)]) hx hb dX11_best_76 hl (by decide) rfl (fun ls hl => ?_)
                refine lv_iconst (v := (0 : Int32)) hx hb dX11_best_78 (by decide) ?_
                refine lv_istore (lv' := [(7, .int (0 : Int32)), (6, .int (0 : Int32)), (5, .int (-1 : Int32)), (4, .int r_7), (0, .ref (ad 10 30 0)), (1, .int x1), (2, .int x2), (3, .int x3)]) hx hb dX11_best_79 hl (by decide) rfl (fun ls hl => ?_)
                exact cx_X11_best_L81 x1 x2 x3 rv σ1 X mm_FU r_7 (-1 : Int32) (0 : Int32) (0 : Int32) s_13 H locs ls hf hP hS (lv_sub hl [4, 5, 6, 7, 3, 2, 1, 0] rfl)
              · replace hf := mm_if c_12 hf
                refine lv_ldc (v := (-1000002 : Int32)) hx hb X.2.2.2.2.2.1 (X.2.2.2.2.2.2.1 _ wd_854) dX11_best_65 ?_
                obtain ⟨rfl, rfl⟩ := mm_ret hf
                exact mm_iret X hP hS dX11_best_67
        · replace hf := mm_it c_6 hf
          refine lv_ldc (v := (-1000001 : Int32)) hx hb X.2.2.2.2.2.1 (X.2.2.2.2.2.2.1 _ wd_845) dX11_best_28 ?_
          obtain ⟨rfl, rfl⟩ := mm_ret hf
          exact mm_iret X hP hS dX11_best_30
  exact hgen _ _ hP hS
def fx_X11_spreads_J49 (x1 : Int32) (k4 : Int32 → Int32 → mm_M → mm_R) (k13 : Int32 → Int32 → Int32 → mm_M → mm_R) (v2 : Int32) (v3 : Int32) (v4 : Int32) (w0 : Int32) (σ : mm_M) : mm_R := if w0 < (0 : Int32) then mm_li (v4 + (1 : Int32)) fun y_12 => (k13 v2 v3 y_12 σ) else mm_gd (mm_ix ((11 : Int32) + w0) 207 = true) (if (σ 10 31 0 ((11 : Int32) + w0).toNatClampNeg) = (7 : Int32) then mm_li (v4 + (1 : Int32)) fun y_15 => (k13 v2 v3 y_15 σ) else mm_gd (mm_ix w0 64 = true) (if (0 : Int32) ≤ (σ 10 40 0 w0.toNatClampNeg) then mm_li (v4 + (1 : Int32)) fun y_18 => (k13 v2 v3 y_18 σ) else mm_gd (mm_ix w0 64 = true) (mm_lt (mm_u σ 10 40 0 w0.toNatClampNeg (x1 + (1 : Int32))) fun s_20 => (mm_li (v4 + (1 : Int32)) fun y_21 => (k13 (1 : Int32) v3 y_21 s_20)))))
set_option maxHeartbeats 4000000 in
set_option maxRecDepth 100000 in
theorem cx_X11_spreads_J49 {p : Program} {l : Launch} {e : Env} {s : State} {m : MethodId} {args : Array Value} {below : List Frame} {meth : Method} {c : Code} {D : va_G} {ad : mm_A} {cA : Nat → ClassId} (x1 : Int32)  (rv : Int32) (σ1 : mm_M) (k4 : Int32 → Int32 → mm_M → mm_R) (hk4 : ∀ (v2 : Int32) (v3 : Int32) (σ : mm_M) (H : Heap) (locs : List Loc) (ls : Array Slot), k4 v2 v3 σ = some (rv, σ1) → va_P D vwCl (mm_wd ad cA σ) H → va_S (mm_AS ad) s.heap H locs → lv_has ls 6 [(0, .ref (ad 10 30 0)), (1, .int x1), (2, .int v2), (3, .int v3)] → W p l e (mm_rm 2 45) s m args below meth c H locs 0 0 (MQ below (mm_Q D ad cA (some (.int rv)) σ1) args s 0 0 (mm_AS ad)) (F0 m 4 ls [])) (k13 : Int32 → Int32 → Int32 → mm_M → mm_R) (hk13 : ∀ (v2 : Int32) (v3 : Int32) (v4 : Int32) (σ : mm_M) (H : Heap) (locs : List Loc) (ls : Array Slot), k13 v2 v3 v4 σ = some (rv, σ1) → va_P D vwCl (mm_wd ad cA σ) H → va_S (mm_AS ad) s.heap H locs → lv_has ls 6 [(0, .ref (ad 10 30 0)), (1, .int x1), (2, .int v2), (3, .int v3), (4, .int v4)] → W p l e (mm_rm 2 45) s m args below meth c H locs 0 0 (MQ below (mm_Q D ad cA (some (.int rv)) σ1) args s 0 0 (mm_AS ad)) (F0 m 13 ls [])) (X : mm_X p s m args meth c cX11_spreads 6 (some .boolean) RX11 D ad cA) : ∀ (v2 : Int32) (v3 : Int32) (v4 : Int32) (w0 : Int32) (σ : mm_M) (H : Heap) (locs : List Loc) (ls : Array Slot), fx_X11_spreads_J49 x1 k4 k13 v2 v3 v4 w0 σ = some (rv, σ1) → va_P D vwCl (mm_wd ad cA σ) H → va_S (mm_AS ad) s.heap H locs → lv_has ls 6 [(0, .ref (ad 10 30 0)), (1, .int x1), (2, .int v2), (3, .int v3), (4, .int v4)] → W p l e (mm_rm 2 45) s m args below meth c H locs 0 0 (MQ below (mm_Q D ad cA (some (.int rv)) σ1) args s 0 0 (mm_AS ad)) (F0 m 49 ls [.int w0]) := by
  have hx := X.1
  have hb := X.2.1
  have hI := X.2.2.2.2.2.2.2.2.2
  intro v2 v3 v4 w0 σ H locs ls hf hP hS hl
  rw [fx_X11_spreads_J49] at hf
  refine lv_istore (lv' := [(5, .int w0), (0, .ref (ad 10 30 0)), (1, .int x1), (2, .int v2), (3, .int v3), (4, .int v4)]) hx hb dX11_spreads_49 hl (by decide) rfl (fun ls hl => ?_)
  refine lv_iload hx hb dX11_spreads_51 (lv_at hl 0 rfl) ?_
  refine lv_if_lt (tgt := 93) hx hb dX11_spreads_53 (by decide) (fun c_11 => ?_) (fun c_11 => ?_)
  · replace hf := mm_it c_11 hf
    obtain ⟨y_12, e_12, hf⟩ := mm_li_ok hf
    refine lv_iinc (v := y_12) (lv' := [(4, .int y_12), (5, .int w0), (0, .ref (ad 10 30 0)), (1, .int x1), (2, .int v2), (3, .int v3)]) hx hb dX11_spreads_93 hl (k := 5) rfl (by rw [e_12]; rfl) (by decide) rfl (fun ls hl => ?_)
    refine lv_goto (tgt := 13) hx hb dX11_spreads_96 (by decide) ?_
    exact hk13 v2 v3 y_12 σ H locs ls  hf hP hS (lv_sub hl [2, 3, 4, 5, 0] rfl)
  · replace hf := mm_if c_11 hf
    refine lv_aload_n hx hb dX11_spreads_56 rfl (lv_at hl 1 rfl) ?_
    refine gf_30_0 X hP  wd_769 dX11_spreads_57 ?_
    refine lv_bipush (v := (11 : Int32)) hx hb dX11_spreads_60 (by decide) ?_
    refine lv_iload hx hb dX11_spreads_62 (lv_at hl 0 rfl) ?_
    refine lv_iadd hx hb dX11_spreads_64 ?_
    obtain ⟨h_13, hf⟩ := mm_gd_ok hf
    refine al_31 X hP  h_13 dX11_spreads_65 ?_
    refine lv_bipush (v := (7 : Int32)) hx hb dX11_spreads_66 (by decide) ?_
    refine lv_icmp_eq (tgt := 93) hx hb dX11_spreads_68 (by decide) (fun c_14 => ?_) (fun c_14 => ?_)
    · replace hf := mm_it c_14 hf
      obtain ⟨y_15, e_15, hf⟩ := mm_li_ok hf
      refine lv_iinc (v := y_15) (lv' := [(4, .int y_15), (5, .int w0), (0, .ref (ad 10 30 0)), (1, .int x1), (2, .int v2), (3, .int v3)]) hx hb dX11_spreads_93 hl (k := 5) rfl (by rw [e_15]; rfl) (by decide) rfl (fun ls hl => ?_)
      refine lv_goto (tgt := 13) hx hb dX11_spreads_96 (by decide) ?_
      exact hk13 v2 v3 y_15 σ H locs ls  hf hP hS (lv_sub hl [2, 3, 4, 5, 0] rfl)
    · replace hf := mm_if c_14 hf
      refine lv_aload_n hx hb dX11_spreads_71 rfl (lv_at hl 1 rfl) ?_
      refine gf_30_12 X hP  wd_781 dX11_spreads_72 ?_
      refine lv_iload hx hb dX11_spreads_75 (lv_at hl 0 rfl) ?_
      obtain ⟨h_16, hf⟩ := mm_gd_ok hf
      refine al_40 X hP  h_16 dX11_spreads_77 ?_
      refine lv_if_ge (tgt := 93) hx hb dX11_spreads_78 (by decide) (fun c_17 => ?_) (fun c_17 => ?_)
      · replace hf := mm_it c_17 hf
        obtain ⟨y_18, e_18, hf⟩ := mm_li_ok hf
        refine lv_iinc (v := y_18) (lv' := [(4, .int y_18), (5, .int w0), (0, .ref (ad 10 30 0)), (1, .int x1), (2, .int v2), (3, .int v3)]) hx hb dX11_spreads_93 hl (k := 5) rfl (by rw [e_18]; rfl) (by decide) rfl (fun ls hl => ?_)
        refine lv_goto (tgt := 13) hx hb dX11_spreads_96 (by decide) ?_
        exact hk13 v2 v3 y_18 σ H locs ls  hf hP hS (lv_sub hl [2, 3, 4, 5, 0] rfl)
      · replace hf := mm_if c_17 hf
        refine lv_aload_n hx hb dX11_spreads_81 rfl (lv_at hl 1 rfl) ?_
        refine gf_30_12 X hP  wd_781 dX11_spreads_82 ?_
        refine lv_iload hx hb dX11_spreads_85 (lv_at hl 0 rfl) ?_
        refine lv_iload_n hx hb dX11_spreads_87 rfl (lv_at hl 2 rfl) ?_
        refine lv_iconst (v := (1 : Int32)) hx hb dX11_spreads_88 (by decide) ?_
        refine lv_iadd hx hb dX11_spreads_89 ?_
        obtain ⟨h_19, hf⟩ := mm_gd_ok hf
        refine as_40 X hP hS  h_19  dX11_spreads_90 (fun H locs hP hS => ?_)
        obtain ⟨s_20, e_20, hf⟩ := mm_lt_ok hf
        rw [← e_20] at hP
        refine lv_iconst (v := (1 : Int32)) hx hb dX11_spreads_91 (by decide) ?_
        refine lv_istore_n (lv' := [(2, .int (1 : Int32)), (5, .int w0), (0, .ref (ad 10 30 0)), (1, .int x1), (3, .int v3), (4, .int v4)]) hx hb dX11_spreads_92 rfl hl (by decide) rfl (fun ls hl => ?_)
        obtain ⟨y_21, e_21, hf⟩ := mm_li_ok hf
        refine lv_iinc (v := y_21) (lv' := [(4, .int y_21), (2, .int (1 : Int32)), (5, .int w0), (0, .ref (ad 10 30 0)), (1, .int x1), (3, .int v3)]) hx hb dX11_spreads_93 hl (k := 5) rfl (by rw [e_21]; rfl) (by decide) rfl (fun ls hl => ?_)
        refine lv_goto (tgt := 13) hx hb dX11_spreads_96 (by decide) ?_
        exact hk13 (1 : Int32) v3 y_21 s_20 H locs ls  hf hP hS (lv_sub hl [3, 4, 1, 5, 0] rfl)
def fx_X11_spreads_L13 (x1 : Int32) (k4 : Int32 → Int32 → mm_M → mm_R) : Nat → Int32 → Int32 → Int32 → mm_M → mm_R
  | 0, _, _, _, _ => none
  | fu + 1, v2, v3, v4, σ => if (4 : Int32) ≤ v4 then mm_li (v3 + (1 : Int32)) fun y_4 => (k4 v2 y_4 σ) else mm_gd (mm_ix v3 64 = true) (if (σ 10 40 0 v3.toNatClampNeg) = x1 then mm_bd (fx_X11_isWall v3 v4 σ) fun r_8 s_8 => (if r_8 = (0 : Int32) then mm_bd (fx_X11_next v3 v4 s_8) fun r_10 s_10 => (fx_X11_spreads_J49 x1 k4 (fun z0 z1 z2 z => fx_X11_spreads_L13 x1 k4 fu z0 z1 z2 z) v2 v3 v4 r_10 s_10) else fx_X11_spreads_J49 x1 k4 (fun z0 z1 z2 z => fx_X11_spreads_L13 x1 k4 fu z0 z1 z2 z) v2 v3 v4 (-1 : Int32) s_8) else mm_li (v3 + (1 : Int32)) fun y_7 => (k4 v2 y_7 σ))
set_option maxHeartbeats 4000000 in
set_option maxRecDepth 100000 in
theorem cx_X11_spreads_L13 {p : Program} {l : Launch} {e : Env} {s : State} {m : MethodId} {args : Array Value} {below : List Frame} {meth : Method} {c : Code} {D : va_G} {ad : mm_A} {cA : Nat → ClassId} (x1 : Int32)  (rv : Int32) (σ1 : mm_M) (k4 : Int32 → Int32 → mm_M → mm_R) (hk4 : ∀ (v2 : Int32) (v3 : Int32) (σ : mm_M) (H : Heap) (locs : List Loc) (ls : Array Slot), k4 v2 v3 σ = some (rv, σ1) → va_P D vwCl (mm_wd ad cA σ) H → va_S (mm_AS ad) s.heap H locs → lv_has ls 6 [(0, .ref (ad 10 30 0)), (1, .int x1), (2, .int v2), (3, .int v3)] → W p l e (mm_rm 2 45) s m args below meth c H locs 0 0 (MQ below (mm_Q D ad cA (some (.int rv)) σ1) args s 0 0 (mm_AS ad)) (F0 m 4 ls [])) (X : mm_X p s m args meth c cX11_spreads 6 (some .boolean) RX11 D ad cA) : ∀ (fu : Nat), ∀ (v2 : Int32) (v3 : Int32) (v4 : Int32) (σ : mm_M) (H : Heap) (locs : List Loc) (ls : Array Slot), fx_X11_spreads_L13 x1 k4 fu v2 v3 v4 σ = some (rv, σ1) → va_P D vwCl (mm_wd ad cA σ) H → va_S (mm_AS ad) s.heap H locs → lv_has ls 6 [(0, .ref (ad 10 30 0)), (1, .int x1), (2, .int v2), (3, .int v3), (4, .int v4)] → W p l e (mm_rm 2 45) s m args below meth c H locs 0 0 (MQ below (mm_Q D ad cA (some (.int rv)) σ1) args s 0 0 (mm_AS ad)) (F0 m 13 ls []) := by
  have hx := X.1
  have hb := X.2.1
  have hI := X.2.2.2.2.2.2.2.2.2
  intro fu
  induction fu with
  | zero =>
    intro v2 v3 v4 σ H locs ls hf
    exact mm_no hf
  | succ fu ih =>
    intro v2 v3 v4 σ H locs ls hf hP hS hl
    rw [fx_X11_spreads_L13] at hf
    refine lv_iload hx hb dX11_spreads_13 (lv_at hl 4 rfl) ?_
    refine lv_iconst (v := (4 : Int32)) hx hb dX11_spreads_15 (by decide) ?_
    refine lv_icmp_ge (tgt := 99) hx hb dX11_spreads_16 (by decide) (fun c_3 => ?_) (fun c_3 => ?_)
    · replace hf := mm_it c_3 hf
      obtain ⟨y_4, e_4, hf⟩ := mm_li_ok hf
      refine lv_iinc (v := y_4) (lv' := [(3, .int y_4), (0, .ref (ad 10 30 0)), (1, .int x1), (2, .int v2), (4, .int v4)]) hx hb dX11_spreads_99 hl (k := 3) rfl (by rw [e_4]; rfl) (by decide) rfl (fun ls hl => ?_)
      refine lv_goto (tgt := 4) hx hb dX11_spreads_102 (by decide) ?_
      exact hk4 v2 y_4 σ H locs ls  hf hP hS (lv_sub hl [1, 2, 3, 0] rfl)
    · replace hf := mm_if c_3 hf
      refine lv_aload_n hx hb dX11_spreads_19 rfl (lv_at hl 0 rfl) ?_
      refine gf_30_12 X hP  wd_781 dX11_spreads_20 ?_
      refine lv_iload_n hx hb dX11_spreads_23 rfl (lv_at hl 3 rfl) ?_
      obtain ⟨h_5, hf⟩ := mm_gd_ok hf
      refine al_40 X hP  h_5 dX11_spreads_24 ?_
      refine lv_iload_n hx hb dX11_spreads_25 rfl (lv_at hl 1 rfl) ?_
      refine lv_icmp_ne (tgt := 99) hx hb dX11_spreads_26 (by decide) (fun c_6 => ?_) (fun c_6 => ?_)
      · replace hf := mm_if c_6 hf
        obtain ⟨y_7, e_7, hf⟩ := mm_li_ok hf
        refine lv_iinc (v := y_7) (lv' := [(3, .int y_7), (0, .ref (ad 10 30 0)), (1, .int x1), (2, .int v2), (4, .int v4)]) hx hb dX11_spreads_99 hl (k := 3) rfl (by rw [e_7]; rfl) (by decide) rfl (fun ls hl => ?_)
        refine lv_goto (tgt := 4) hx hb dX11_spreads_102 (by decide) ?_
        exact hk4 v2 y_7 σ H locs ls  hf hP hS (lv_sub hl [1, 2, 3, 0] rfl)
      · replace hf := mm_it c_6 hf
        refine lv_aload_n hx hb dX11_spreads_29 rfl (lv_at hl 0 rfl) ?_
        refine lv_iload_n hx hb dX11_spreads_30 rfl (lv_at hl 3 rfl) ?_
        refine lv_iload hx hb dX11_spreads_31 (lv_at hl 4 rfl) ?_
        obtain ⟨r_8, s_8, e_8, hf⟩ := mm_bd_ok hf
        refine mm_callV X hP hS hl.1 [.int v3, .int v4] [] (cx_X11_isWall l D ad cA hI v3 v4 σ r_8 s_8 e_8) kp_30 rfl rfl wd_962 wd_964 wp_39 wd_12 wd_965 hd_X11_isWall ⟨Nat.le_of_ble_eq_true rfl, Nat.le_of_ble_eq_true rfl⟩ rfl (Nat.le_of_ble_eq_true rfl) dX11_spreads_33 (fun H locs hP hS => ?_)
        refine lv_if_eq (tgt := 43) hx hb dX11_spreads_36 (by decide) (fun c_9 => ?_) (fun c_9 => ?_)
        · replace hf := mm_it c_9 hf
          refine lv_iload_n hx hb dX11_spreads_43 rfl (lv_at hl 3 rfl) ?_
          refine lv_iload hx hb dX11_spreads_44 (lv_at hl 4 rfl) ?_
          obtain ⟨r_10, s_10, e_10, hf⟩ := mm_bd_ok hf
          refine mm_callS X hP hS hl.1 [.int v3, .int v4] [] (cx_X11_next l D ad cA hI v3 v4 s_8 r_10 s_10 e_10) wd_871 wd_872 wd_12 wd_873 hd_X11_next ⟨Nat.le_of_ble_eq_true rfl, Nat.le_of_ble_eq_true rfl⟩ rfl (Nat.le_of_ble_eq_true rfl) dX11_spreads_46 (fun H locs hP hS => ?_)
          exact cx_X11_spreads_J49 x1 rv σ1 k4 hk4 (fun z0 z1 z2 z => fx_X11_spreads_L13 x1 k4 fu z0 z1 z2 z) ih X v2 v3 v4 r_10 s_10 H locs ls hf hP hS (lv_sub hl [0, 1, 2, 3, 4] rfl)
        · replace hf := mm_if c_9 hf
          refine lv_iconst (v := (-1 : Int32)) hx hb dX11_spreads_39 (by decide) ?_
          refine lv_goto (tgt := 49) hx hb dX11_spreads_40 (by decide) ?_
          exact cx_X11_spreads_J49 x1 rv σ1 k4 hk4 (fun z0 z1 z2 z => fx_X11_spreads_L13 x1 k4 fu z0 z1 z2 z) ih X v2 v3 v4 (-1 : Int32) s_8 H locs ls hf hP hS (lv_sub hl [0, 1, 2, 3, 4] rfl)
def fx_X11_spreads_L4 (x1 : Int32)  : Nat → Int32 → Int32 → mm_M → mm_R
  | 0, _, _, _ => none
  | fu + 1, v2, v3, σ => if (64 : Int32) ≤ v3 then mm_gd (v2 = 0 ∨ v2 = 1) (some (v2, σ)) else fx_X11_spreads_L13 x1 (fun z0 z1 z => fx_X11_spreads_L4 x1 fu z0 z1 z) mm_FU v2 v3 (0 : Int32) σ
set_option maxHeartbeats 4000000 in
set_option maxRecDepth 100000 in
theorem cx_X11_spreads_L4 {p : Program} {l : Launch} {e : Env} {s : State} {m : MethodId} {args : Array Value} {below : List Frame} {meth : Method} {c : Code} {D : va_G} {ad : mm_A} {cA : Nat → ClassId} (x1 : Int32)  (rv : Int32) (σ1 : mm_M)  (X : mm_X p s m args meth c cX11_spreads 6 (some .boolean) RX11 D ad cA) : ∀ (fu : Nat), ∀ (v2 : Int32) (v3 : Int32) (σ : mm_M) (H : Heap) (locs : List Loc) (ls : Array Slot), fx_X11_spreads_L4 x1 fu v2 v3 σ = some (rv, σ1) → va_P D vwCl (mm_wd ad cA σ) H → va_S (mm_AS ad) s.heap H locs → lv_has ls 6 [(0, .ref (ad 10 30 0)), (1, .int x1), (2, .int v2), (3, .int v3)] → W p l e (mm_rm 2 45) s m args below meth c H locs 0 0 (MQ below (mm_Q D ad cA (some (.int rv)) σ1) args s 0 0 (mm_AS ad)) (F0 m 4 ls []) := by
  have hx := X.1
  have hb := X.2.1
  have hI := X.2.2.2.2.2.2.2.2.2
  intro fu
  induction fu with
  | zero =>
    intro v2 v3 σ H locs ls hf
    exact mm_no hf
  | succ fu ih =>
    intro v2 v3 σ H locs ls hf hP hS hl
    rw [fx_X11_spreads_L4] at hf
    refine lv_iload_n hx hb dX11_spreads_4 rfl (lv_at hl 3 rfl) ?_
    refine lv_bipush (v := (64 : Int32)) hx hb dX11_spreads_5 (by decide) ?_
    refine lv_icmp_ge (tgt := 105) hx hb dX11_spreads_7 (by decide) (fun c_1 => ?_) (fun c_1 => ?_)
    · replace hf := mm_it c_1 hf
      refine lv_iload_n hx hb dX11_spreads_105 rfl (lv_at hl 2 rfl) ?_
      obtain ⟨h_2, hf⟩ := mm_gd_ok hf
      obtain ⟨rfl, rfl⟩ := mm_ret hf
      exact mm_zret h_2 X hP hS dX11_spreads_106
    · replace hf := mm_if c_1 hf
      refine lv_iconst (v := (0 : Int32)) hx hb dX11_spreads_10 (by decide) ?_
      refine lv_istore (lv' := [(4, .int (0 : Int32)), (0, .ref (ad 10 30 0)), (1, .int x1), (2, .int v2), (3, .int v3)]) hx hb dX11_spreads_11 hl (by decide) rfl (fun ls hl => ?_)
      exact cx_X11_spreads_L13 x1 rv σ1 (fun z0 z1 z => fx_X11_spreads_L4 x1 fu z0 z1 z) ih X mm_FU v2 v3 (0 : Int32) σ H locs ls hf hP hS (lv_sub hl [1, 2, 3, 4, 0] rfl)
def fx_X11_spreads (x1 : Int32) (σ : mm_M) : mm_R := fx_X11_spreads_L4 x1 mm_FU (0 : Int32) (0 : Int32) σ
set_option maxHeartbeats 4000000 in
set_option maxRecDepth 100000 in
theorem cx_X11_spreads (l : Launch) (D : va_G) (ad : mm_A) (cA : Nat → ClassId) (hI : mm_Inj ad) (x1 : Int32)  (σ : mm_M) (rv : Int32) (σ1 : mm_M) (hf : fx_X11_spreads x1 σ = some (rv, σ1)) : Met l yX11_spreads (Cond.code yX11_spreads cX11_spreads 6 (some .boolean) :: tb) (mm_rm 2 45) (mm_pre D ad cA [.ref (ad 10 30 0), .int x1] σ) (mm_Q D ad cA (some (.int rv)) σ1) 0 0 (mm_AS ad) := by
  refine mm_start (by decide +kernel) hI (Nat.le_of_ble_eq_true rfl) ?_
  intro p e s m args below meth c X hP ls hl
  have hl : lv_has ls 6 [(0, .ref (ad 10 30 0)), (1, .int x1)] := hl
  have hx := X.1
  have hb := X.2.1
  have hS : va_S (mm_AS ad) s.heap s.heap [] := va_S.rf
  have hgen : ∀ (H : Heap) (locs : List Loc), va_P D vwCl (mm_wd ad cA σ) H → va_S (mm_AS ad) s.heap H locs → W p l e (mm_rm 2 45) s m args below meth c H locs 0 0 (MQ below (mm_Q D ad cA (some (.int rv)) σ1) args s 0 0 (mm_AS ad)) (F0 m 0 ls []) := by
    intro H locs hP hS
    rw [fx_X11_spreads] at hf
    refine lv_iconst (v := (0 : Int32)) hx hb dX11_spreads_0 (by decide) ?_
    refine lv_istore_n (lv' := [(2, .int (0 : Int32)), (0, .ref (ad 10 30 0)), (1, .int x1)]) hx hb dX11_spreads_1 rfl hl (by decide) rfl (fun ls hl => ?_)
    refine lv_iconst (v := (0 : Int32)) hx hb dX11_spreads_2 (by decide) ?_
    refine lv_istore_n (lv' := [(3, .int (0 : Int32)), (2, .int (0 : Int32)), (0, .ref (ad 10 30 0)), (1, .int x1)]) hx hb dX11_spreads_3 rfl hl (by decide) rfl (fun ls hl => ?_)
    exact cx_X11_spreads_L4 x1 rv σ1 X mm_FU (0 : Int32) (0 : Int32) σ H locs ls hf hP hS (lv_sub hl [2, 3, 1, 0] rfl)
  exact hgen _ _ hP hS
def fx_X11_steps_J40 (x1 : Int32) (x2 : Int32) (k19 : Int32 → mm_M → mm_R) (v3 : Int32) (w1 : Int32) (w2 : Int32) (σ : mm_M) : mm_R := mm_gd (mm_ix w1 64 = true) (mm_lt (mm_u σ 10 40 0 w1.toNatClampNeg w2) fun s_13 => (mm_li (v3 + (1 : Int32)) fun y_14 => (k19 y_14 s_13)))
set_option maxHeartbeats 4000000 in
set_option maxRecDepth 100000 in
theorem cx_X11_steps_J40 {p : Program} {l : Launch} {e : Env} {s : State} {m : MethodId} {args : Array Value} {below : List Frame} {meth : Method} {c : Code} {D : va_G} {ad : mm_A} {cA : Nat → ClassId} (x1 : Int32) (x2 : Int32)  (rv : Int32) (σ1 : mm_M) (k19 : Int32 → mm_M → mm_R) (hk19 : ∀ (v3 : Int32) (σ : mm_M) (H : Heap) (locs : List Loc) (ls : Array Slot), k19 v3 σ = some (rv, σ1) → va_P D vwCl (mm_wd ad cA σ) H → va_S (mm_AS ad) s.heap H locs → lv_has ls 4 [(0, .ref (ad 10 30 0)), (1, .int x1), (2, .int x2), (3, .int v3)] → W p l e (mm_rm 3 70) s m args below meth c H locs 0 0 (MQ below (mm_Q D ad cA (some (.int rv)) σ1) args s 0 0 (mm_AS ad)) (F0 m 19 ls [])) (X : mm_X p s m args meth c cX11_steps 4 (some .int) RX11 D ad cA) : ∀ (v3 : Int32) (w1 : Int32) (w2 : Int32) (σ : mm_M) (H : Heap) (locs : List Loc) (ls : Array Slot), fx_X11_steps_J40 x1 x2 k19 v3 w1 w2 σ = some (rv, σ1) → va_P D vwCl (mm_wd ad cA σ) H → va_S (mm_AS ad) s.heap H locs → lv_has ls 4 [(0, .ref (ad 10 30 0)), (1, .int x1), (2, .int x2), (3, .int v3)] → W p l e (mm_rm 3 70) s m args below meth c H locs 0 0 (MQ below (mm_Q D ad cA (some (.int rv)) σ1) args s 0 0 (mm_AS ad)) (F0 m 40 ls [.int w2, .int w1, .ref (ad 10 40 0)]) := by
  have hx := X.1
  have hb := X.2.1
  have hI := X.2.2.2.2.2.2.2.2.2
  intro v3 w1 w2 σ H locs ls hf hP hS hl
  rw [fx_X11_steps_J40] at hf
  obtain ⟨h_12, hf⟩ := mm_gd_ok hf
  refine as_40 X hP hS  h_12  dX11_steps_40 (fun H locs hP hS => ?_)
  obtain ⟨s_13, e_13, hf⟩ := mm_lt_ok hf
  rw [← e_13] at hP
  obtain ⟨y_14, e_14, hf⟩ := mm_li_ok hf
  refine lv_iinc (v := y_14) (lv' := [(3, .int y_14), (0, .ref (ad 10 30 0)), (1, .int x1), (2, .int x2)]) hx hb dX11_steps_41 hl (k := 3) rfl (by rw [e_14]; rfl) (by decide) rfl (fun ls hl => ?_)
  refine lv_goto (tgt := 19) hx hb dX11_steps_44 (by decide) ?_
  exact hk19 y_14 s_13 H locs ls  hf hP hS (lv_sub hl [1, 2, 3, 0] rfl)
def fx_X11_steps_L49 (x1 : Int32) (x2 : Int32)  : Nat → Int32 → mm_M → mm_R
  | 0, _, _ => none
  | fu + 1, v3, σ => mm_bd (fx_X11_spreads v3 σ) fun r_7 s_7 => (if r_7 = (0 : Int32) then mm_gd (mm_ix x2 64 = true) (mm_bd (fx_X11_orNone (s_7 10 40 0 x2.toNatClampNeg) s_7) fun r_10 s_10 => (some (r_10, s_10))) else mm_li (v3 + (1 : Int32)) fun y_11 => (fx_X11_steps_L49 x1 x2 fu y_11 s_7))
set_option maxHeartbeats 4000000 in
set_option maxRecDepth 100000 in
theorem cx_X11_steps_L49 {p : Program} {l : Launch} {e : Env} {s : State} {m : MethodId} {args : Array Value} {below : List Frame} {meth : Method} {c : Code} {D : va_G} {ad : mm_A} {cA : Nat → ClassId} (x1 : Int32) (x2 : Int32)  (rv : Int32) (σ1 : mm_M)  (X : mm_X p s m args meth c cX11_steps 4 (some .int) RX11 D ad cA) : ∀ (fu : Nat), ∀ (v3 : Int32) (σ : mm_M) (H : Heap) (locs : List Loc) (ls : Array Slot), fx_X11_steps_L49 x1 x2 fu v3 σ = some (rv, σ1) → va_P D vwCl (mm_wd ad cA σ) H → va_S (mm_AS ad) s.heap H locs → lv_has ls 4 [(0, .ref (ad 10 30 0)), (2, .int x2), (3, .int v3)] → W p l e (mm_rm 3 70) s m args below meth c H locs 0 0 (MQ below (mm_Q D ad cA (some (.int rv)) σ1) args s 0 0 (mm_AS ad)) (F0 m 49 ls []) := by
  have hx := X.1
  have hb := X.2.1
  have hI := X.2.2.2.2.2.2.2.2.2
  intro fu
  induction fu with
  | zero =>
    intro v3 σ H locs ls hf
    exact mm_no hf
  | succ fu ih =>
    intro v3 σ H locs ls hf hP hS hl
    rw [fx_X11_steps_L49] at hf
    refine lv_aload_n hx hb dX11_steps_49 rfl (lv_at hl 0 rfl) ?_
    refine lv_iload_n hx hb dX11_steps_50 rfl (lv_at hl 2 rfl) ?_
    obtain ⟨r_7, s_7, e_7, hf⟩ := mm_bd_ok hf
    refine mm_callV X hP hS hl.1 [.int v3] [] (cx_X11_spreads l D ad cA hI v3 σ r_7 s_7 e_7) kp_30 rfl rfl wd_1089 wd_1091 wp_60 wd_12 wd_1092 hd_X11_spreads ⟨Nat.le_of_ble_eq_true rfl, Nat.le_of_ble_eq_true rfl⟩ rfl (Nat.le_of_ble_eq_true rfl) dX11_steps_51 (fun H locs hP hS => ?_)
    refine lv_if_eq (tgt := 63) hx hb dX11_steps_54 (by decide) (fun c_8 => ?_) (fun c_8 => ?_)
    · replace hf := mm_it c_8 hf
      refine lv_aload_n hx hb dX11_steps_63 rfl (lv_at hl 0 rfl) ?_
      refine gf_30_12 X hP  wd_781 dX11_steps_64 ?_
      refine lv_iload_n hx hb dX11_steps_67 rfl (lv_at hl 1 rfl) ?_
      obtain ⟨h_9, hf⟩ := mm_gd_ok hf
      refine al_40 X hP  h_9 dX11_steps_68 ?_
      obtain ⟨r_10, s_10, e_10, hf⟩ := mm_bd_ok hf
      refine mm_callS X hP hS hl.1 [.int (s_7 10 40 0 x2.toNatClampNeg)] [] (cx_X11_orNone l D ad cA hI (s_7 10 40 0 x2.toNatClampNeg) s_7 r_10 s_10 e_10) wd_1034 wd_1035 wd_12 wd_1036 hd_X11_orNone ⟨Nat.le_of_ble_eq_true rfl, Nat.le_of_ble_eq_true rfl⟩ rfl (Nat.le_of_ble_eq_true rfl) dX11_steps_69 (fun H locs hP hS => ?_)
      obtain ⟨rfl, rfl⟩ := mm_ret hf
      exact mm_iret X hP hS dX11_steps_72
    · replace hf := mm_if c_8 hf
      obtain ⟨y_11, e_11, hf⟩ := mm_li_ok hf
      refine lv_iinc (v := y_11) (lv' := [(3, .int y_11), (0, .ref (ad 10 30 0)), (2, .int x2)]) hx hb dX11_steps_57 hl (k := 2) rfl (by rw [e_11]; rfl) (by decide) rfl (fun ls hl => ?_)
      refine lv_goto (tgt := 49) hx hb dX11_steps_60 (by decide) ?_
      exact ih y_11 s_7 H locs ls  hf hP hS (lv_sub hl [1, 2, 0] rfl)
def fx_X11_steps_L19 (x1 : Int32) (x2 : Int32)  : Nat → Int32 → mm_M → mm_R
  | 0, _, _ => none
  | fu + 1, v3, σ => if (64 : Int32) ≤ v3 then fx_X11_steps_L49 x1 x2 mm_FU (0 : Int32) σ else if v3 = x1 then fx_X11_steps_J40 x1 x2 (fun z0 z => fx_X11_steps_L19 x1 x2 fu z0 z) v3 v3 (0 : Int32) σ else fx_X11_steps_J40 x1 x2 (fun z0 z => fx_X11_steps_L19 x1 x2 fu z0 z) v3 v3 (-1 : Int32) σ
set_option maxHeartbeats 4000000 in
set_option maxRecDepth 100000 in
theorem cx_X11_steps_L19 {p : Program} {l : Launch} {e : Env} {s : State} {m : MethodId} {args : Array Value} {below : List Frame} {meth : Method} {c : Code} {D : va_G} {ad : mm_A} {cA : Nat → ClassId} (x1 : Int32) (x2 : Int32)  (rv : Int32) (σ1 : mm_M)  (X : mm_X p s m args meth c cX11_steps 4 (some .int) RX11 D ad cA) : ∀ (fu : Nat), ∀ (v3 : Int32) (σ : mm_M) (H : Heap) (locs : List Loc) (ls : Array Slot), fx_X11_steps_L19 x1 x2 fu v3 σ = some (rv, σ1) → va_P D vwCl (mm_wd ad cA σ) H → va_S (mm_AS ad) s.heap H locs → lv_has ls 4 [(0, .ref (ad 10 30 0)), (1, .int x1), (2, .int x2), (3, .int v3)] → W p l e (mm_rm 3 70) s m args below meth c H locs 0 0 (MQ below (mm_Q D ad cA (some (.int rv)) σ1) args s 0 0 (mm_AS ad)) (F0 m 19 ls []) := by
  have hx := X.1
  have hb := X.2.1
  have hI := X.2.2.2.2.2.2.2.2.2
  intro fu
  induction fu with
  | zero =>
    intro v3 σ H locs ls hf
    exact mm_no hf
  | succ fu ih =>
    intro v3 σ H locs ls hf hP hS hl
    rw [fx_X11_steps_L19] at hf
    refine lv_iload_n hx hb dX11_steps_19 rfl (lv_at hl 3 rfl) ?_
    refine lv_bipush (v := (64 : Int32)) hx hb dX11_steps_20 (by decide) ?_
    refine lv_icmp_ge (tgt := 47) hx hb dX11_steps_22 (by decide) (fun c_5 => ?_) (fun c_5 => ?_)
    · replace hf := mm_it c_5 hf
      refine lv_iconst (v := (0 : Int32)) hx hb dX11_steps_47 (by decide) ?_
      refine lv_istore_n (lv' := [(3, .int (0 : Int32)), (0, .ref (ad 10 30 0)), (1, .int x1), (2, .int x2)]) hx hb dX11_steps_48 rfl hl (by decide) rfl (fun ls hl => ?_)
      exact cx_X11_steps_L49 x1 x2 rv σ1 X mm_FU (0 : Int32) σ H locs ls hf hP hS (lv_sub hl [1, 3, 0] rfl)
    · replace hf := mm_if c_5 hf
      refine lv_aload_n hx hb dX11_steps_25 rfl (lv_at hl 0 rfl) ?_
      refine gf_30_12 X hP  wd_781 dX11_steps_26 ?_
      refine lv_iload_n hx hb dX11_steps_29 rfl (lv_at hl 3 rfl) ?_
      refine lv_iload_n hx hb dX11_steps_30 rfl (lv_at hl 3 rfl) ?_
      refine lv_iload_n hx hb dX11_steps_31 rfl (lv_at hl 1 rfl) ?_
      refine lv_icmp_ne (tgt := 39) hx hb dX11_steps_32 (by decide) (fun c_6 => ?_) (fun c_6 => ?_)
      · replace hf := mm_if c_6 hf
        refine lv_iconst (v := (-1 : Int32)) hx hb dX11_steps_39 (by decide) ?_
        exact cx_X11_steps_J40 x1 x2 rv σ1 (fun z0 z => fx_X11_steps_L19 x1 x2 fu z0 z) ih X v3 v3 (-1 : Int32) σ H locs ls hf hP hS (lv_sub hl [0, 1, 2, 3] rfl)
      · replace hf := mm_it c_6 hf
        refine lv_iconst (v := (0 : Int32)) hx hb dX11_steps_35 (by decide) ?_
        refine lv_goto (tgt := 40) hx hb dX11_steps_36 (by decide) ?_
        exact cx_X11_steps_J40 x1 x2 rv σ1 (fun z0 z => fx_X11_steps_L19 x1 x2 fu z0 z) ih X v3 v3 (0 : Int32) σ H locs ls hf hP hS (lv_sub hl [0, 1, 2, 3] rfl)
def fx_X11_steps (x1 : Int32) (x2 : Int32) (σ : mm_M) : mm_R := mm_bd (fx_X11_isCell x1 σ) fun r_1 s_1 => (if r_1 = (0 : Int32) then some ((-1000001 : Int32), s_1) else mm_bd (fx_X11_isCell x2 s_1) fun r_3 s_3 => (if r_3 = (0 : Int32) then some ((-1000001 : Int32), s_3) else fx_X11_steps_L19 x1 x2 mm_FU (0 : Int32) s_3))
set_option maxHeartbeats 4000000 in
set_option maxRecDepth 100000 in
theorem cx_X11_steps (l : Launch) (D : va_G) (ad : mm_A) (cA : Nat → ClassId) (hI : mm_Inj ad) (x1 : Int32) (x2 : Int32)  (σ : mm_M) (rv : Int32) (σ1 : mm_M) (hf : fx_X11_steps x1 x2 σ = some (rv, σ1)) : Met l yX11_steps (Cond.code yX11_steps cX11_steps 4 (some .int) :: tb) (mm_rm 3 70) (mm_pre D ad cA [.ref (ad 10 30 0), .int x1, .int x2] σ) (mm_Q D ad cA (some (.int rv)) σ1) 0 0 (mm_AS ad) := by
  refine mm_start (by decide +kernel) hI (Nat.le_of_ble_eq_true rfl) ?_
  intro p e s m args below meth c X hP ls hl
  have hl : lv_has ls 4 [(0, .ref (ad 10 30 0)), (1, .int x1), (2, .int x2)] := hl
  have hx := X.1
  have hb := X.2.1
  have hS : va_S (mm_AS ad) s.heap s.heap [] := va_S.rf
  have hgen : ∀ (H : Heap) (locs : List Loc), va_P D vwCl (mm_wd ad cA σ) H → va_S (mm_AS ad) s.heap H locs → W p l e (mm_rm 3 70) s m args below meth c H locs 0 0 (MQ below (mm_Q D ad cA (some (.int rv)) σ1) args s 0 0 (mm_AS ad)) (F0 m 0 ls []) := by
    intro H locs hP hS
    rw [fx_X11_steps] at hf
    refine lv_iload_n hx hb dX11_steps_0 rfl (lv_at hl 1 rfl) ?_
    obtain ⟨r_1, s_1, e_1, hf⟩ := mm_bd_ok hf
    refine mm_callS X hP hS hl.1 [.int x1] [] (cx_X11_isCell l D ad cA hI x1 σ r_1 s_1 e_1) wd_839 wd_840 wd_12 wd_841 hd_X11_isCell ⟨Nat.le_of_ble_eq_true rfl, Nat.le_of_ble_eq_true rfl⟩ rfl (Nat.le_of_ble_eq_true rfl) dX11_steps_1 (fun H locs hP hS => ?_)
    refine lv_if_eq (tgt := 14) hx hb dX11_steps_4 (by decide) (fun c_2 => ?_) (fun c_2 => ?_)
    · replace hf := mm_it c_2 hf
      refine lv_ldc (v := (-1000001 : Int32)) hx hb X.2.2.2.2.2.1 (X.2.2.2.2.2.2.1 _ wd_845) dX11_steps_14 ?_
      obtain ⟨rfl, rfl⟩ := mm_ret hf
      exact mm_iret X hP hS dX11_steps_16
    · replace hf := mm_if c_2 hf
      refine lv_iload_n hx hb dX11_steps_7 rfl (lv_at hl 2 rfl) ?_
      obtain ⟨r_3, s_3, e_3, hf⟩ := mm_bd_ok hf
      refine mm_callS X hP hS hl.1 [.int x2] [] (cx_X11_isCell l D ad cA hI x2 s_1 r_3 s_3 e_3) wd_839 wd_840 wd_12 wd_841 hd_X11_isCell ⟨Nat.le_of_ble_eq_true rfl, Nat.le_of_ble_eq_true rfl⟩ rfl (Nat.le_of_ble_eq_true rfl) dX11_steps_8 (fun H locs hP hS => ?_)
      refine lv_if_ne (tgt := 17) hx hb dX11_steps_11 (by decide) (fun c_4 => ?_) (fun c_4 => ?_)
      · replace hf := mm_if c_4 hf
        refine lv_iconst (v := (0 : Int32)) hx hb dX11_steps_17 (by decide) ?_
        refine lv_istore_n (lv' := [(3, .int (0 : Int32)), (0, .ref (ad 10 30 0)), (1, .int x1), (2, .int x2)]) hx hb dX11_steps_18 rfl hl (by decide) rfl (fun ls hl => ?_)
        exact cx_X11_steps_L19 x1 x2 rv σ1 X mm_FU (0 : Int32) s_3 H locs ls hf hP hS (lv_sub hl [1, 2, 3, 0] rfl)
      · replace hf := mm_it c_4 hf
        refine lv_ldc (v := (-1000001 : Int32)) hx hb X.2.2.2.2.2.1 (X.2.2.2.2.2.2.1 _ wd_845) dX11_steps_14 ?_
        obtain ⟨rfl, rfl⟩ := mm_ret hf
        exact mm_iret X hP hS dX11_steps_16
  exact hgen _ _ hP hS
def fx_X11_cartsOut_J28  (k4 : Int32 → Int32 → mm_M → mm_R) (v2 : Int32) (w0 : Int32) (w1 : Int32) (σ : mm_M) : mm_R := mm_li (w0 + w1) fun y_4 => (mm_li (v2 + (1 : Int32)) fun y_5 => (k4 y_4 y_5 σ))
set_option maxHeartbeats 4000000 in
set_option maxRecDepth 100000 in
theorem cx_X11_cartsOut_J28 {p : Program} {l : Launch} {e : Env} {s : State} {m : MethodId} {args : Array Value} {below : List Frame} {meth : Method} {c : Code} {D : va_G} {ad : mm_A} {cA : Nat → ClassId}   (rv : Int32) (σ1 : mm_M) (k4 : Int32 → Int32 → mm_M → mm_R) (hk4 : ∀ (v1 : Int32) (v2 : Int32) (σ : mm_M) (H : Heap) (locs : List Loc) (ls : Array Slot), k4 v1 v2 σ = some (rv, σ1) → va_P D vwCl (mm_wd ad cA σ) H → va_S (mm_AS ad) s.heap H locs → lv_has ls 3 [(0, .ref (ad 10 30 0)), (1, .int v1), (2, .int v2)] → W p l e (mm_rm 2 43) s m args below meth c H locs 0 0 (MQ below (mm_Q D ad cA (some (.int rv)) σ1) args s 0 0 (mm_AS ad)) (F0 m 4 ls [])) (X : mm_X p s m args meth c cX11_cartsOut 3 (some .int) RX11 D ad cA) : ∀ (v2 : Int32) (w0 : Int32) (w1 : Int32) (σ : mm_M) (H : Heap) (locs : List Loc) (ls : Array Slot), fx_X11_cartsOut_J28 k4 v2 w0 w1 σ = some (rv, σ1) → va_P D vwCl (mm_wd ad cA σ) H → va_S (mm_AS ad) s.heap H locs → lv_has ls 3 [(0, .ref (ad 10 30 0)), (2, .int v2)] → W p l e (mm_rm 2 43) s m args below meth c H locs 0 0 (MQ below (mm_Q D ad cA (some (.int rv)) σ1) args s 0 0 (mm_AS ad)) (F0 m 28 ls [.int w1, .int w0]) := by
  have hx := X.1
  have hb := X.2.1
  have hI := X.2.2.2.2.2.2.2.2.2
  intro v2 w0 w1 σ H locs ls hf hP hS hl
  rw [fx_X11_cartsOut_J28] at hf
  refine lv_iadd hx hb dX11_cartsOut_28 ?_
  obtain ⟨y_4, e_4, hf⟩ := mm_li_ok hf
  rw [← e_4]
  refine lv_istore_n (lv' := [(1, .int y_4), (0, .ref (ad 10 30 0)), (2, .int v2)]) hx hb dX11_cartsOut_29 rfl hl (by decide) rfl (fun ls hl => ?_)
  obtain ⟨y_5, e_5, hf⟩ := mm_li_ok hf
  refine lv_iinc (v := y_5) (lv' := [(2, .int y_5), (1, .int y_4), (0, .ref (ad 10 30 0))]) hx hb dX11_cartsOut_30 hl (k := 2) rfl (by rw [e_5]; rfl) (by decide) rfl (fun ls hl => ?_)
  refine lv_goto (tgt := 4) hx hb dX11_cartsOut_33 (by decide) ?_
  exact hk4 y_4 y_5 σ H locs ls  hf hP hS (lv_sub hl [2, 1, 0] rfl)
def fx_X11_cartsOut_L4   : Nat → Int32 → Int32 → mm_M → mm_R
  | 0, _, _, _ => none
  | fu + 1, v1, v2, σ => if (σ 10 31 0 (0 : Int32).toNatClampNeg) ≤ v2 then some (v1, σ) else mm_bd (fx_X11_isOut v2 σ) fun r_2 s_2 => (if r_2 = (0 : Int32) then fx_X11_cartsOut_J28 (fun z0 z1 z => fx_X11_cartsOut_L4 fu z0 z1 z) v2 v1 (0 : Int32) s_2 else fx_X11_cartsOut_J28 (fun z0 z1 z => fx_X11_cartsOut_L4 fu z0 z1 z) v2 v1 (1 : Int32) s_2)
set_option maxHeartbeats 4000000 in
set_option maxRecDepth 100000 in
theorem cx_X11_cartsOut_L4 {p : Program} {l : Launch} {e : Env} {s : State} {m : MethodId} {args : Array Value} {below : List Frame} {meth : Method} {c : Code} {D : va_G} {ad : mm_A} {cA : Nat → ClassId}   (rv : Int32) (σ1 : mm_M)  (X : mm_X p s m args meth c cX11_cartsOut 3 (some .int) RX11 D ad cA) : ∀ (fu : Nat), ∀ (v1 : Int32) (v2 : Int32) (σ : mm_M) (H : Heap) (locs : List Loc) (ls : Array Slot), fx_X11_cartsOut_L4  fu v1 v2 σ = some (rv, σ1) → va_P D vwCl (mm_wd ad cA σ) H → va_S (mm_AS ad) s.heap H locs → lv_has ls 3 [(0, .ref (ad 10 30 0)), (1, .int v1), (2, .int v2)] → W p l e (mm_rm 2 43) s m args below meth c H locs 0 0 (MQ below (mm_Q D ad cA (some (.int rv)) σ1) args s 0 0 (mm_AS ad)) (F0 m 4 ls []) := by
  have hx := X.1
  have hb := X.2.1
  have hI := X.2.2.2.2.2.2.2.2.2
  intro fu
  induction fu with
  | zero =>
    intro v1 v2 σ H locs ls hf
    exact mm_no hf
  | succ fu ih =>
    intro v1 v2 σ H locs ls hf hP hS hl
    rw [fx_X11_cartsOut_L4] at hf
    refine lv_iload_n hx hb dX11_cartsOut_4 rfl (lv_at hl 2 rfl) ?_
    refine lv_aload_n hx hb dX11_cartsOut_5 rfl (lv_at hl 0 rfl) ?_
    refine gf_30_0 X hP  wd_769 dX11_cartsOut_6 ?_
    refine lv_iconst (v := (0 : Int32)) hx hb dX11_cartsOut_9 (by decide) ?_
    refine al_31 X hP  (by decide : mm_ix (0 : Int32) 207 = true) dX11_cartsOut_10 ?_
    refine lv_icmp_ge (tgt := 36) hx hb dX11_cartsOut_11 (by decide) (fun c_1 => ?_) (fun c_1 => ?_)
    · replace hf := mm_it c_1 hf
      refine lv_iload_n hx hb dX11_cartsOut_36 rfl (lv_at hl 1 rfl) ?_
      obtain ⟨rfl, rfl⟩ := mm_ret hf
      exact mm_iret X hP hS dX11_cartsOut_37
    · replace hf := mm_if c_1 hf
      refine lv_iload_n hx hb dX11_cartsOut_14 rfl (lv_at hl 1 rfl) ?_
      refine lv_aload_n hx hb dX11_cartsOut_15 rfl (lv_at hl 0 rfl) ?_
      refine lv_iload_n hx hb dX11_cartsOut_16 rfl (lv_at hl 2 rfl) ?_
      obtain ⟨r_2, s_2, e_2, hf⟩ := mm_bd_ok hf
      refine mm_callV X hP hS hl.1 [.int v2] [.int v1] (cx_X11_isOut l D ad cA hI v2 σ r_2 s_2 e_2) kp_30 rfl rfl wd_907 wd_909 wp_28 wd_12 wd_910 hd_X11_isOut ⟨Nat.le_of_ble_eq_true rfl, Nat.le_of_ble_eq_true rfl⟩ rfl (Nat.le_of_ble_eq_true rfl) dX11_cartsOut_17 (fun H locs hP hS => ?_)
      refine lv_if_eq (tgt := 27) hx hb dX11_cartsOut_20 (by decide) (fun c_3 => ?_) (fun c_3 => ?_)
      · replace hf := mm_it c_3 hf
        refine lv_iconst (v := (0 : Int32)) hx hb dX11_cartsOut_27 (by decide) ?_
        exact cx_X11_cartsOut_J28 rv σ1 (fun z0 z1 z => fx_X11_cartsOut_L4 fu z0 z1 z) ih X v2 v1 (0 : Int32) s_2 H locs ls hf hP hS (lv_sub hl [0, 2] rfl)
      · replace hf := mm_if c_3 hf
        refine lv_iconst (v := (1 : Int32)) hx hb dX11_cartsOut_23 (by decide) ?_
        refine lv_goto (tgt := 28) hx hb dX11_cartsOut_24 (by decide) ?_
        exact cx_X11_cartsOut_J28 rv σ1 (fun z0 z1 z => fx_X11_cartsOut_L4 fu z0 z1 z) ih X v2 v1 (1 : Int32) s_2 H locs ls hf hP hS (lv_sub hl [0, 2] rfl)
def fx_X11_cartsOut  (σ : mm_M) : mm_R := fx_X11_cartsOut_L4 mm_FU (0 : Int32) (0 : Int32) σ
set_option maxHeartbeats 4000000 in
set_option maxRecDepth 100000 in
theorem cx_X11_cartsOut (l : Launch) (D : va_G) (ad : mm_A) (cA : Nat → ClassId) (hI : mm_Inj ad)   (σ : mm_M) (rv : Int32) (σ1 : mm_M) (hf : fx_X11_cartsOut  σ = some (rv, σ1)) : Met l yX11_cartsOut (Cond.code yX11_cartsOut cX11_cartsOut 3 (some .int) :: tb) (mm_rm 2 43) (mm_pre D ad cA [.ref (ad 10 30 0)] σ) (mm_Q D ad cA (some (.int rv)) σ1) 0 0 (mm_AS ad) := by
  refine mm_start (by decide +kernel) hI (Nat.le_of_ble_eq_true rfl) ?_
  intro p e s m args below meth c X hP ls hl
  have hl : lv_has ls 3 [(0, .ref (ad 10 30 0))] := hl
  have hx := X.1
  have hb := X.2.1
  have hS : va_S (mm_AS ad) s.heap s.heap [] := va_S.rf
  have hgen : ∀ (H : Heap) (locs : List Loc), va_P D vwCl (mm_wd ad cA σ) H → va_S (mm_AS ad) s.heap H locs → W p l e (mm_rm 2 43) s m args below meth c H locs 0 0 (MQ below (mm_Q D ad cA (some (.int rv)) σ1) args s 0 0 (mm_AS ad)) (F0 m 0 ls []) := by
    intro H locs hP hS
    rw [fx_X11_cartsOut] at hf
    refine lv_iconst (v := (0 : Int32)) hx hb dX11_cartsOut_0 (by decide) ?_
    refine lv_istore_n (lv' := [(1, .int (0 : Int32)), (0, .ref (ad 10 30 0))]) hx hb dX11_cartsOut_1 rfl hl (by decide) rfl (fun ls hl => ?_)
    refine lv_iconst (v := (0 : Int32)) hx hb dX11_cartsOut_2 (by decide) ?_
    refine lv_istore_n (lv' := [(2, .int (0 : Int32)), (1, .int (0 : Int32)), (0, .ref (ad 10 30 0))]) hx hb dX11_cartsOut_3 rfl hl (by decide) rfl (fun ls hl => ?_)
    exact cx_X11_cartsOut_L4 rv σ1 X mm_FU (0 : Int32) (0 : Int32) σ H locs ls hf hP hS (lv_sub hl [2, 1, 0] rfl)
  exact hgen _ _ hP hS
def fx_X11_count (x1 : Int32) (σ : mm_M) : mm_R := if x1 = (4 : Int32) then mm_bd (fx_X11_cartsOut  σ) fun r_2 s_2 => (some (r_2, s_2)) else if x1 = (5 : Int32) then mm_bd (fx_X11_orNone (σ 10 31 0 (4 : Int32).toNatClampNeg) σ) fun r_4 s_4 => (some (r_4, s_4)) else if x1 = (6 : Int32) then some (σ 10 31 0 (5 : Int32).toNatClampNeg, σ) else if x1 = (7 : Int32) then some (σ 10 30 0 4, σ) else if x1 = (8 : Int32) then some (σ 10 30 0 6, σ) else if x1 = (9 : Int32) then some (σ 10 31 0 (6 : Int32).toNatClampNeg, σ) else mm_bd (fx_X11_in x1 (0 : Int32) (3 : Int32) σ) fun r_9 s_9 => (if r_9 = (0 : Int32) then some ((-1000001 : Int32), s_9) else mm_gd (mm_ix x1 207 = true) (some (s_9 10 31 0 x1.toNatClampNeg, s_9)))
set_option maxHeartbeats 4000000 in
set_option maxRecDepth 100000 in
theorem cx_X11_count (l : Launch) (D : va_G) (ad : mm_A) (cA : Nat → ClassId) (hI : mm_Inj ad) (x1 : Int32)  (σ : mm_M) (rv : Int32) (σ1 : mm_M) (hf : fx_X11_count x1 σ = some (rv, σ1)) : Met l yX11_count (Cond.code yX11_count cX11_count 2 (some .int) :: tb) (mm_rm 3 65) (mm_pre D ad cA [.ref (ad 10 30 0), .int x1] σ) (mm_Q D ad cA (some (.int rv)) σ1) 0 0 (mm_AS ad) := by
  refine mm_start (by decide +kernel) hI (Nat.le_of_ble_eq_true rfl) ?_
  intro p e s m args below meth c X hP ls hl
  have hl : lv_has ls 2 [(0, .ref (ad 10 30 0)), (1, .int x1)] := hl
  have hx := X.1
  have hb := X.2.1
  have hS : va_S (mm_AS ad) s.heap s.heap [] := va_S.rf
  have hgen : ∀ (H : Heap) (locs : List Loc), va_P D vwCl (mm_wd ad cA σ) H → va_S (mm_AS ad) s.heap H locs → W p l e (mm_rm 3 65) s m args below meth c H locs 0 0 (MQ below (mm_Q D ad cA (some (.int rv)) σ1) args s 0 0 (mm_AS ad)) (F0 m 0 ls []) := by
    intro H locs hP hS
    rw [fx_X11_count] at hf
    refine lv_iload_n hx hb dX11_count_0 rfl (lv_at hl 1 rfl) ?_
    by_cases c_1 : x1 = (4 : Int32)
    · replace hf := mm_it c_1 hf
      refine mm_tabIn (off := 39) (tgt := 40) X (4 : Int32) c_1 dX11_count_1 (by decide +kernel) (by decide +kernel) (by decide) ?_
      refine lv_aload_n hx hb dX11_count_40 rfl (lv_at hl 0 rfl) ?_
      obtain ⟨r_2, s_2, e_2, hf⟩ := mm_bd_ok hf
      refine mm_callV X hP hS hl.1 [] [] (cx_X11_cartsOut l D ad cA hI  σ r_2 s_2 e_2) kp_30 rfl rfl wd_1097 wd_1099 wp_61 wd_12 wd_1100 hd_X11_cartsOut ⟨Nat.le_of_ble_eq_true rfl, Nat.le_of_ble_eq_true rfl⟩ rfl (Nat.le_of_ble_eq_true rfl) dX11_count_41 (fun H locs hP hS => ?_)
      obtain ⟨rfl, rfl⟩ := mm_ret hf
      exact mm_iret X hP hS dX11_count_44
    replace hf := mm_if c_1 hf
    by_cases c_3 : x1 = (5 : Int32)
    · replace hf := mm_it c_3 hf
      refine mm_tabIn (off := 44) (tgt := 45) X (5 : Int32) c_3 dX11_count_1 (by decide +kernel) (by decide +kernel) (by decide) ?_
      refine lv_aload_n hx hb dX11_count_45 rfl (lv_at hl 0 rfl) ?_
      refine gf_30_0 X hP  wd_769 dX11_count_46 ?_
      refine lv_iconst (v := (4 : Int32)) hx hb dX11_count_49 (by decide) ?_
      refine al_31 X hP  (by decide : mm_ix (4 : Int32) 207 = true) dX11_count_50 ?_
      obtain ⟨r_4, s_4, e_4, hf⟩ := mm_bd_ok hf
      refine mm_callS X hP hS hl.1 [.int (σ 10 31 0 (4 : Int32).toNatClampNeg)] [] (cx_X11_orNone l D ad cA hI (σ 10 31 0 (4 : Int32).toNatClampNeg) σ r_4 s_4 e_4) wd_1034 wd_1035 wd_12 wd_1036 hd_X11_orNone ⟨Nat.le_of_ble_eq_true rfl, Nat.le_of_ble_eq_true rfl⟩ rfl (Nat.le_of_ble_eq_true rfl) dX11_count_51 (fun H locs hP hS => ?_)
      obtain ⟨rfl, rfl⟩ := mm_ret hf
      exact mm_iret X hP hS dX11_count_54
    replace hf := mm_if c_3 hf
    by_cases c_5 : x1 = (6 : Int32)
    · replace hf := mm_it c_5 hf
      refine mm_tabIn (off := 54) (tgt := 55) X (6 : Int32) c_5 dX11_count_1 (by decide +kernel) (by decide +kernel) (by decide) ?_
      refine lv_aload_n hx hb dX11_count_55 rfl (lv_at hl 0 rfl) ?_
      refine gf_30_0 X hP  wd_769 dX11_count_56 ?_
      refine lv_iconst (v := (5 : Int32)) hx hb dX11_count_59 (by decide) ?_
      refine al_31 X hP  (by decide : mm_ix (5 : Int32) 207 = true) dX11_count_60 ?_
      obtain ⟨rfl, rfl⟩ := mm_ret hf
      exact mm_iret X hP hS dX11_count_61
    replace hf := mm_if c_5 hf
    by_cases c_6 : x1 = (7 : Int32)
    · replace hf := mm_it c_6 hf
      refine mm_tabIn (off := 61) (tgt := 62) X (7 : Int32) c_6 dX11_count_1 (by decide +kernel) (by decide +kernel) (by decide) ?_
      refine lv_aload_n hx hb dX11_count_62 rfl (lv_at hl 0 rfl) ?_
      refine gf_30_4 X hP  wd_773 dX11_count_63 ?_
      obtain ⟨rfl, rfl⟩ := mm_ret hf
      exact mm_iret X hP hS dX11_count_66
    replace hf := mm_if c_6 hf
    by_cases c_7 : x1 = (8 : Int32)
    · replace hf := mm_it c_7 hf
      refine mm_tabIn (off := 66) (tgt := 67) X (8 : Int32) c_7 dX11_count_1 (by decide +kernel) (by decide +kernel) (by decide) ?_
      refine lv_aload_n hx hb dX11_count_67 rfl (lv_at hl 0 rfl) ?_
      refine gf_30_6 X hP  wd_775 dX11_count_68 ?_
      obtain ⟨rfl, rfl⟩ := mm_ret hf
      exact mm_iret X hP hS dX11_count_71
    replace hf := mm_if c_7 hf
    by_cases c_8 : x1 = (9 : Int32)
    · replace hf := mm_it c_8 hf
      refine mm_tabIn (off := 71) (tgt := 72) X (9 : Int32) c_8 dX11_count_1 (by decide +kernel) (by decide +kernel) (by decide) ?_
      refine lv_aload_n hx hb dX11_count_72 rfl (lv_at hl 0 rfl) ?_
      refine gf_30_0 X hP  wd_769 dX11_count_73 ?_
      refine lv_bipush (v := (6 : Int32)) hx hb dX11_count_76 (by decide) ?_
      refine al_31 X hP  (by decide : mm_ix (6 : Int32) 207 = true) dX11_count_78 ?_
      obtain ⟨rfl, rfl⟩ := mm_ret hf
      exact mm_iret X hP hS dX11_count_79
    replace hf := mm_if c_8 hf
    refine lv_tableOut (tgt := 80) hx hb dX11_count_1 (by have q_1 := lv_neT c_1 (a := 4) (by decide); have q_3 := lv_neT c_3 (a := 5) (by decide); have q_5 := lv_neT c_5 (a := 6) (by decide); have q_6 := lv_neT c_6 (a := 7) (by decide); have q_7 := lv_neT c_7 (a := 8) (by decide); have q_8 := lv_neT c_8 (a := 9) (by decide); omega) (by decide) ?_
    refine lv_iload_n hx hb dX11_count_80 rfl (lv_at hl 1 rfl) ?_
    refine lv_iconst (v := (0 : Int32)) hx hb dX11_count_81 (by decide) ?_
    refine lv_iconst (v := (3 : Int32)) hx hb dX11_count_82 (by decide) ?_
    obtain ⟨r_9, s_9, e_9, hf⟩ := mm_bd_ok hf
    refine mm_callS X hP hS hl.1 [.int x1, .int (0 : Int32), .int (3 : Int32)] [] (cx_X11_in l D ad cA hI x1 (0 : Int32) (3 : Int32) σ r_9 s_9 e_9) wd_842 wd_843 wd_12 wd_844 hd_X11_in ⟨Nat.le_of_ble_eq_true rfl, Nat.le_of_ble_eq_true rfl⟩ rfl (Nat.le_of_ble_eq_true rfl) dX11_count_83 (fun H locs hP hS => ?_)
    refine lv_if_eq (tgt := 98) hx hb dX11_count_86 (by decide) (fun c_10 => ?_) (fun c_10 => ?_)
    · replace hf := mm_it c_10 hf
      refine lv_ldc (v := (-1000001 : Int32)) hx hb X.2.2.2.2.2.1 (X.2.2.2.2.2.2.1 _ wd_845) dX11_count_98 ?_
      obtain ⟨rfl, rfl⟩ := mm_ret hf
      exact mm_iret X hP hS dX11_count_100
    · replace hf := mm_if c_10 hf
      refine lv_aload_n hx hb dX11_count_89 rfl (lv_at hl 0 rfl) ?_
      refine gf_30_0 X hP  wd_769 dX11_count_90 ?_
      refine lv_iload_n hx hb dX11_count_93 rfl (lv_at hl 1 rfl) ?_
      obtain ⟨h_11, hf⟩ := mm_gd_ok hf
      refine al_31 X hP  h_11 dX11_count_94 ?_
      refine lv_goto (tgt := 100) hx hb dX11_count_95 (by decide) ?_
      obtain ⟨rfl, rfl⟩ := mm_ret hf
      exact mm_iret X hP hS dX11_count_100
  exact hgen _ _ hP hS
