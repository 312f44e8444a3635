def fx_X11_passes_J117   (v1 : Int32) (σ : mm_M) : mm_R := mm_bd (fx_X11_outs  σ) fun r_21 s_21 => (some (r_21 - v1, s_21))
set_option maxHeartbeats 4000000 in
set_option maxRecDepth 100000 in
theorem cx_X11_passes_J117 {p : Program} {l : Launch} {e : Env} {s : State} {m : MethodId} {args : Array Value} {below : List Frame} {meth : Method} {c : Code} {D : va_G} {ad : mm_A} {cA : Nat → ClassId}   (rv : Int32) (σ1 : mm_M)  (X : mm_X p s m args meth c cX11_passes 4 (some .int) RX11 D ad cA) : ∀ (v1 : Int32) (σ : mm_M) (H : Heap) (locs : List Loc) (ls : Array Slot), fx_X11_passes_J117  v1 σ = some (rv, σ1) → va_P D vwCl (mm_wd ad cA σ) H → va_S (mm_AS ad) s.heap H locs → lv_has ls 4 [(0, .ref (ad 10 30 0)), (1, .int v1)] → W p l e (mm_rm 7 155) s m args below meth c H locs 0 0 (MQ below (mm_Q D ad cA (some (.int rv)) σ1) args s 0 0 (mm_AS ad)) (F0 m 117 ls []) := by
  have hx := X.1
  have hb := X.2.1
  have hI := X.2.2.2.2.2.2.2.2.2
  intro v1 σ H locs ls hf hP hS hl
  rw [fx_X11_passes_J117] at hf
  refine lv_aload_n hx hb dX11_passes_117 rfl (lv_at hl 0 rfl) ?_
  obtain ⟨r_21, s_21, e_21, hf⟩ := mm_bd_ok hf
  refine mm_callV X hP hS hl.1 [] [] (cx_X11_outs l D ad cA hI  σ r_21 s_21 e_21) kp_30 rfl rfl wd_942 wd_944 wp_34 wd_12 wd_945 hd_X11_outs ⟨Nat.le_of_ble_eq_true rfl, Nat.le_of_ble_eq_true rfl⟩ rfl (Nat.le_of_ble_eq_true rfl) dX11_passes_118 (fun H locs hP hS => ?_)
  refine lv_iload_n hx hb dX11_passes_121 rfl (lv_at hl 1 rfl) ?_
  refine lv_isub hx hb dX11_passes_122 ?_
  obtain ⟨rfl, rfl⟩ := mm_ret hf
  exact mm_iret X hP hS dX11_passes_123
def fx_X11_passes_L18   : Nat → Int32 → Int32 → Int32 → mm_M → mm_R
  | 0, _, _, _, _ => none
  | fu + 1, v1, v2, v3, σ => if (σ 10 30 0 9) ≤ v3 then mm_bd (fx_X11_belts  σ) fun _ s_5 => (mm_bd (fx_X11_gears  s_5) fun _ s_6 => (mm_bd (fx_X11_touches  s_6) fun _ s_7 => (mm_lt (mm_u s_7 10 31 0 (5 : Int32).toNatClampNeg ((s_7 10 31 0 (5 : Int32).toNatClampNeg) + (1 : Int32))) fun s_8 => (mm_lt (mm_u s_8 10 31 0 (1 : Int32).toNatClampNeg ((s_8 10 31 0 (1 : Int32).toNatClampNeg) + (1 : Int32))) fun s_9 => (if (s_9 10 31 0 (1 : Int32).toNatClampNeg) = (5 : Int32) then mm_bd (fx_X11_ends  s_9) fun _ s_11 => (fx_X11_passes_J117 v1 s_11) else fx_X11_passes_J117 v1 s_9))))) else mm_gd (mm_ix v3 4 = true) (mm_bd (fx_X11_isOut (σ 10 37 0 v3.toNatClampNeg) σ) fun r_13 s_13 => (if r_13 = (0 : Int32) then mm_gd (mm_ix v3 4 = true) (mm_gd (mm_ix v3 4 = true) (mm_bd (fx_X11_of (s_13 10 37 0 v3.toNatClampNeg) ((7 : Int32) + ((2 : Int32) * v2)) s_13) fun r_18 s_18 => (mm_bd (fx_X11_does (s_13 10 37 0 v3.toNatClampNeg) r_18 s_18) fun _ s_19 => (mm_li (v3 + (1 : Int32)) fun y_20 => (fx_X11_passes_L18 fu v1 v2 y_20 s_19))))) else mm_li (v3 + (1 : Int32)) fun y_15 => (fx_X11_passes_L18 fu v1 v2 y_15 s_13)))
set_option maxHeartbeats 4000000 in
set_option maxRecDepth 100000 in
theorem cx_X11_passes_L18 {p : Program} {l : Launch} {e : Env} {s : State} {m : MethodId} {args : Array Value} {below : List Frame} {meth : Method} {c : Code} {D : va_G} {ad : mm_A} {cA : Nat → ClassId}   (rv : Int32) (σ1 : mm_M)  (X : mm_X p s m args meth c cX11_passes 4 (some .int) RX11 D ad cA) : ∀ (fu : Nat), ∀ (v1 : Int32) (v2 : Int32) (v3 : Int32) (σ : mm_M) (H : Heap) (locs : List Loc) (ls : Array Slot), fx_X11_passes_L18  fu v1 v2 v3 σ = some (rv, σ1) → va_P D vwCl (mm_wd ad cA σ) H → va_S (mm_AS ad) s.heap H locs → lv_has ls 4 [(0, .ref (ad 10 30 0)), (1, .int v1), (2, .int v2), (3, .int v3)] → W p l e (mm_rm 7 155) s m args below meth c H locs 0 0 (MQ below (mm_Q D ad cA (some (.int rv)) σ1) args s 0 0 (mm_AS ad)) (F0 m 18 ls []) := by
  have hx := X.1
  have hb := X.2.1
  have hI := X.2.2.2.2.2.2.2.2.2
  intro fu
  induction fu with
  | zero =>
    intro v1 v2 v3 σ H locs ls hf
    exact mm_no hf
  | succ fu ih =>
    intro v1 v2 v3 σ H locs ls hf hP hS hl
    rw [fx_X11_passes_L18] at hf
    refine lv_iload_n hx hb dX11_passes_18 rfl (lv_at hl 3 rfl) ?_
    refine lv_aload_n hx hb dX11_passes_19 rfl (lv_at hl 0 rfl) ?_
    refine gf_30_9 X hP  wd_778 dX11_passes_20 ?_
    refine lv_icmp_ge (tgt := 71) hx hb dX11_passes_23 (by decide) (fun c_4 => ?_) (fun c_4 => ?_)
    · replace hf := mm_it c_4 hf
      refine lv_aload_n hx hb dX11_passes_71 rfl (lv_at hl 0 rfl) ?_
      obtain ⟨r_5, s_5, e_5, hf⟩ := mm_bd_ok hf
      refine mm_callV X hP hS hl.1 [] [] (cx_X11_belts l D ad cA hI  σ r_5 s_5 e_5) kp_30 rfl rfl wd_982 wd_984 wp_44 wd_12 wd_985 hd_X11_belts ⟨Nat.le_of_ble_eq_true rfl, Nat.le_of_ble_eq_true rfl⟩ rfl (Nat.le_of_ble_eq_true rfl) dX11_passes_72 (fun H locs hP hS => ?_)
      refine lv_aload_n hx hb dX11_passes_75 rfl (lv_at hl 0 rfl) ?_
      obtain ⟨r_6, s_6, e_6, hf⟩ := mm_bd_ok hf
      refine mm_callV X hP hS hl.1 [] [] (cx_X11_gears l D ad cA hI  s_5 r_6 s_6 e_6) kp_30 rfl rfl wd_1002 wd_1004 wp_49 wd_12 wd_1005 hd_X11_gears ⟨Nat.le_of_ble_eq_true rfl, Nat.le_of_ble_eq_true rfl⟩ rfl (Nat.le_of_ble_eq_true rfl) dX11_passes_76 (fun H locs hP hS => ?_)
      refine lv_aload_n hx hb dX11_passes_79 rfl (lv_at hl 0 rfl) ?_
      obtain ⟨r_7, s_7, e_7, hf⟩ := mm_bd_ok hf
      refine mm_callV X hP hS hl.1 [] [] (cx_X11_touches l D ad cA hI  s_6 r_7 s_7 e_7) kp_30 rfl rfl wd_1006 wd_1008 wp_50 wd_12 wd_1009 hd_X11_touches ⟨Nat.le_of_ble_eq_true rfl, Nat.le_of_ble_eq_true rfl⟩ rfl (Nat.le_of_ble_eq_true rfl) dX11_passes_80 (fun H locs hP hS => ?_)
      refine lv_aload_n hx hb dX11_passes_83 rfl (lv_at hl 0 rfl) ?_
      refine gf_30_0 X hP  wd_769 dX11_passes_84 ?_
      refine lv_iconst (v := (5 : Int32)) hx hb dX11_passes_87 (by decide) ?_
      refine lv_dup2_11 hx hb dX11_passes_88 rfl rfl ?_
      refine al_31 X hP  (by decide : mm_ix (5 : Int32) 207 = true) dX11_passes_89 ?_
      refine lv_iconst (v := (1 : Int32)) hx hb dX11_passes_90 (by decide) ?_
      refine lv_iadd hx hb dX11_passes_91 ?_
      refine as_31 X hP hS  (by decide : mm_ix (5 : Int32) 207 = true)  dX11_passes_92 (fun H locs hP hS => ?_)
      obtain ⟨s_8, e_8, hf⟩ := mm_lt_ok hf
      rw [← e_8] at hP
      refine lv_aload_n hx hb dX11_passes_93 rfl (lv_at hl 0 rfl) ?_
      refine gf_30_0 X hP  wd_769 dX11_passes_94 ?_
      refine lv_iconst (v := (1 : Int32)) hx hb dX11_passes_97 (by decide) ?_
      refine lv_dup2_11 hx hb dX11_passes_98 rfl rfl ?_
      refine al_31 X hP  (by decide : mm_ix (1 : Int32) 207 = true) dX11_passes_99 ?_
      refine lv_iconst (v := (1 : Int32)) hx hb dX11_passes_100 (by decide) ?_
      refine lv_iadd hx hb dX11_passes_101 ?_
      refine as_31 X hP hS  (by decide : mm_ix (1 : Int32) 207 = true)  dX11_passes_102 (fun H locs hP hS => ?_)
      obtain ⟨s_9, e_9, hf⟩ := mm_lt_ok hf
      rw [← e_9] at hP
      refine lv_aload_n hx hb dX11_passes_103 rfl (lv_at hl 0 rfl) ?_
      refine gf_30_0 X hP  wd_769 dX11_passes_104 ?_
      refine lv_iconst (v := (1 : Int32)) hx hb dX11_passes_107 (by decide) ?_
      refine al_31 X hP  (by decide : mm_ix (1 : Int32) 207 = true) dX11_passes_108 ?_
      refine lv_iconst (v := (5 : Int32)) hx hb dX11_passes_109 (by decide) ?_
      refine lv_icmp_ne (tgt := 117) hx hb dX11_passes_110 (by decide) (fun c_10 => ?_) (fun c_10 => ?_)
      · replace hf := mm_if c_10 hf
        exact cx_X11_passes_J117 rv σ1 X v1 s_9 H locs ls hf hP hS (lv_sub hl [0, 1] rfl)
      · replace hf := mm_it c_10 hf
        refine lv_aload_n hx hb dX11_passes_113 rfl (lv_at hl 0 rfl) ?_
        obtain ⟨r_11, s_11, e_11, hf⟩ := mm_bd_ok hf
        refine mm_callV X hP hS hl.1 [] [] (cx_X11_ends l D ad cA hI  s_9 r_11 s_11 e_11) kp_30 rfl rfl wd_1014 wd_1016 wp_52 wd_12 wd_1017 hd_X11_ends ⟨Nat.le_of_ble_eq_true rfl, Nat.le_of_ble_eq_true rfl⟩ rfl (Nat.le_of_ble_eq_true rfl) dX11_passes_114 (fun H locs hP hS => ?_)
        exact cx_X11_passes_J117 rv σ1 X v1 s_11 H locs ls hf hP hS (lv_sub hl [0, 1] rfl)
    · replace hf := mm_if c_4 hf
      refine lv_aload_n hx hb dX11_passes_26 rfl (lv_at hl 0 rfl) ?_
      refine lv_aload_n hx hb dX11_passes_27 rfl (lv_at hl 0 rfl) ?_
      refine gf_30_8 X hP  wd_777 dX11_passes_28 ?_
      refine lv_iload_n hx hb dX11_passes_31 rfl (lv_at hl 3 rfl) ?_
      obtain ⟨h_12, hf⟩ := mm_gd_ok hf
      refine al_37 X hP  h_12 dX11_passes_32 ?_
      obtain ⟨r_13, s_13, e_13, hf⟩ := mm_bd_ok hf
      refine mm_callV X hP hS hl.1 [.int (σ 10 37 0 v3.toNatClampNeg)] [] (cx_X11_isOut l D ad cA hI (σ 10 37 0 v3.toNatClampNeg) σ r_13 s_13 e_13) kp_30 rfl rfl wd_907 wd_909 wp_28 wd_12 wd_910 hd_X11_isOut ⟨Nat.le_of_ble_eq_true rfl, Nat.le_of_ble_eq_true rfl⟩ rfl (Nat.le_of_ble_eq_true rfl) dX11_passes_33 (fun H locs hP hS => ?_)
      refine lv_if_ne (tgt := 65) hx hb dX11_passes_36 (by decide) (fun c_14 => ?_) (fun c_14 => ?_)
      · replace hf := mm_if c_14 hf
        obtain ⟨y_15, e_15, hf⟩ := mm_li_ok hf
        refine lv_iinc (v := y_15) (lv' := [(3, .int y_15), (0, .ref (ad 10 30 0)), (1, .int v1), (2, .int v2)]) hx hb dX11_passes_65 hl (k := 3) rfl (by rw [e_15]; rfl) (by decide) rfl (fun ls hl => ?_)
        refine lv_goto (tgt := 18) hx hb dX11_passes_68 (by decide) ?_
        exact ih v1 v2 y_15 s_13 H locs ls  hf hP hS (lv_sub hl [1, 2, 3, 0] rfl)
      · replace hf := mm_it c_14 hf
        refine lv_aload_n hx hb dX11_passes_39 rfl (lv_at hl 0 rfl) ?_
        refine lv_aload_n hx hb dX11_passes_40 rfl (lv_at hl 0 rfl) ?_
        refine gf_30_8 X hP  wd_777 dX11_passes_41 ?_
        refine lv_iload_n hx hb dX11_passes_44 rfl (lv_at hl 3 rfl) ?_
        obtain ⟨h_16, hf⟩ := mm_gd_ok hf
        refine al_37 X hP  h_16 dX11_passes_45 ?_
        refine lv_aload_n hx hb dX11_passes_46 rfl (lv_at hl 0 rfl) ?_
        refine lv_aload_n hx hb dX11_passes_47 rfl (lv_at hl 0 rfl) ?_
        refine gf_30_8 X hP  wd_777 dX11_passes_48 ?_
        refine lv_iload_n hx hb dX11_passes_51 rfl (lv_at hl 3 rfl) ?_
        obtain ⟨h_17, hf⟩ := mm_gd_ok hf
        refine al_37 X hP  h_17 dX11_passes_52 ?_
        refine lv_bipush (v := (7 : Int32)) hx hb dX11_passes_53 (by decide) ?_
        refine lv_iconst (v := (2 : Int32)) hx hb dX11_passes_55 (by decide) ?_
        refine lv_iload_n hx hb dX11_passes_56 rfl (lv_at hl 2 rfl) ?_
        refine lv_imul hx hb dX11_passes_57 ?_
        refine lv_iadd hx hb dX11_passes_58 ?_
        obtain ⟨r_18, s_18, e_18, hf⟩ := mm_bd_ok hf
        refine mm_callV X hP hS hl.1 [.int (s_13 10 37 0 v3.toNatClampNeg), .int ((7 : Int32) + ((2 : Int32) * v2))] [.int (s_13 10 37 0 v3.toNatClampNeg), .ref (ad 10 30 0)] (cx_X11_of l D ad cA hI (s_13 10 37 0 v3.toNatClampNeg) ((7 : Int32) + ((2 : Int32) * v2)) s_13 r_18 s_18 e_18) kp_30 rfl rfl wd_850 wd_852 wp_19 wd_12 wd_853 hd_X11_of ⟨Nat.le_of_ble_eq_true rfl, Nat.le_of_ble_eq_true rfl⟩ rfl (Nat.le_of_ble_eq_true rfl) dX11_passes_59 (fun H locs hP hS => ?_)
        obtain ⟨r_19, s_19, e_19, hf⟩ := mm_bd_ok hf
        refine mm_callV X hP hS hl.1 [.int (s_13 10 37 0 v3.toNatClampNeg), .int r_18] [] (cx_X11_does l D ad cA hI (s_13 10 37 0 v3.toNatClampNeg) r_18 s_18 r_19 s_19 e_19) kp_30 rfl rfl wd_950 wd_952 wp_36 wd_12 wd_953 hd_X11_does ⟨Nat.le_of_ble_eq_true rfl, Nat.le_of_ble_eq_true rfl⟩ rfl (Nat.le_of_ble_eq_true rfl) dX11_passes_62 (fun H locs hP hS => ?_)
        obtain ⟨y_20, e_20, hf⟩ := mm_li_ok hf
        refine lv_iinc (v := y_20) (lv' := [(3, .int y_20), (0, .ref (ad 10 30 0)), (1, .int v1), (2, .int v2)]) hx hb dX11_passes_65 hl (k := 3) rfl (by rw [e_20]; rfl) (by decide) rfl (fun ls hl => ?_)
        refine lv_goto (tgt := 18) hx hb dX11_passes_68 (by decide) ?_
        exact ih v1 v2 y_20 s_19 H locs ls  hf hP hS (lv_sub hl [1, 2, 3, 0] rfl)
def fx_X11_passes  (σ : mm_M) : mm_R := mm_bd (fx_X11_outs  σ) fun r_1 s_1 => (mm_li (s_1 10 31 0 (1 : Int32).toNatClampNeg) fun y_2 => (mm_bd (fx_X11_orders  s_1) fun _ s_3 => (fx_X11_passes_L18 mm_FU r_1 y_2 (0 : Int32) s_3)))
set_option maxHeartbeats 4000000 in
set_option maxRecDepth 100000 in
theorem cx_X11_passes (l : Launch) (D : va_G) (ad : mm_A) (cA : Nat → ClassId) (hI : mm_Inj ad)   (σ : mm_M) (rv : Int32) (σ1 : mm_M) (hf : fx_X11_passes  σ = some (rv, σ1)) : Met l yX11_passes (Cond.code yX11_passes cX11_passes 4 (some .int) :: tb) (mm_rm 7 155) (mm_pre D ad cA [.ref (ad 10 30 0)] σ) (mm_Q D ad cA (some (.int rv)) σ1) 0 0 (mm_AS ad) := by
  refine mm_start (by decide +kernel) hI (Nat.le_of_ble_eq_true rfl) ?_
  intro p e s m args below meth c X hP ls hl
  have hl : lv_has ls 4 [(0, .ref (ad 10 30 0))] := hl
  have hx := X.1
  have hb := X.2.1
  have hS : va_S (mm_AS ad) s.heap s.heap [] := va_S.rf
  have hgen : ∀ (H : Heap) (locs : List Loc), va_P D vwCl (mm_wd ad cA σ) H → va_S (mm_AS ad) s.heap H locs → W p l e (mm_rm 7 155) s m args below meth c H locs 0 0 (MQ below (mm_Q D ad cA (some (.int rv)) σ1) args s 0 0 (mm_AS ad)) (F0 m 0 ls []) := by
    intro H locs hP hS
    rw [fx_X11_passes] at hf
    refine lv_aload_n hx hb dX11_passes_0 rfl (lv_at hl 0 rfl) ?_
    obtain ⟨r_1, s_1, e_1, hf⟩ := mm_bd_ok hf
    refine mm_callV X hP hS hl.1 [] [] (cx_X11_outs l D ad cA hI  σ r_1 s_1 e_1) kp_30 rfl rfl wd_942 wd_944 wp_34 wd_12 wd_945 hd_X11_outs ⟨Nat.le_of_ble_eq_true rfl, Nat.le_of_ble_eq_true rfl⟩ rfl (Nat.le_of_ble_eq_true rfl) dX11_passes_1 (fun H locs hP hS => ?_)
    refine lv_istore_n (lv' := [(1, .int r_1), (0, .ref (ad 10 30 0))]) hx hb dX11_passes_4 rfl hl (by decide) rfl (fun ls hl => ?_)
    refine lv_aload_n hx hb dX11_passes_5 rfl (lv_at hl 1 rfl) ?_
    refine gf_30_0 X hP  wd_769 dX11_passes_6 ?_
    refine lv_iconst (v := (1 : Int32)) hx hb dX11_passes_9 (by decide) ?_
    refine al_31 X hP  (by decide : mm_ix (1 : Int32) 207 = true) dX11_passes_10 ?_
    obtain ⟨y_2, e_2, hf⟩ := mm_li_ok hf
    rw [← e_2]
    refine lv_istore_n (lv' := [(2, .int y_2), (1, .int r_1), (0, .ref (ad 10 30 0))]) hx hb dX11_passes_11 rfl hl (by decide) rfl (fun ls hl => ?_)
    refine lv_aload_n hx hb dX11_passes_12 rfl (lv_at hl 2 rfl) ?_
    obtain ⟨r_3, s_3, e_3, hf⟩ := mm_bd_ok hf
    refine mm_callV X hP hS hl.1 [] [] (cx_X11_orders l D ad cA hI  s_1 r_3 s_3 e_3) kp_30 rfl rfl wd_946 wd_948 wp_35 wd_12 wd_949 hd_X11_orders ⟨Nat.le_of_ble_eq_true rfl, Nat.le_of_ble_eq_true rfl⟩ rfl (Nat.le_of_ble_eq_true rfl) dX11_passes_13 (fun H locs hP hS => ?_)
    refine lv_iconst (v := (0 : Int32)) hx hb dX11_passes_16 (by decide) ?_
    refine lv_istore_n (lv' := [(3, .int (0 : Int32)), (2, .int y_2), (1, .int r_1), (0, .ref (ad 10 30 0))]) hx hb dX11_passes_17 rfl hl (by decide) rfl (fun ls hl => ?_)
    exact cx_X11_passes_L18 rv σ1 X mm_FU r_1 y_2 (0 : Int32) s_3 H locs ls hf hP hS (lv_sub hl [3, 2, 1, 0] rfl)
  exact hgen _ _ hP hS
def fx_X11_phases  (σ : mm_M) : mm_R := if (σ 10 31 0 (0 : Int32).toNatClampNeg) = (0 : Int32) then some ((-1000002 : Int32), σ) else mm_bd (fx_X11_passes  σ) fun r_2 s_2 => (some (r_2, s_2))
set_option maxHeartbeats 4000000 in
set_option maxRecDepth 100000 in
theorem cx_X11_phases (l : Launch) (D : va_G) (ad : mm_A) (cA : Nat → ClassId) (hI : mm_Inj ad)   (σ : mm_M) (rv : Int32) (σ1 : mm_M) (hf : fx_X11_phases  σ = some (rv, σ1)) : Met l yX11_phases (Cond.code yX11_phases cX11_phases 1 (some .int) :: tb) (mm_rm 8 178) (mm_pre D ad cA [.ref (ad 10 30 0)] σ) (mm_Q D ad cA (some (.int rv)) σ1) 0 0 (mm_AS ad) := by
  refine mm_start (by decide +kernel) hI (Nat.le_of_ble_eq_true rfl) ?_
  intro p e s m args below meth c X hP ls hl
  have hl : lv_has ls 1 [(0, .ref (ad 10 30 0))] := hl
  have hx := X.1
  have hb := X.2.1
  have hS : va_S (mm_AS ad) s.heap s.heap [] := va_S.rf
  have hgen : ∀ (H : Heap) (locs : List Loc), va_P D vwCl (mm_wd ad cA σ) H → va_S (mm_AS ad) s.heap H locs → W p l e (mm_rm 8 178) s m args below meth c H locs 0 0 (MQ below (mm_Q D ad cA (some (.int rv)) σ1) args s 0 0 (mm_AS ad)) (F0 m 0 ls []) := by
    intro H locs hP hS
    rw [fx_X11_phases] at hf
    refine lv_aload_n hx hb dX11_phases_0 rfl (lv_at hl 0 rfl) ?_
    refine gf_30_0 X hP  wd_769 dX11_phases_1 ?_
    refine lv_iconst (v := (0 : Int32)) hx hb dX11_phases_4 (by decide) ?_
    refine al_31 X hP  (by decide : mm_ix (0 : Int32) 207 = true) dX11_phases_5 ?_
    refine lv_if_ne (tgt := 14) hx hb dX11_phases_6 (by decide) (fun c_1 => ?_) (fun c_1 => ?_)
    · replace hf := mm_if c_1 hf
      refine lv_aload_n hx hb dX11_phases_14 rfl (lv_at hl 0 rfl) ?_
      obtain ⟨r_2, s_2, e_2, hf⟩ := mm_bd_ok hf
      refine mm_callV X hP hS hl.1 [] [] (cx_X11_passes l D ad cA hI  σ r_2 s_2 e_2) kp_30 rfl rfl wd_938 wd_940 wp_33 wd_12 wd_941 hd_X11_passes ⟨Nat.le_of_ble_eq_true rfl, Nat.le_of_ble_eq_true rfl⟩ rfl (Nat.le_of_ble_eq_true rfl) dX11_phases_15 (fun H locs hP hS => ?_)
      obtain ⟨rfl, rfl⟩ := mm_ret hf
      exact mm_iret X hP hS dX11_phases_18
    · replace hf := mm_it c_1 hf
      refine lv_ldc (v := (-1000002 : Int32)) hx hb X.2.2.2.2.2.1 (X.2.2.2.2.2.2.1 _ wd_854) dX11_phases_9 ?_
      refine lv_goto (tgt := 18) hx hb dX11_phases_11 (by decide) ?_
      obtain ⟨rfl, rfl⟩ := mm_ret hf
      exact mm_iret X hP hS dX11_phases_18
  exact hgen _ _ hP hS
def fx_X11_phase  (σ : mm_M) : mm_R := mm_bd (fx_X11_begins  σ) fun _ s_1 => (mm_bd (fx_X11_phases  s_1) fun r_2 s_2 => (mm_bd (fx_X11_acted r_2 s_2) fun r_3 s_3 => (some (r_3, s_3))))
set_option maxHeartbeats 4000000 in
set_option maxRecDepth 100000 in
theorem cx_X11_phase (l : Launch) (D : va_G) (ad : mm_A) (cA : Nat → ClassId) (hI : mm_Inj ad)   (σ : mm_M) (rv : Int32) (σ1 : mm_M) (hf : fx_X11_phase  σ = some (rv, σ1)) : Met l yX11_phase (Cond.code yX11_phase cX11_phase 1 (some .int) :: tb) (mm_rm 9 198) (mm_pre D ad cA [.ref (ad 10 30 0)] σ) (mm_Q D ad cA (some (.int rv)) σ1) 0 0 (mm_AS ad) := by
  refine mm_start (by decide +kernel) hI (Nat.le_of_ble_eq_true rfl) ?_
  intro p e s m args below meth c X hP ls hl
  have hl : lv_has ls 1 [(0, .ref (ad 10 30 0))] := hl
  have hx := X.1
  have hb := X.2.1
  have hS : va_S (mm_AS ad) s.heap s.heap [] := va_S.rf
  have hgen : ∀ (H : Heap) (locs : List Loc), va_P D vwCl (mm_wd ad cA σ) H → va_S (mm_AS ad) s.heap H locs → W p l e (mm_rm 9 198) s m args below meth c H locs 0 0 (MQ below (mm_Q D ad cA (some (.int rv)) σ1) args s 0 0 (mm_AS ad)) (F0 m 0 ls []) := by
    intro H locs hP hS
    rw [fx_X11_phase] at hf
    refine lv_aload_n hx hb dX11_phase_0 rfl (lv_at hl 0 rfl) ?_
    obtain ⟨r_1, s_1, e_1, hf⟩ := mm_bd_ok hf
    refine mm_callV X hP hS hl.1 [] [] (cx_X11_begins l D ad cA hI  σ r_1 s_1 e_1) kp_30 rfl rfl wd_831 wd_833 wp_16 wd_12 wd_834 hd_X11_begins ⟨Nat.le_of_ble_eq_true rfl, Nat.le_of_ble_eq_true rfl⟩ rfl (Nat.le_of_ble_eq_true rfl) dX11_phase_1 (fun H locs hP hS => ?_)
    refine lv_aload_n hx hb dX11_phase_4 rfl (lv_at hl 0 rfl) ?_
    refine lv_aload_n hx hb dX11_phase_5 rfl (lv_at hl 0 rfl) ?_
    obtain ⟨r_2, s_2, e_2, hf⟩ := mm_bd_ok hf
    refine mm_callV X hP hS hl.1 [] [.ref (ad 10 30 0)] (cx_X11_phases l D ad cA hI  s_1 r_2 s_2 e_2) kp_30 rfl rfl wd_934 wd_936 wp_32 wd_12 wd_937 hd_X11_phases ⟨Nat.le_of_ble_eq_true rfl, Nat.le_of_ble_eq_true rfl⟩ rfl (Nat.le_of_ble_eq_true rfl) dX11_phase_6 (fun H locs hP hS => ?_)
    obtain ⟨r_3, s_3, e_3, hf⟩ := mm_bd_ok hf
    refine mm_callV X hP hS hl.1 [.int r_2] [] (cx_X11_acted l D ad cA hI r_2 s_2 r_3 s_3 e_3) kp_30 rfl rfl wd_855 wd_857 wp_20 wd_12 wd_858 hd_X11_acted ⟨Nat.le_of_ble_eq_true rfl, Nat.le_of_ble_eq_true rfl⟩ rfl (Nat.le_of_ble_eq_true rfl) dX11_phase_9 (fun H locs hP hS => ?_)
    obtain ⟨rfl, rfl⟩ := mm_ret hf
    exact mm_iret X hP hS dX11_phase_12
  exact hgen _ _ hP hS
def fx_X11_round_L21   : Nat → Int32 → mm_M → mm_R
  | 0, _, _ => none
  | fu + 1, v1, σ => if (σ 10 31 0 (1 : Int32).toNatClampNeg) ≤ (0 : Int32) then mm_bd (fx_X11_acted v1 σ) fun r_5 s_5 => (some (r_5, s_5)) else mm_bd (fx_X11_passes  σ) fun r_6 s_6 => (mm_li (v1 + r_6) fun y_7 => (fx_X11_round_L21 fu y_7 s_6))
set_option maxHeartbeats 4000000 in
set_option maxRecDepth 100000 in
theorem cx_X11_round_L21 {p : Program} {l : Launch} {e : Env} {s : State} {m : MethodId} {args : Array Value} {below : List Frame} {meth : Method} {c : Code} {D : va_G} {ad : mm_A} {cA : Nat → ClassId}   (rv : Int32) (σ1 : mm_M)  (X : mm_X p s m args meth c cX11_round 2 (some .int) RX11 D ad cA) : ∀ (fu : Nat), ∀ (v1 : Int32) (σ : mm_M) (H : Heap) (locs : List Loc) (ls : Array Slot), fx_X11_round_L21  fu v1 σ = some (rv, σ1) → va_P D vwCl (mm_wd ad cA σ) H → va_S (mm_AS ad) s.heap H locs → lv_has ls 2 [(0, .ref (ad 10 30 0)), (1, .int v1)] → W p l e (mm_rm 8 178) s m args below meth c H locs 0 0 (MQ below (mm_Q D ad cA (some (.int rv)) σ1) args s 0 0 (mm_AS ad)) (F0 m 21 ls []) := by
  have hx := X.1
  have hb := X.2.1
  have hI := X.2.2.2.2.2.2.2.2.2
  intro fu
  induction fu with
  | zero =>
    intro v1 σ H locs ls hf
    exact mm_no hf
  | succ fu ih =>
    intro v1 σ H locs ls hf hP hS hl
    rw [fx_X11_round_L21] at hf
    refine lv_aload_n hx hb dX11_round_21 rfl (lv_at hl 0 rfl) ?_
    refine gf_30_0 X hP  wd_769 dX11_round_22 ?_
    refine lv_iconst (v := (1 : Int32)) hx hb dX11_round_25 (by decide) ?_
    refine al_31 X hP  (by decide : mm_ix (1 : Int32) 207 = true) dX11_round_26 ?_
    refine lv_if_le (tgt := 40) hx hb dX11_round_27 (by decide) (fun c_4 => ?_) (fun c_4 => ?_)
    · replace hf := mm_it c_4 hf
      refine lv_aload_n hx hb dX11_round_40 rfl (lv_at hl 0 rfl) ?_
      refine lv_iload_n hx hb dX11_round_41 rfl (lv_at hl 1 rfl) ?_
      obtain ⟨r_5, s_5, e_5, hf⟩ := mm_bd_ok hf
      refine mm_callV X hP hS hl.1 [.int v1] [] (cx_X11_acted l D ad cA hI v1 σ r_5 s_5 e_5) kp_30 rfl rfl wd_855 wd_857 wp_20 wd_12 wd_858 hd_X11_acted ⟨Nat.le_of_ble_eq_true rfl, Nat.le_of_ble_eq_true rfl⟩ rfl (Nat.le_of_ble_eq_true rfl) dX11_round_42 (fun H locs hP hS => ?_)
      obtain ⟨rfl, rfl⟩ := mm_ret hf
      exact mm_iret X hP hS dX11_round_45
    · replace hf := mm_if c_4 hf
      refine lv_iload_n hx hb dX11_round_30 rfl (lv_at hl 1 rfl) ?_
      refine lv_aload_n hx hb dX11_round_31 rfl (lv_at hl 0 rfl) ?_
      obtain ⟨r_6, s_6, e_6, hf⟩ := mm_bd_ok hf
      refine mm_callV X hP hS hl.1 [] [.int v1] (cx_X11_passes l D ad cA hI  σ r_6 s_6 e_6) kp_30 rfl rfl wd_938 wd_940 wp_33 wd_12 wd_941 hd_X11_passes ⟨Nat.le_of_ble_eq_true rfl, Nat.le_of_ble_eq_true rfl⟩ rfl (Nat.le_of_ble_eq_true rfl) dX11_round_32 (fun H locs hP hS => ?_)
      refine lv_iadd hx hb dX11_round_35 ?_
      obtain ⟨y_7, e_7, hf⟩ := mm_li_ok hf
      rw [← e_7]
      refine lv_istore_n (lv' := [(1, .int y_7), (0, .ref (ad 10 30 0))]) hx hb dX11_round_36 rfl hl (by decide) rfl (fun ls hl => ?_)
      refine lv_goto (tgt := 21) hx hb dX11_round_37 (by decide) ?_
      exact ih y_7 s_6 H locs ls  hf hP hS (lv_sub hl [1, 0] rfl)
def fx_X11_round  (σ : mm_M) : mm_R := mm_bd (fx_X11_begins  σ) fun _ s_1 => (if (s_1 10 31 0 (0 : Int32).toNatClampNeg) = (0 : Int32) then some ((-1000002 : Int32), s_1) else mm_bd (fx_X11_passes  s_1) fun r_3 s_3 => (fx_X11_round_L21 mm_FU r_3 s_3))
set_option maxHeartbeats 4000000 in
set_option maxRecDepth 100000 in
theorem cx_X11_round (l : Launch) (D : va_G) (ad : mm_A) (cA : Nat → ClassId) (hI : mm_Inj ad)   (σ : mm_M) (rv : Int32) (σ1 : mm_M) (hf : fx_X11_round  σ = some (rv, σ1)) : Met l yX11_round (Cond.code yX11_round cX11_round 2 (some .int) :: tb) (mm_rm 8 178) (mm_pre D ad cA [.ref (ad 10 30 0)] σ) (mm_Q D ad cA (some (.int rv)) σ1) 0 0 (mm_AS ad) := by
  refine mm_start (by decide +kernel) hI (Nat.le_of_ble_eq_true rfl) ?_
  intro p e s m args below meth c X hP ls hl
  have hl : lv_has ls 2 [(0, .ref (ad 10 30 0))] := hl
  have hx := X.1
  have hb := X.2.1
  have hS : va_S (mm_AS ad) s.heap s.heap [] := va_S.rf
  have hgen : ∀ (H : Heap) (locs : List Loc), va_P D vwCl (mm_wd ad cA σ) H → va_S (mm_AS ad) s.heap H locs → W p l e (mm_rm 8 178) s m args below meth c H locs 0 0 (MQ below (mm_Q D ad cA (some (.int rv)) σ1) args s 0 0 (mm_AS ad)) (F0 m 0 ls []) := by
    intro H locs hP hS
    rw [fx_X11_round] at hf
    refine lv_aload_n hx hb dX11_round_0 rfl (lv_at hl 0 rfl) ?_
    obtain ⟨r_1, s_1, e_1, hf⟩ := mm_bd_ok hf
    refine mm_callV X hP hS hl.1 [] [] (cx_X11_begins l D ad cA hI  σ r_1 s_1 e_1) kp_30 rfl rfl wd_831 wd_833 wp_16 wd_12 wd_834 hd_X11_begins ⟨Nat.le_of_ble_eq_true rfl, Nat.le_of_ble_eq_true rfl⟩ rfl (Nat.le_of_ble_eq_true rfl) dX11_round_1 (fun H locs hP hS => ?_)
    refine lv_aload_n hx hb dX11_round_4 rfl (lv_at hl 0 rfl) ?_
    refine gf_30_0 X hP  wd_769 dX11_round_5 ?_
    refine lv_iconst (v := (0 : Int32)) hx hb dX11_round_8 (by decide) ?_
    refine al_31 X hP  (by decide : mm_ix (0 : Int32) 207 = true) dX11_round_9 ?_
    refine lv_if_ne (tgt := 16) hx hb dX11_round_10 (by decide) (fun c_2 => ?_) (fun c_2 => ?_)
    · replace hf := mm_if c_2 hf
      refine lv_aload_n hx hb dX11_round_16 rfl (lv_at hl 0 rfl) ?_
      obtain ⟨r_3, s_3, e_3, hf⟩ := mm_bd_ok hf
      refine mm_callV X hP hS hl.1 [] [] (cx_X11_passes l D ad cA hI  s_1 r_3 s_3 e_3) kp_30 rfl rfl wd_938 wd_940 wp_33 wd_12 wd_941 hd_X11_passes ⟨Nat.le_of_ble_eq_true rfl, Nat.le_of_ble_eq_true rfl⟩ rfl (Nat.le_of_ble_eq_true rfl) dX11_round_17 (fun H locs hP hS => ?_)
      refine lv_istore_n (lv' := [(1, .int r_3), (0, .ref (ad 10 30 0))]) hx hb dX11_round_20 rfl hl (by decide) rfl (fun ls hl => ?_)
      exact cx_X11_round_L21 rv σ1 X mm_FU r_3 s_3 H locs ls hf hP hS (lv_sub hl [1, 0] rfl)
    · replace hf := mm_it c_2 hf
      refine lv_ldc (v := (-1000002 : Int32)) hx hb X.2.2.2.2.2.1 (X.2.2.2.2.2.2.1 _ wd_854) dX11_round_13 ?_
      obtain ⟨rfl, rfl⟩ := mm_ret hf
      exact mm_iret X hP hS dX11_round_15
  exact hgen _ _ hP hS
def fx_X11_orNone (x0 : Int32) (σ : mm_M) : mm_R := if (0 : Int32) ≤ x0 then some (x0, σ) else some ((-1000004 : Int32), σ)
set_option maxHeartbeats 4000000 in
set_option maxRecDepth 100000 in
theorem cx_X11_orNone (l : Launch) (D : va_G) (ad : mm_A) (cA : Nat → ClassId) (hI : mm_Inj ad) (x0 : Int32)  (σ : mm_M) (rv : Int32) (σ1 : mm_M) (hf : fx_X11_orNone x0 σ = some (rv, σ1)) : Met l yX11_orNone (Cond.code yX11_orNone cX11_orNone 1 (some .int) :: tb) (mm_rm 0 0) (mm_pre D ad cA [.int x0] σ) (mm_Q D ad cA (some (.int rv)) σ1) 0 0 (mm_AS ad) := by
  refine mm_start (by decide +kernel) hI (Nat.le_of_ble_eq_true rfl) ?_
  intro p e s m args below meth c X hP ls hl
  have hl : lv_has ls 1 [(0, .int x0)] := hl
  have hx := X.1
  have hb := X.2.1
  have hS : va_S (mm_AS ad) s.heap s.heap [] := va_S.rf
  have hgen : ∀ (H : Heap) (locs : List Loc), va_P D vwCl (mm_wd ad cA σ) H → va_S (mm_AS ad) s.heap H locs → W p l e (mm_rm 0 0) s m args below meth c H locs 0 0 (MQ below (mm_Q D ad cA (some (.int rv)) σ1) args s 0 0 (mm_AS ad)) (F0 m 0 ls []) := by
    intro H locs hP hS
    rw [fx_X11_orNone] at hf
    refine lv_iload_n hx hb dX11_orNone_0 rfl (lv_at hl 0 rfl) ?_
    refine lv_if_ge (tgt := 9) hx hb dX11_orNone_1 (by decide) (fun c_1 => ?_) (fun c_1 => ?_)
    · replace hf := mm_it c_1 hf
      refine lv_iload_n hx hb dX11_orNone_9 rfl (lv_at hl 0 rfl) ?_
      obtain ⟨rfl, rfl⟩ := mm_ret hf
      exact mm_iret X hP hS dX11_orNone_10
    · replace hf := mm_if c_1 hf
      refine lv_ldc (v := (-1000004 : Int32)) hx hb X.2.2.2.2.2.1 (X.2.2.2.2.2.2.1 _ wd_1037) dX11_orNone_4 ?_
      refine lv_goto (tgt := 10) hx hb dX11_orNone_6 (by decide) ?_
      obtain ⟨rfl, rfl⟩ := mm_ret hf
      exact mm_iret X hP hS dX11_orNone_10
  exact hgen _ _ hP hS
def fx_X11_flagOn_J33 (x1 : Int32) (k11 : Int32 → Int32 → mm_M → mm_R) (v3 : Int32) (w0 : Int32) (σ : mm_M) : mm_R := mm_li (v3 + (-1 : Int32)) fun y_5 => (k11 w0 y_5 σ)
set_option maxHeartbeats 4000000 in
set_option maxRecDepth 100000 in
theorem cx_X11_flagOn_J33 {p : Program} {l : Launch} {e : Env} {s : State} {m : MethodId} {args : Array Value} {below : List Frame} {meth : Method} {c : Code} {D : va_G} {ad : mm_A} {cA : Nat → ClassId} (x1 : Int32)  (rv : Int32) (σ1 : mm_M) (k11 : Int32 → Int32 → mm_M → mm_R) (hk11 : ∀ (v2 : Int32) (v3 : Int32) (σ : mm_M) (H : Heap) (locs : List Loc) (ls : Array Slot), k11 v2 v3 σ = some (rv, σ1) → va_P D vwCl (mm_wd ad cA σ) H → va_S (mm_AS ad) s.heap H locs → lv_has ls 4 [(0, .ref (ad 10 30 0)), (1, .int x1), (2, .int v2), (3, .int v3)] → W p l e (mm_rm 0 0) s m args below meth c H locs 0 0 (MQ below (mm_Q D ad cA (some (.int rv)) σ1) args s 0 0 (mm_AS ad)) (F0 m 11 ls [])) (X : mm_X p s m args meth c cX11_flagOn 4 (some .int) RX11 D ad cA) : ∀ (v3 : Int32) (w0 : Int32) (σ : mm_M) (H : Heap) (locs : List Loc) (ls : Array Slot), fx_X11_flagOn_J33 x1 k11 v3 w0 σ = some (rv, σ1) → va_P D vwCl (mm_wd ad cA σ) H → va_S (mm_AS ad) s.heap H locs → lv_has ls 4 [(0, .ref (ad 10 30 0)), (1, .int x1), (3, .int v3)] → W p l e (mm_rm 0 0) s m args below meth c H locs 0 0 (MQ below (mm_Q D ad cA (some (.int rv)) σ1) args s 0 0 (mm_AS ad)) (F0 m 33 ls [.int w0]) := by
  have hx := X.1
  have hb := X.2.1
  have hI := X.2.2.2.2.2.2.2.2.2
  intro v3 w0 σ H locs ls hf hP hS hl
  rw [fx_X11_flagOn_J33] at hf
  refine lv_istore_n (lv' := [(2, .int w0), (0, .ref (ad 10 30 0)), (1, .int x1), (3, .int v3)]) hx hb dX11_flagOn_33 rfl hl (by decide) rfl (fun ls hl => ?_)
  obtain ⟨y_5, e_5, hf⟩ := mm_li_ok hf
  refine lv_iinc (v := y_5) (lv' := [(3, .int y_5), (2, .int w0), (0, .ref (ad 10 30 0)), (1, .int x1)]) hx hb dX11_flagOn_34 hl (k := 3) rfl (by rw [e_5]; rfl) (by decide) rfl (fun ls hl => ?_)
  refine lv_goto (tgt := 11) hx hb dX11_flagOn_37 (by decide) ?_
  exact hk11 w0 y_5 σ H locs ls  hf hP hS (lv_sub hl [2, 3, 1, 0] rfl)
def fx_X11_flagOn_L11 (x1 : Int32)  : Nat → Int32 → Int32 → mm_M → mm_R
  | 0, _, _, _ => none
  | fu + 1, v2, v3, σ => if v3 < (0 : Int32) then some (v2, σ) else mm_gd (mm_ix ((7 : Int32) + v3) 207 = true) (if (σ 10 31 0 ((7 : Int32) + v3).toNatClampNeg) = x1 then fx_X11_flagOn_J33 x1 (fun z0 z1 z => fx_X11_flagOn_L11 x1 fu z0 z1 z) v3 v3 σ else fx_X11_flagOn_J33 x1 (fun z0 z1 z => fx_X11_flagOn_L11 x1 fu z0 z1 z) v3 v2 σ)
set_option maxHeartbeats 4000000 in
set_option maxRecDepth 100000 in
theorem cx_X11_flagOn_L11 {p : Program} {l : Launch} {e : Env} {s : State} {m : MethodId} {args : Array Value} {below : List Frame} {meth : Method} {c : Code} {D : va_G} {ad : mm_A} {cA : Nat → ClassId} (x1 : Int32)  (rv : Int32) (σ1 : mm_M)  (X : mm_X p s m args meth c cX11_flagOn 4 (some .int) RX11 D ad cA) : ∀ (fu : Nat), ∀ (v2 : Int32) (v3 : Int32) (σ : mm_M) (H : Heap) (locs : List Loc) (ls : Array Slot), fx_X11_flagOn_L11 x1 fu v2 v3 σ = some (rv, σ1) → va_P D vwCl (mm_wd ad cA σ) H → va_S (mm_AS ad) s.heap H locs → lv_has ls 4 [(0, .ref (ad 10 30 0)), (1, .int x1), (2, .int v2), (3, .int v3)] → W p l e (mm_rm 0 0) s m args below meth c H locs 0 0 (MQ below (mm_Q D ad cA (some (.int rv)) σ1) args s 0 0 (mm_AS ad)) (F0 m 11 ls []) := by
  have hx := X.1
  have hb := X.2.1
  have hI := X.2.2.2.2.2.2.2.2.2
  intro fu
  induction fu with
  | zero =>
    intro v2 v3 σ H locs ls hf
    exact mm_no hf
  | succ fu ih =>
    intro v2 v3 σ H locs ls hf hP hS hl
    rw [fx_X11_flagOn_L11] at hf
    refine lv_iload_n hx hb dX11_flagOn_11 rfl (lv_at hl 3 rfl) ?_
    refine lv_if_lt (tgt := 40) hx hb dX11_flagOn_12 (by decide) (fun c_2 => ?_) (fun c_2 => ?_)
    · replace hf := mm_it c_2 hf
      refine lv_iload_n hx hb dX11_flagOn_40 rfl (lv_at hl 2 rfl) ?_
      obtain ⟨rfl, rfl⟩ := mm_ret hf
      exact mm_iret X hP hS dX11_flagOn_41
    · replace hf := mm_if c_2 hf
      refine lv_aload_n hx hb dX11_flagOn_15 rfl (lv_at hl 0 rfl) ?_
      refine gf_30_0 X hP  wd_769 dX11_flagOn_16 ?_
      refine lv_bipush (v := (7 : Int32)) hx hb dX11_flagOn_19 (by decide) ?_
      refine lv_iload_n hx hb dX11_flagOn_21 rfl (lv_at hl 3 rfl) ?_
      refine lv_iadd hx hb dX11_flagOn_22 ?_
      obtain ⟨h_3, hf⟩ := mm_gd_ok hf
      refine al_31 X hP  h_3 dX11_flagOn_23 ?_
      refine lv_iload_n hx hb dX11_flagOn_24 rfl (lv_at hl 1 rfl) ?_
      refine lv_icmp_ne (tgt := 32) hx hb dX11_flagOn_25 (by decide) (fun c_4 => ?_) (fun c_4 => ?_)
      · replace hf := mm_if c_4 hf
        refine lv_iload_n hx hb dX11_flagOn_32 rfl (lv_at hl 2 rfl) ?_
        exact cx_X11_flagOn_J33 x1 rv σ1 (fun z0 z1 z => fx_X11_flagOn_L11 x1 fu z0 z1 z) ih X v3 v2 σ H locs ls hf hP hS (lv_sub hl [0, 1, 3] rfl)
      · replace hf := mm_it c_4 hf
        refine lv_iload_n hx hb dX11_flagOn_28 rfl (lv_at hl 3 rfl) ?_
        refine lv_goto (tgt := 33) hx hb dX11_flagOn_29 (by decide) ?_
        exact cx_X11_flagOn_J33 x1 rv σ1 (fun z0 z1 z => fx_X11_flagOn_L11 x1 fu z0 z1 z) ih X v3 v3 σ H locs ls hf hP hS (lv_sub hl [0, 1, 3] rfl)
def fx_X11_flagOn (x1 : Int32) (σ : mm_M) : mm_R := mm_li ((σ 10 31 0 (3 : Int32).toNatClampNeg) - (1 : Int32)) fun y_1 => (fx_X11_flagOn_L11 x1 mm_FU (-1 : Int32) y_1 σ)
set_option maxHeartbeats 4000000 in
set_option maxRecDepth 100000 in
theorem cx_X11_flagOn (l : Launch) (D : va_G) (ad : mm_A) (cA : Nat → ClassId) (hI : mm_Inj ad) (x1 : Int32)  (σ : mm_M) (rv : Int32) (σ1 : mm_M) (hf : fx_X11_flagOn x1 σ = some (rv, σ1)) : Met l yX11_flagOn (Cond.code yX11_flagOn cX11_flagOn 4 (some .int) :: tb) (mm_rm 0 0) (mm_pre D ad cA [.ref (ad 10 30 0), .int x1] σ) (mm_Q D ad cA (some (.int rv)) σ1) 0 0 (mm_AS ad) := by
  refine mm_start (by decide +kernel) hI (Nat.le_of_ble_eq_true rfl) ?_
  intro p e s m args below meth c X hP ls hl
  have hl : lv_has ls 4 [(0, .ref (ad 10 30 0)), (1, .int x1)] := hl
  have hx := X.1
  have hb := X.2.1
  have hS : va_S (mm_AS ad) s.heap s.heap [] := va_S.rf
  have hgen : ∀ (H : Heap) (locs : List Loc), va_P D vwCl (mm_wd ad cA σ) H → va_S (mm_AS ad) s.heap H locs → W p l e (mm_rm 0 0) s m args below meth c H locs 0 0 (MQ below (mm_Q D ad cA (some (.int rv)) σ1) args s 0 0 (mm_AS ad)) (F0 m 0 ls []) := by
    intro H locs hP hS
    rw [fx_X11_flagOn] at hf
    refine lv_iconst (v := (-1 : Int32)) hx hb dX11_flagOn_0 (by decide) ?_
    refine lv_istore_n (lv' := [(2, .int (-1 : Int32)), (0, .ref (ad 10 30 0)), (1, .int x1)]) hx hb dX11_flagOn_1 rfl hl (by decide) rfl (fun ls hl => ?_)
    refine lv_aload_n hx hb dX11_flagOn_2 rfl (lv_at hl 1 rfl) ?_
    refine gf_30_0 X hP  wd_769 dX11_flagOn_3 ?_
    refine lv_iconst (v := (3 : Int32)) hx hb dX11_flagOn_6 (by decide) ?_
    refine al_31 X hP  (by decide : mm_ix (3 : Int32) 207 = true) dX11_flagOn_7 ?_
    refine lv_iconst (v := (1 : Int32)) hx hb dX11_flagOn_8 (by decide) ?_
    refine lv_isub hx hb dX11_flagOn_9 ?_
    obtain ⟨y_1, e_1, hf⟩ := mm_li_ok hf
    rw [← e_1]
    refine lv_istore_n (lv' := [(3, .int y_1), (2, .int (-1 : Int32)), (0, .ref (ad 10 30 0)), (1, .int x1)]) hx hb dX11_flagOn_10 rfl hl (by decide) rfl (fun ls hl => ?_)
    exact cx_X11_flagOn_L11 x1 rv σ1 X mm_FU (-1 : Int32) y_1 σ H locs ls hf hP hS (lv_sub hl [2, 3, 1, 0] rfl)
  exact hgen _ _ hP hS
def fx_X11_cellOf (x1 : Int32) (x2 : Int32) (σ : mm_M) : mm_R := mm_bd (fx_X11_isCell x1 σ) fun r_1 s_1 => (if r_1 = (0 : Int32) then some ((-1000001 : Int32), s_1) else mm_bd (fx_X11_in x2 (0 : Int32) (3 : Int32) s_1) fun r_3 s_3 => (if r_3 = (0 : Int32) then some ((-1000001 : Int32), s_3) else if x2 = (0 : Int32) then mm_gd (mm_ix ((11 : Int32) + x1) 207 = true) (some (s_3 10 31 0 ((11 : Int32) + x1).toNatClampNeg, s_3)) else if x2 = (1 : Int32) then mm_gd (mm_ix ((75 : Int32) + x1) 207 = true) (some (s_3 10 31 0 ((75 : Int32) + x1).toNatClampNeg, s_3)) else if x2 = (2 : Int32) then mm_bd (fx_X11_cartOn x1 s_3) fun r_10 s_10 => (mm_bd (fx_X11_orNone r_10 s_10) fun r_11 s_11 => (some (r_11, s_11))) else mm_bd (fx_X11_flagOn x1 s_3) fun r_12 s_12 => (mm_bd (fx_X11_orNone r_12 s_12) fun r_13 s_13 => (some (r_13, s_13)))))
set_option maxHeartbeats 4000000 in
set_option maxRecDepth 100000 in
theorem cx_X11_cellOf (l : Launch) (D : va_G) (ad : mm_A) (cA : Nat → ClassId) (hI : mm_Inj ad) (x1 : Int32) (x2 : Int32)  (σ : mm_M) (rv : Int32) (σ1 : mm_M) (hf : fx_X11_cellOf x1 x2 σ = some (rv, σ1)) : Met l yX11_cellOf (Cond.code yX11_cellOf cX11_cellOf 3 (some .int) :: tb) (mm_rm 2 45) (mm_pre D ad cA [.ref (ad 10 30 0), .int x1, .int x2] σ) (mm_Q D ad cA (some (.int rv)) σ1) 0 0 (mm_AS ad) := by
  refine mm_start (by decide +kernel) hI (Nat.le_of_ble_eq_true rfl) ?_
  intro p e s m args below meth c X hP ls hl
  have hl : lv_has ls 3 [(0, .ref (ad 10 30 0)), (1, .int x1), (2, .int x2)] := hl
  have hx := X.1
  have hb := X.2.1
  have hS : va_S (mm_AS ad) s.heap s.heap [] := va_S.rf
  have hgen : ∀ (H : Heap) (locs : List Loc), va_P D vwCl (mm_wd ad cA σ) H → va_S (mm_AS ad) s.heap H locs → W p l e (mm_rm 2 45) s m args below meth c H locs 0 0 (MQ below (mm_Q D ad cA (some (.int rv)) σ1) args s 0 0 (mm_AS ad)) (F0 m 0 ls []) := by
    intro H locs hP hS
    rw [fx_X11_cellOf] at hf
    refine lv_iload_n hx hb dX11_cellOf_0 rfl (lv_at hl 1 rfl) ?_
    obtain ⟨r_1, s_1, e_1, hf⟩ := mm_bd_ok hf
    refine mm_callS X hP hS hl.1 [.int x1] [] (cx_X11_isCell l D ad cA hI x1 σ r_1 s_1 e_1) wd_839 wd_840 wd_12 wd_841 hd_X11_isCell ⟨Nat.le_of_ble_eq_true rfl, Nat.le_of_ble_eq_true rfl⟩ rfl (Nat.le_of_ble_eq_true rfl) dX11_cellOf_1 (fun H locs hP hS => ?_)
    refine lv_if_eq (tgt := 16) hx hb dX11_cellOf_4 (by decide) (fun c_2 => ?_) (fun c_2 => ?_)
    · replace hf := mm_it c_2 hf
      refine lv_ldc (v := (-1000001 : Int32)) hx hb X.2.2.2.2.2.1 (X.2.2.2.2.2.2.1 _ wd_845) dX11_cellOf_16 ?_
      obtain ⟨rfl, rfl⟩ := mm_ret hf
      exact mm_iret X hP hS dX11_cellOf_18
    · replace hf := mm_if c_2 hf
      refine lv_iload_n hx hb dX11_cellOf_7 rfl (lv_at hl 2 rfl) ?_
      refine lv_iconst (v := (0 : Int32)) hx hb dX11_cellOf_8 (by decide) ?_
      refine lv_iconst (v := (3 : Int32)) hx hb dX11_cellOf_9 (by decide) ?_
      obtain ⟨r_3, s_3, e_3, hf⟩ := mm_bd_ok hf
      refine mm_callS X hP hS hl.1 [.int x2, .int (0 : Int32), .int (3 : Int32)] [] (cx_X11_in l D ad cA hI x2 (0 : Int32) (3 : Int32) s_1 r_3 s_3 e_3) wd_842 wd_843 wd_12 wd_844 hd_X11_in ⟨Nat.le_of_ble_eq_true rfl, Nat.le_of_ble_eq_true rfl⟩ rfl (Nat.le_of_ble_eq_true rfl) dX11_cellOf_10 (fun H locs hP hS => ?_)
      refine lv_if_ne (tgt := 19) hx hb dX11_cellOf_13 (by decide) (fun c_4 => ?_) (fun c_4 => ?_)
      · replace hf := mm_if c_4 hf
        refine lv_iload_n hx hb dX11_cellOf_19 rfl (lv_at hl 2 rfl) ?_
        by_cases c_5 : x2 = (0 : Int32)
        · replace hf := mm_it c_5 hf
          refine mm_tabIn (off := 28) (tgt := 48) X (0 : Int32) c_5 dX11_cellOf_20 (by decide +kernel) (by decide +kernel) (by decide) ?_
          refine lv_aload_n hx hb dX11_cellOf_48 rfl (lv_at hl 0 rfl) ?_
          refine gf_30_0 X hP  wd_769 dX11_cellOf_49 ?_
          refine lv_bipush (v := (11 : Int32)) hx hb dX11_cellOf_52 (by decide) ?_
          refine lv_iload_n hx hb dX11_cellOf_54 rfl (lv_at hl 1 rfl) ?_
          refine lv_iadd hx hb dX11_cellOf_55 ?_
          obtain ⟨h_6, hf⟩ := mm_gd_ok hf
          refine al_31 X hP  h_6 dX11_cellOf_56 ?_
          obtain ⟨rfl, rfl⟩ := mm_ret hf
          exact mm_iret X hP hS dX11_cellOf_57
        replace hf := mm_if c_5 hf
        by_cases c_7 : x2 = (1 : Int32)
        · replace hf := mm_it c_7 hf
          refine mm_tabIn (off := 38) (tgt := 58) X (1 : Int32) c_7 dX11_cellOf_20 (by decide +kernel) (by decide +kernel) (by decide) ?_
          refine lv_aload_n hx hb dX11_cellOf_58 rfl (lv_at hl 0 rfl) ?_
          refine gf_30_0 X hP  wd_769 dX11_cellOf_59 ?_
          refine lv_bipush (v := (75 : Int32)) hx hb dX11_cellOf_62 (by decide) ?_
          refine lv_iload_n hx hb dX11_cellOf_64 rfl (lv_at hl 1 rfl) ?_
          refine lv_iadd hx hb dX11_cellOf_65 ?_
          obtain ⟨h_8, hf⟩ := mm_gd_ok hf
          refine al_31 X hP  h_8 dX11_cellOf_66 ?_
          obtain ⟨rfl, rfl⟩ := mm_ret hf
          exact mm_iret X hP hS dX11_cellOf_67
        replace hf := mm_if c_7 hf
        by_cases c_9 : x2 = (2 : Int32)
        · replace hf := mm_it c_9 hf
          refine mm_tabIn (off := 48) (tgt := 68) X (2 : Int32) c_9 dX11_cellOf_20 (by decide +kernel) (by decide +kernel) (by decide) ?_
          refine lv_aload_n hx hb dX11_cellOf_68 rfl (lv_at hl 0 rfl) ?_
          refine lv_iload_n hx hb dX11_cellOf_69 rfl (lv_at hl 1 rfl) ?_
          obtain ⟨r_10, s_10, e_10, hf⟩ := mm_bd_ok hf
          refine mm_callV X hP hS hl.1 [.int x1] [] (cx_X11_cartOn l D ad cA hI x1 s_3 r_10 s_10 e_10) kp_30 rfl rfl wd_846 wd_848 wp_18 wd_12 wd_849 hd_X11_cartOn ⟨Nat.le_of_ble_eq_true rfl, Nat.le_of_ble_eq_true rfl⟩ rfl (Nat.le_of_ble_eq_true rfl) dX11_cellOf_70 (fun H locs hP hS => ?_)
          obtain ⟨r_11, s_11, e_11, hf⟩ := mm_bd_ok hf
          refine mm_callS X hP hS hl.1 [.int r_10] [] (cx_X11_orNone l D ad cA hI r_10 s_10 r_11 s_11 e_11) wd_1034 wd_1035 wd_12 wd_1036 hd_X11_orNone ⟨Nat.le_of_ble_eq_true rfl, Nat.le_of_ble_eq_true rfl⟩ rfl (Nat.le_of_ble_eq_true rfl) dX11_cellOf_73 (fun H locs hP hS => ?_)
          obtain ⟨rfl, rfl⟩ := mm_ret hf
          exact mm_iret X hP hS dX11_cellOf_76
        replace hf := mm_if c_9 hf
        refine lv_tableOut (tgt := 77) hx hb dX11_cellOf_20 (by have q_5 := lv_neT c_5 (a := 0) (by decide); have q_7 := lv_neT c_7 (a := 1) (by decide); have q_9 := lv_neT c_9 (a := 2) (by decide); omega) (by decide) ?_
        refine lv_aload_n hx hb dX11_cellOf_77 rfl (lv_at hl 0 rfl) ?_
        refine lv_iload_n hx hb dX11_cellOf_78 rfl (lv_at hl 1 rfl) ?_
        obtain ⟨r_12, s_12, e_12, hf⟩ := mm_bd_ok hf
        refine mm_callV X hP hS hl.1 [.int x1] [] (cx_X11_flagOn l D ad cA hI x1 s_3 r_12 s_12 e_12) kp_30 rfl rfl wd_1038 wd_1040 wp_55 wd_12 wd_1041 hd_X11_flagOn ⟨Nat.le_of_ble_eq_true rfl, Nat.le_of_ble_eq_true rfl⟩ rfl (Nat.le_of_ble_eq_true rfl) dX11_cellOf_79 (fun H locs hP hS => ?_)
        obtain ⟨r_13, s_13, e_13, hf⟩ := mm_bd_ok hf
        refine mm_callS X hP hS hl.1 [.int r_12] [] (cx_X11_orNone l D ad cA hI r_12 s_12 r_13 s_13 e_13) wd_1034 wd_1035 wd_12 wd_1036 hd_X11_orNone ⟨Nat.le_of_ble_eq_true rfl, Nat.le_of_ble_eq_true rfl⟩ rfl (Nat.le_of_ble_eq_true rfl) dX11_cellOf_82 (fun H locs hP hS => ?_)
        obtain ⟨rfl, rfl⟩ := mm_ret hf
        exact mm_iret X hP hS dX11_cellOf_85
      · replace hf := mm_it c_4 hf
        refine lv_ldc (v := (-1000001 : Int32)) hx hb X.2.2.2.2.2.1 (X.2.2.2.2.2.2.1 _ wd_845) dX11_cellOf_16 ?_
        obtain ⟨rfl, rfl⟩ := mm_ret hf
        exact mm_iret X hP hS dX11_cellOf_18
  exact hgen _ _ hP hS
def fx_X11_locked_J26 (x1 : Int32) (k4 : Int32 → Int32 → mm_M → mm_R) (v3 : Int32) (w0 : Int32) (w1 : Int32) (σ : mm_M) : mm_R := mm_li (w0 ||| w1) fun y_4 => (mm_li (v3 + (1 : Int32)) fun y_5 => (k4 y_4 y_5 σ))
set_option maxHeartbeats 4000000 in
set_option maxRecDepth 100000 in
theorem cx_X11_locked_J26 {p : Program} {l : Launch} {e : Env} {s : State} {m : MethodId} {args : Array Value} {below : List Frame} {meth : Method} {c : Code} {D : va_G} {ad : mm_A} {cA : Nat → ClassId} (x1 : Int32)  (rv : Int32) (σ1 : mm_M) (k4 : Int32 → Int32 → mm_M → mm_R) (hk4 : ∀ (v2 : Int32) (v3 : Int32) (σ : mm_M) (H : Heap) (locs : List Loc) (ls : Array Slot), k4 v2 v3 σ = some (rv, σ1) → va_P D vwCl (mm_wd ad cA σ) H → va_S (mm_AS ad) s.heap H locs → lv_has ls 4 [(0, .ref (ad 10 30 0)), (1, .int x1), (2, .int v2), (3, .int v3)] → W p l e (mm_rm 2 44) s m args below meth c H locs 0 0 (MQ below (mm_Q D ad cA (some (.int rv)) σ1) args s 0 0 (mm_AS ad)) (F0 m 4 ls [])) (X : mm_X p s m args meth c cX11_locked 4 (some .int) RX11 D ad cA) : ∀ (v3 : Int32) (w0 : Int32) (w1 : Int32) (σ : mm_M) (H : Heap) (locs : List Loc) (ls : Array Slot), fx_X11_locked_J26 x1 k4 v3 w0 w1 σ = some (rv, σ1) → va_P D vwCl (mm_wd ad cA σ) H → va_S (mm_AS ad) s.heap H locs → lv_has ls 4 [(0, .ref (ad 10 30 0)), (1, .int x1), (3, .int v3)] → W p l e (mm_rm 2 44) s m args below meth c H locs 0 0 (MQ below (mm_Q D ad cA (some (.int rv)) σ1) args s 0 0 (mm_AS ad)) (F0 m 26 ls [.int w1, .int w0]) := by
  have hx := X.1
  have hb := X.2.1
  have hI := X.2.2.2.2.2.2.2.2.2
  intro v3 w0 w1 σ H locs ls hf hP hS hl
  rw [fx_X11_locked_J26] at hf
  refine lv_ior hx hb dX11_locked_26 ?_
  obtain ⟨y_4, e_4, hf⟩ := mm_li_ok hf
  rw [← e_4]
  refine lv_istore_n (lv' := [(2, .int y_4), (0, .ref (ad 10 30 0)), (1, .int x1), (3, .int v3)]) hx hb dX11_locked_27 rfl hl (by decide) rfl (fun ls hl => ?_)
  obtain ⟨y_5, e_5, hf⟩ := mm_li_ok hf
  refine lv_iinc (v := y_5) (lv' := [(3, .int y_5), (2, .int y_4), (0, .ref (ad 10 30 0)), (1, .int x1)]) hx hb dX11_locked_28 hl (k := 3) rfl (by rw [e_5]; rfl) (by decide) rfl (fun ls hl => ?_)
  refine lv_goto (tgt := 4) hx hb dX11_locked_31 (by decide) ?_
  exact hk4 y_4 y_5 σ H locs ls  hf hP hS (lv_sub hl [2, 3, 1, 0] rfl)
def fx_X11_locked_L4 (x1 : Int32)  : Nat → Int32 → Int32 → mm_M → mm_R
  | 0, _, _, _ => none
  | fu + 1, v2, v3, σ => if (5 : Int32) ≤ v3 then some (v2, σ) else mm_bd (fx_X11_isLocked x1 v3 σ) fun r_2 s_2 => (if r_2 = (0 : Int32) then fx_X11_locked_J26 x1 (fun z0 z1 z => fx_X11_locked_L4 x1 fu z0 z1 z) v3 v2 (0 : Int32) s_2 else fx_X11_locked_J26 x1 (fun z0 z1 z => fx_X11_locked_L4 x1 fu z0 z1 z) v3 v2 ((1 : Int32) <<< (v3 &&& 31)) s_2)
set_option maxHeartbeats 4000000 in
set_option maxRecDepth 100000 in
theorem cx_X11_locked_L4 {p : Program} {l : Launch} {e : Env} {s : State} {m : MethodId} {args : Array Value} {below : List Frame} {meth : Method} {c : Code} {D : va_G} {ad : mm_A} {cA : Nat → ClassId} (x1 : Int32)  (rv : Int32) (σ1 : mm_M)  (X : mm_X p s m args meth c cX11_locked 4 (some .int) RX11 D ad cA) : ∀ (fu : Nat), ∀ (v2 : Int32) (v3 : Int32) (σ : mm_M) (H : Heap) (locs : List Loc) (ls : Array Slot), fx_X11_locked_L4 x1 fu v2 v3 σ = some (rv, σ1) → va_P D vwCl (mm_wd ad cA σ) H → va_S (mm_AS ad) s.heap H locs → lv_has ls 4 [(0, .ref (ad 10 30 0)), (1, .int x1), (2, .int v2), (3, .int v3)] → W p l e (mm_rm 2 44) s m args below meth c H locs 0 0 (MQ below (mm_Q D ad cA (some (.int rv)) σ1) args s 0 0 (mm_AS ad)) (F0 m 4 ls []) := by
  have hx := X.1
  have hb := X.2.1
  have hI := X.2.2.2.2.2.2.2.2.2
  intro fu
  induction fu with
  | zero =>
    intro v2 v3 σ H locs ls hf
    exact mm_no hf
  | succ fu ih =>
    intro v2 v3 σ H locs ls hf hP hS hl
    rw [fx_X11_locked_L4] at hf
    refine lv_iload_n hx hb dX11_locked_4 rfl (lv_at hl 3 rfl) ?_
    refine lv_iconst (v := (5 : Int32)) hx hb dX11_locked_5 (by decide) ?_
    refine lv_icmp_ge (tgt := 34) hx hb dX11_locked_6 (by decide) (fun c_1 => ?_) (fun c_1 => ?_)
    · replace hf := mm_it c_1 hf
      refine lv_iload_n hx hb dX11_locked_34 rfl (lv_at hl 2 rfl) ?_
      obtain ⟨rfl, rfl⟩ := mm_ret hf
      exact mm_iret X hP hS dX11_locked_35
    · replace hf := mm_if c_1 hf
      refine lv_iload_n hx hb dX11_locked_9 rfl (lv_at hl 2 rfl) ?_
      refine lv_aload_n hx hb dX11_locked_10 rfl (lv_at hl 0 rfl) ?_
      refine lv_iload_n hx hb dX11_locked_11 rfl (lv_at hl 1 rfl) ?_
      refine lv_iload_n hx hb dX11_locked_12 rfl (lv_at hl 3 rfl) ?_
      obtain ⟨r_2, s_2, e_2, hf⟩ := mm_bd_ok hf
      refine mm_callV X hP hS hl.1 [.int x1, .int v3] [.int v2] (cx_X11_isLocked l D ad cA hI x1 v3 σ r_2 s_2 e_2) kp_30 rfl rfl wd_911 wd_913 wp_29 wd_12 wd_914 hd_X11_isLocked ⟨Nat.le_of_ble_eq_true rfl, Nat.le_of_ble_eq_true rfl⟩ rfl (Nat.le_of_ble_eq_true rfl) dX11_locked_13 (fun H locs hP hS => ?_)
      refine lv_if_eq (tgt := 25) hx hb dX11_locked_16 (by decide) (fun c_3 => ?_) (fun c_3 => ?_)
      · replace hf := mm_it c_3 hf
        refine lv_iconst (v := (0 : Int32)) hx hb dX11_locked_25 (by decide) ?_
        exact cx_X11_locked_J26 x1 rv σ1 (fun z0 z1 z => fx_X11_locked_L4 x1 fu z0 z1 z) ih X v3 v2 (0 : Int32) s_2 H locs ls hf hP hS (lv_sub hl [0, 1, 3] rfl)
      · replace hf := mm_if c_3 hf
        refine lv_iconst (v := (1 : Int32)) hx hb dX11_locked_19 (by decide) ?_
        refine lv_iload_n hx hb dX11_locked_20 rfl (lv_at hl 3 rfl) ?_
        refine lv_ishl hx hb dX11_locked_21 ?_
        refine lv_goto (tgt := 26) hx hb dX11_locked_22 (by decide) ?_
        exact cx_X11_locked_J26 x1 rv σ1 (fun z0 z1 z => fx_X11_locked_L4 x1 fu z0 z1 z) ih X v3 v2 ((1 : Int32) <<< (v3 &&& 31)) s_2 H locs ls hf hP hS (lv_sub hl [0, 1, 3] rfl)
def fx_X11_locked (x1 : Int32) (σ : mm_M) : mm_R := fx_X11_locked_L4 x1 mm_FU (0 : Int32) (0 : Int32) σ
set_option maxHeartbeats 4000000 in
set_option maxRecDepth 100000 in
theorem cx_X11_locked (l : Launch) (D : va_G) (ad : mm_A) (cA : Nat → ClassId) (hI : mm_Inj ad) (x1 : Int32)  (σ : mm_M) (rv : Int32) (σ1 : mm_M) (hf : fx_X11_locked x1 σ = some (rv, σ1)) : Met l yX11_locked (Cond.code yX11_locked cX11_locked 4 (some .int) :: tb) (mm_rm 2 44) (mm_pre D ad cA [.ref (ad 10 30 0), .int x1] σ) (mm_Q D ad cA (some (.int rv)) σ1) 0 0 (mm_AS ad) := by
  refine mm_start (by decide +kernel) hI (Nat.le_of_ble_eq_true rfl) ?_
  intro p e s m args below meth c X hP ls hl
  have hl : lv_has ls 4 [(0, .ref (ad 10 30 0)), (1, .int x1)] := hl
  have hx := X.1
  have hb := X.2.1
  have hS : va_S (mm_AS ad) s.heap s.heap [] := va_S.rf
  have hgen : ∀ (H : Heap) (locs : List Loc), va_P D vwCl (mm_wd ad cA σ) H → va_S (mm_AS ad) s.heap H locs → W p l e (mm_rm 2 44) s m args below meth c H locs 0 0 (MQ below (mm_Q D ad cA (some (.int rv)) σ1) args s 0 0 (mm_AS ad)) (F0 m 0 ls []) := by
    intro H locs hP hS
    rw [fx_X11_locked] at hf
    refine lv_iconst (v := (0 : Int32)) hx hb dX11_locked_0 (by decide) ?_
    refine lv_istore_n (lv' := [(2, .int (0 : Int32)), (0, .ref (ad 10 30 0)), (1, .int x1)]) hx hb dX11_locked_1 rfl hl (by decide) rfl (fun ls hl => ?_)
    refine lv_iconst (v := (0 : Int32)) hx hb dX11_locked_2 (by decide) ?_
    refine lv_istore_n (lv' := [(3, .int (0 : Int32)), (2, .int (0 : Int32)), (0, .ref (ad 10 30 0)), (1, .int x1)]) hx hb dX11_locked_3 rfl hl (by decide) rfl (fun ls hl => ?_)
    exact cx_X11_locked_L4 x1 rv σ1 X mm_FU (0 : Int32) (0 : Int32) σ H locs ls hf hP hS (lv_sub hl [2, 3, 1, 0] rfl)
  exact hgen _ _ hP hS
def fx_X11_cartOf (x1 : Int32) (x2 : Int32) (σ : mm_M) : mm_R := mm_bd (fx_X11_isCart x1 σ) fun r_1 s_1 => (if r_1 = (0 : Int32) then some ((-1000001 : Int32), s_1) else mm_bd (fx_X11_in x2 (0 : Int32) (8 : Int32) s_1) fun r_3 s_3 => (if r_3 = (0 : Int32) then some ((-1000001 : Int32), s_3) else if x2 = (0 : Int32) then mm_bd (fx_X11_isOut x1 s_3) fun r_6 s_6 => (if r_6 = (0 : Int32) then mm_bd (fx_X11_of x1 ((1 : Int32) + x2) s_6) fun r_8 s_8 => (some (r_8, s_8)) else some ((-1000004 : Int32), s_6)) else if x2 = (1 : Int32) then mm_bd (fx_X11_isOut x1 s_3) fun r_10 s_10 => (if r_10 = (0 : Int32) then mm_bd (fx_X11_of x1 ((1 : Int32) + x2) s_10) fun r_12 s_12 => (some (r_12, s_12)) else some ((-1000004 : Int32), s_10)) else if x2 = (2 : Int32) then mm_bd (fx_X11_of x1 (((3 : Int32) + x2) - (2 : Int32)) s_3) fun r_14 s_14 => (some (r_14, s_14)) else if x2 = (3 : Int32) then mm_bd (fx_X11_of x1 (((3 : Int32) + x2) - (2 : Int32)) s_3) fun r_16 s_16 => (some (r_16, s_16)) else if x2 = (4 : Int32) then mm_bd (fx_X11_of x1 (0 : Int32) s_3) fun r_18 s_18 => (some (r_18, s_18)) else if x2 = (5 : Int32) then mm_bd (fx_X11_locked x1 s_3) fun r_20 s_20 => (some (r_20, s_20)) else if x2 = (6 : Int32) then mm_bd (fx_X11_withCards x1 s_3) fun r_22 s_22 => (some (r_22, s_22)) else if x2 = (7 : Int32) then mm_bd (fx_X11_of x1 (((5 : Int32) + x2) - (7 : Int32)) s_3) fun r_24 s_24 => (some (r_24, s_24)) else if x2 = (8 : Int32) then mm_bd (fx_X11_of x1 (((5 : Int32) + x2) - (7 : Int32)) s_3) fun r_26 s_26 => (some (r_26, s_26)) else mm_bd (fx_X11_of x1 (((3 : Int32) + x2) - (2 : Int32)) s_3) fun r_27 s_27 => (some (r_27, s_27))))
set_option maxHeartbeats 4000000 in
set_option maxRecDepth 100000 in
theorem cx_X11_cartOf (l : Launch) (D : va_G) (ad : mm_A) (cA : Nat → ClassId) (hI : mm_Inj ad) (x1 : Int32) (x2 : Int32)  (σ : mm_M) (rv : Int32) (σ1 : mm_M) (hf : fx_X11_cartOf x1 x2 σ = some (rv, σ1)) : Met l yX11_cartOf (Cond.code yX11_cartOf cX11_cartOf 3 (some .int) :: tb) (mm_rm 3 67) (mm_pre D ad cA [.ref (ad 10 30 0), .int x1, .int x2] σ) (mm_Q D ad cA (some (.int rv)) σ1) 0 0 (mm_AS ad) := by
  refine mm_start (by decide +kernel) hI (Nat.le_of_ble_eq_true rfl) ?_
  intro p e s m args below meth c X hP ls hl
  have hl : lv_has ls 3 [(0, .ref (ad 10 30 0)), (1, .int x1), (2, .int x2)] := hl
  have hx := X.1
  have hb := X.2.1
  have hS : va_S (mm_AS ad) s.heap s.heap [] := va_S.rf
  have hgen : ∀ (H : Heap) (locs : List Loc), va_P D vwCl (mm_wd ad cA σ) H → va_S (mm_AS ad) s.heap H locs → W p l e (mm_rm 3 67) s m args below meth c H locs 0 0 (MQ below (mm_Q D ad cA (some (.int rv)) σ1) args s 0 0 (mm_AS ad)) (F0 m 0 ls []) := by
    intro H locs hP hS
    rw [fx_X11_cartOf] at hf
    refine lv_aload_n hx hb dX11_cartOf_0 rfl (lv_at hl 0 rfl) ?_
    refine lv_iload_n hx hb dX11_cartOf_1 rfl (lv_at hl 1 rfl) ?_
    obtain ⟨r_1, s_1, e_1, hf⟩ := mm_bd_ok hf
    refine mm_callV X hP hS hl.1 [.int x1] [] (cx_X11_isCart l D ad cA hI x1 σ r_1 s_1 e_1) kp_30 rfl rfl wd_903 wd_905 wp_27 wd_12 wd_906 hd_X11_isCart ⟨Nat.le_of_ble_eq_true rfl, Nat.le_of_ble_eq_true rfl⟩ rfl (Nat.le_of_ble_eq_true rfl) dX11_cartOf_2 (fun H locs hP hS => ?_)
    refine lv_if_eq (tgt := 18) hx hb dX11_cartOf_5 (by decide) (fun c_2 => ?_) (fun c_2 => ?_)
    · replace hf := mm_it c_2 hf
      refine lv_ldc (v := (-1000001 : Int32)) hx hb X.2.2.2.2.2.1 (X.2.2.2.2.2.2.1 _ wd_845) dX11_cartOf_18 ?_
      obtain ⟨rfl, rfl⟩ := mm_ret hf
      exact mm_iret X hP hS dX11_cartOf_20
    · replace hf := mm_if c_2 hf
      refine lv_iload_n hx hb dX11_cartOf_8 rfl (lv_at hl 2 rfl) ?_
      refine lv_iconst (v := (0 : Int32)) hx hb dX11_cartOf_9 (by decide) ?_
      refine lv_bipush (v := (8 : Int32)) hx hb dX11_cartOf_10 (by decide) ?_
      obtain ⟨r_3, s_3, e_3, hf⟩ := mm_bd_ok hf
      refine mm_callS X hP hS hl.1 [.int x2, .int (0 : Int32), .int (8 : Int32)] [] (cx_X11_in l D ad cA hI x2 (0 : Int32) (8 : Int32) s_1 r_3 s_3 e_3) wd_842 wd_843 wd_12 wd_844 hd_X11_in ⟨Nat.le_of_ble_eq_true rfl, Nat.le_of_ble_eq_true rfl⟩ rfl (Nat.le_of_ble_eq_true rfl) dX11_cartOf_12 (fun H locs hP hS => ?_)
      refine lv_if_ne (tgt := 21) hx hb dX11_cartOf_15 (by decide) (fun c_4 => ?_) (fun c_4 => ?_)
      · replace hf := mm_if c_4 hf
        refine lv_iload_n hx hb dX11_cartOf_21 rfl (lv_at hl 2 rfl) ?_
        by_cases c_5 : x2 = (0 : Int32)
        · replace hf := mm_it c_5 hf
          refine mm_tabIn (off := 50) (tgt := 72) X (0 : Int32) c_5 dX11_cartOf_22 (by decide +kernel) (by decide +kernel) (by decide) ?_
          refine lv_aload_n hx hb dX11_cartOf_72 rfl (lv_at hl 0 rfl) ?_
          refine lv_iload_n hx hb dX11_cartOf_73 rfl (lv_at hl 1 rfl) ?_
          obtain ⟨r_6, s_6, e_6, hf⟩ := mm_bd_ok hf
          refine mm_callV X hP hS hl.1 [.int x1] [] (cx_X11_isOut l D ad cA hI x1 s_3 r_6 s_6 e_6) kp_30 rfl rfl wd_907 wd_909 wp_28 wd_12 wd_910 hd_X11_isOut ⟨Nat.le_of_ble_eq_true rfl, Nat.le_of_ble_eq_true rfl⟩ rfl (Nat.le_of_ble_eq_true rfl) dX11_cartOf_74 (fun H locs hP hS => ?_)
          refine lv_if_eq (tgt := 85) hx hb dX11_cartOf_77 (by decide) (fun c_7 => ?_) (fun c_7 => ?_)
          · replace hf := mm_it c_7 hf
            refine lv_aload_n hx hb dX11_cartOf_85 rfl (lv_at hl 0 rfl) ?_
            refine lv_iload_n hx hb dX11_cartOf_86 rfl (lv_at hl 1 rfl) ?_
            refine lv_iconst (v := (1 : Int32)) hx hb dX11_cartOf_87 (by decide) ?_
            refine lv_iload_n hx hb dX11_cartOf_88 rfl (lv_at hl 2 rfl) ?_
            refine lv_iadd hx hb dX11_cartOf_89 ?_
            obtain ⟨r_8, s_8, e_8, hf⟩ := mm_bd_ok hf
            refine mm_callV X hP hS hl.1 [.int x1, .int ((1 : Int32) + x2)] [] (cx_X11_of l D ad cA hI x1 ((1 : Int32) + x2) s_6 r_8 s_8 e_8) kp_30 rfl rfl wd_850 wd_852 wp_19 wd_12 wd_853 hd_X11_of ⟨Nat.le_of_ble_eq_true rfl, Nat.le_of_ble_eq_true rfl⟩ rfl (Nat.le_of_ble_eq_true rfl) dX11_cartOf_90 (fun H locs hP hS => ?_)
            obtain ⟨rfl, rfl⟩ := mm_ret hf
            exact mm_iret X hP hS dX11_cartOf_93
          · replace hf := mm_if c_7 hf
            refine lv_ldc (v := (-1000004 : Int32)) hx hb X.2.2.2.2.2.1 (X.2.2.2.2.2.2.1 _ wd_1037) dX11_cartOf_80 ?_
            refine lv_goto (tgt := 93) hx hb dX11_cartOf_82 (by decide) ?_
            obtain ⟨rfl, rfl⟩ := mm_ret hf
            exact mm_iret X hP hS dX11_cartOf_93
        replace hf := mm_if c_5 hf
        by_cases c_9 : x2 = (1 : Int32)
        · replace hf := mm_it c_9 hf
          refine mm_tabIn (off := 50) (tgt := 72) X (1 : Int32) c_9 dX11_cartOf_22 (by decide +kernel) (by decide +kernel) (by decide) ?_
          refine lv_aload_n hx hb dX11_cartOf_72 rfl (lv_at hl 0 rfl) ?_
          refine lv_iload_n hx hb dX11_cartOf_73 rfl (lv_at hl 1 rfl) ?_
          obtain ⟨r_10, s_10, e_10, hf⟩ := mm_bd_ok hf
          refine mm_callV X hP hS hl.1 [.int x1] [] (cx_X11_isOut l D ad cA hI x1 s_3 r_10 s_10 e_10) kp_30 rfl rfl wd_907 wd_909 wp_28 wd_12 wd_910 hd_X11_isOut ⟨Nat.le_of_ble_eq_true rfl, Nat.le_of_ble_eq_true rfl⟩ rfl (Nat.le_of_ble_eq_true rfl) dX11_cartOf_74 (fun H locs hP hS => ?_)
          refine lv_if_eq (tgt := 85) hx hb dX11_cartOf_77 (by decide) (fun c_11 => ?_) (fun c_11 => ?_)
          · replace hf := mm_it c_11 hf
            refine lv_aload_n hx hb dX11_cartOf_85 rfl (lv_at hl 0 rfl) ?_
            refine lv_iload_n hx hb dX11_cartOf_86 rfl (lv_at hl 1 rfl) ?_
            refine lv_iconst (v := (1 : Int32)) hx hb dX11_cartOf_87 (by decide) ?_
            refine lv_iload_n hx hb dX11_cartOf_88 rfl (lv_at hl 2 rfl) ?_
            refine lv_iadd hx hb dX11_cartOf_89 ?_
            obtain ⟨r_12, s_12, e_12, hf⟩ := mm_bd_ok hf
            refine mm_callV X hP hS hl.1 [.int x1, .int ((1 : Int32) + x2)] [] (cx_X11_of l D ad cA hI x1 ((1 : Int32) + x2) s_10 r_12 s_12 e_12) kp_30 rfl rfl wd_850 wd_852 wp_19 wd_12 wd_853 hd_X11_of ⟨Nat.le_of_ble_eq_true rfl, Nat.le_of_ble_eq_true rfl⟩ rfl (Nat.le_of_ble_eq_true rfl) dX11_cartOf_90 (fun H locs hP hS => ?_)
            obtain ⟨rfl, rfl⟩ := mm_ret hf
            exact mm_iret X hP hS dX11_cartOf_93
          · replace hf := mm_if c_11 hf
            refine lv_ldc (v := (-1000004 : Int32)) hx hb X.2.2.2.2.2.1 (X.2.2.2.2.2.2.1 _ wd_1037) dX11_cartOf_80 ?_
            refine lv_goto (tgt := 93) hx hb dX11_cartOf_82 (by decide) ?_
            obtain ⟨rfl, rfl⟩ := mm_ret hf
            exact mm_iret X hP hS dX11_cartOf_93
        replace hf := mm_if c_9 hf
        by_cases c_13 : x2 = (2 : Int32)
        · replace hf := mm_it c_13 hf
          refine mm_tabIn (off := 103) (tgt := 125) X (2 : Int32) c_13 dX11_cartOf_22 (by decide +kernel) (by decide +kernel) (by decide) ?_
          refine lv_aload_n hx hb dX11_cartOf_125 rfl (lv_at hl 0 rfl) ?_
          refine lv_iload_n hx hb dX11_cartOf_126 rfl (lv_at hl 1 rfl) ?_
          refine lv_iconst (v := (3 : Int32)) hx hb dX11_cartOf_127 (by decide) ?_
          refine lv_iload_n hx hb dX11_cartOf_128 rfl (lv_at hl 2 rfl) ?_
          refine lv_iadd hx hb dX11_cartOf_129 ?_
          refine lv_iconst (v := (2 : Int32)) hx hb dX11_cartOf_130 (by decide) ?_
          refine lv_isub hx hb dX11_cartOf_131 ?_
          obtain ⟨r_14, s_14, e_14, hf⟩ := mm_bd_ok hf
          refine mm_callV X hP hS hl.1 [.int x1, .int (((3 : Int32) + x2) - (2 : Int32))] [] (cx_X11_of l D ad cA hI x1 (((3 : Int32) + x2) - (2 : Int32)) s_3 r_14 s_14 e_14) kp_30 rfl rfl wd_850 wd_852 wp_19 wd_12 wd_853 hd_X11_of ⟨Nat.le_of_ble_eq_true rfl, Nat.le_of_ble_eq_true rfl⟩ rfl (Nat.le_of_ble_eq_true rfl) dX11_cartOf_132 (fun H locs hP hS => ?_)
          obtain ⟨rfl, rfl⟩ := mm_ret hf
          exact mm_iret X hP hS dX11_cartOf_135
        replace hf := mm_if c_13 hf
        by_cases c_15 : x2 = (3 : Int32)
        · replace hf := mm_it c_15 hf
          refine mm_tabIn (off := 103) (tgt := 125) X (3 : Int32) c_15 dX11_cartOf_22 (by decide +kernel) (by decide +kernel) (by decide) ?_
          refine lv_aload_n hx hb dX11_cartOf_125 rfl (lv_at hl 0 rfl) ?_
          refine lv_iload_n hx hb dX11_cartOf_126 rfl (lv_at hl 1 rfl) ?_
          refine lv_iconst (v := (3 : Int32)) hx hb dX11_cartOf_127 (by decide) ?_
          refine lv_iload_n hx hb dX11_cartOf_128 rfl (lv_at hl 2 rfl) ?_
          refine lv_iadd hx hb dX11_cartOf_129 ?_
          refine lv_iconst (v := (2 : Int32)) hx hb dX11_cartOf_130 (by decide) ?_
          refine lv_isub hx hb dX11_cartOf_131 ?_
          obtain ⟨r_16, s_16, e_16, hf⟩ := mm_bd_ok hf
          refine mm_callV X hP hS hl.1 [.int x1, .int (((3 : Int32) + x2) - (2 : Int32))] [] (cx_X11_of l D ad cA hI x1 (((3 : Int32) + x2) - (2 : Int32)) s_3 r_16 s_16 e_16) kp_30 rfl rfl wd_850 wd_852 wp_19 wd_12 wd_853 hd_X11_of ⟨Nat.le_of_ble_eq_true rfl, Nat.le_of_ble_eq_true rfl⟩ rfl (Nat.le_of_ble_eq_true rfl) dX11_cartOf_132 (fun H locs hP hS => ?_)
          obtain ⟨rfl, rfl⟩ := mm_ret hf
          exact mm_iret X hP hS dX11_cartOf_135
        replace hf := mm_if c_15 hf
        by_cases c_17 : x2 = (4 : Int32)
        · replace hf := mm_it c_17 hf
          refine mm_tabIn (off := 72) (tgt := 94) X (4 : Int32) c_17 dX11_cartOf_22 (by decide +kernel) (by decide +kernel) (by decide) ?_
          refine lv_aload_n hx hb dX11_cartOf_94 rfl (lv_at hl 0 rfl) ?_
          refine lv_iload_n hx hb dX11_cartOf_95 rfl (lv_at hl 1 rfl) ?_
          refine lv_iconst (v := (0 : Int32)) hx hb dX11_cartOf_96 (by decide) ?_
          obtain ⟨r_18, s_18, e_18, hf⟩ := mm_bd_ok hf
          refine mm_callV X hP hS hl.1 [.int x1, .int (0 : Int32)] [] (cx_X11_of l D ad cA hI x1 (0 : Int32) s_3 r_18 s_18 e_18) kp_30 rfl rfl wd_850 wd_852 wp_19 wd_12 wd_853 hd_X11_of ⟨Nat.le_of_ble_eq_true rfl, Nat.le_of_ble_eq_true rfl⟩ rfl (Nat.le_of_ble_eq_true rfl) dX11_cartOf_97 (fun H locs hP hS => ?_)
          obtain ⟨rfl, rfl⟩ := mm_ret hf
          exact mm_iret X hP hS dX11_cartOf_100
        replace hf := mm_if c_17 hf
        by_cases c_19 : x2 = (5 : Int32)
        · replace hf := mm_it c_19 hf
          refine mm_tabIn (off := 79) (tgt := 101) X (5 : Int32) c_19 dX11_cartOf_22 (by decide +kernel) (by decide +kernel) (by decide) ?_
          refine lv_aload_n hx hb dX11_cartOf_101 rfl (lv_at hl 0 rfl) ?_
          refine lv_iload_n hx hb dX11_cartOf_102 rfl (lv_at hl 1 rfl) ?_
          obtain ⟨r_20, s_20, e_20, hf⟩ := mm_bd_ok hf
          refine mm_callV X hP hS hl.1 [.int x1] [] (cx_X11_locked l D ad cA hI x1 s_3 r_20 s_20 e_20) kp_30 rfl rfl wd_1046 wd_1048 wp_56 wd_12 wd_1049 hd_X11_locked ⟨Nat.le_of_ble_eq_true rfl, Nat.le_of_ble_eq_true rfl⟩ rfl (Nat.le_of_ble_eq_true rfl) dX11_cartOf_103 (fun H locs hP hS => ?_)
          obtain ⟨rfl, rfl⟩ := mm_ret hf
          exact mm_iret X hP hS dX11_cartOf_106
        replace hf := mm_if c_19 hf
        by_cases c_21 : x2 = (6 : Int32)
        · replace hf := mm_it c_21 hf
          refine mm_tabIn (off := 85) (tgt := 107) X (6 : Int32) c_21 dX11_cartOf_22 (by decide +kernel) (by decide +kernel) (by decide) ?_
          refine lv_aload_n hx hb dX11_cartOf_107 rfl (lv_at hl 0 rfl) ?_
          refine lv_iload_n hx hb dX11_cartOf_108 rfl (lv_at hl 1 rfl) ?_
          obtain ⟨r_22, s_22, e_22, hf⟩ := mm_bd_ok hf
          refine mm_callV X hP hS hl.1 [.int x1] [] (cx_X11_withCards l D ad cA hI x1 s_3 r_22 s_22 e_22) kp_30 rfl rfl wd_915 wd_917 wp_30 wd_12 wd_918 hd_X11_withCards ⟨Nat.le_of_ble_eq_true rfl, Nat.le_of_ble_eq_true rfl⟩ rfl (Nat.le_of_ble_eq_true rfl) dX11_cartOf_109 (fun H locs hP hS => ?_)
          obtain ⟨rfl, rfl⟩ := mm_ret hf
          exact mm_iret X hP hS dX11_cartOf_112
        replace hf := mm_if c_21 hf
        by_cases c_23 : x2 = (7 : Int32)
        · replace hf := mm_it c_23 hf
          refine mm_tabIn (off := 91) (tgt := 113) X (7 : Int32) c_23 dX11_cartOf_22 (by decide +kernel) (by decide +kernel) (by decide) ?_
          refine lv_aload_n hx hb dX11_cartOf_113 rfl (lv_at hl 0 rfl) ?_
          refine lv_iload_n hx hb dX11_cartOf_114 rfl (lv_at hl 1 rfl) ?_
          refine lv_iconst (v := (5 : Int32)) hx hb dX11_cartOf_115 (by decide) ?_
          refine lv_iload_n hx hb dX11_cartOf_116 rfl (lv_at hl 2 rfl) ?_
          refine lv_iadd hx hb dX11_cartOf_117 ?_
          refine lv_bipush (v := (7 : Int32)) hx hb dX11_cartOf_118 (by decide) ?_
          refine lv_isub hx hb dX11_cartOf_120 ?_
          obtain ⟨r_24, s_24, e_24, hf⟩ := mm_bd_ok hf
          refine mm_callV X hP hS hl.1 [.int x1, .int (((5 : Int32) + x2) - (7 : Int32))] [] (cx_X11_of l D ad cA hI x1 (((5 : Int32) + x2) - (7 : Int32)) s_3 r_24 s_24 e_24) kp_30 rfl rfl wd_850 wd_852 wp_19 wd_12 wd_853 hd_X11_of ⟨Nat.le_of_ble_eq_true rfl, Nat.le_of_ble_eq_true rfl⟩ rfl (Nat.le_of_ble_eq_true rfl) dX11_cartOf_121 (fun H locs hP hS => ?_)
          obtain ⟨rfl, rfl⟩ := mm_ret hf
          exact mm_iret X hP hS dX11_cartOf_124
        replace hf := mm_if c_23 hf
        by_cases c_25 : x2 = (8 : Int32)
        · replace hf := mm_it c_25 hf
          refine mm_tabIn (off := 91) (tgt := 113) X (8 : Int32) c_25 dX11_cartOf_22 (by decide +kernel) (by decide +kernel) (by decide) ?_
          refine lv_aload_n hx hb dX11_cartOf_113 rfl (lv_at hl 0 rfl) ?_
          refine lv_iload_n hx hb dX11_cartOf_114 rfl (lv_at hl 1 rfl) ?_
          refine lv_iconst (v := (5 : Int32)) hx hb dX11_cartOf_115 (by decide) ?_
          refine lv_iload_n hx hb dX11_cartOf_116 rfl (lv_at hl 2 rfl) ?_
          refine lv_iadd hx hb dX11_cartOf_117 ?_
          refine lv_bipush (v := (7 : Int32)) hx hb dX11_cartOf_118 (by decide) ?_
          refine lv_isub hx hb dX11_cartOf_120 ?_
          obtain ⟨r_26, s_26, e_26, hf⟩ := mm_bd_ok hf
          refine mm_callV X hP hS hl.1 [.int x1, .int (((5 : Int32) + x2) - (7 : Int32))] [] (cx_X11_of l D ad cA hI x1 (((5 : Int32) + x2) - (7 : Int32)) s_3 r_26 s_26 e_26) kp_30 rfl rfl wd_850 wd_852 wp_19 wd_12 wd_853 hd_X11_of ⟨Nat.le_of_ble_eq_true rfl, Nat.le_of_ble_eq_true rfl⟩ rfl (Nat.le_of_ble_eq_true rfl) dX11_cartOf_121 (fun H locs hP hS => ?_)
          obtain ⟨rfl, rfl⟩ := mm_ret hf
          exact mm_iret X hP hS dX11_cartOf_124
        replace hf := mm_if c_25 hf
        refine lv_tableOut (tgt := 125) hx hb dX11_cartOf_22 (by have q_5 := lv_neT c_5 (a := 0) (by decide); have q_9 := lv_neT c_9 (a := 1) (by decide); have q_13 := lv_neT c_13 (a := 2) (by decide); have q_15 := lv_neT c_15 (a := 3) (by decide); have q_17 := lv_neT c_17 (a := 4) (by decide); have q_19 := lv_neT c_19 (a := 5) (by decide); have q_21 := lv_neT c_21 (a := 6) (by decide); have q_23 := lv_neT c_23 (a := 7) (by decide); have q_25 := lv_neT c_25 (a := 8) (by decide); omega) (by decide) ?_
        refine lv_aload_n hx hb dX11_cartOf_125 rfl (lv_at hl 0 rfl) ?_
        refine lv_iload_n hx hb dX11_cartOf_126 rfl (lv_at hl 1 rfl) ?_
        refine lv_iconst (v := (3 : Int32)) hx hb dX11_cartOf_127 (by decide) ?_
        refine lv_iload_n hx hb dX11_cartOf_128 rfl (lv_at hl 2 rfl) ?_
        refine lv_iadd hx hb dX11_cartOf_129 ?_
        refine lv_iconst (v := (2 : Int32)) hx hb dX11_cartOf_130 (by decide) ?_
        refine lv_isub hx hb dX11_cartOf_131 ?_
        obtain ⟨r_27, s_27, e_27, hf⟩ := mm_bd_ok hf
        refine mm_callV X hP hS hl.1 [.int x1, .int (((3 : Int32) + x2) - (2 : Int32))] [] (cx_X11_of l D ad cA hI x1 (((3 : Int32) + x2) - (2 : Int32)) s_3 r_27 s_27 e_27) kp_30 rfl rfl wd_850 wd_852 wp_19 wd_12 wd_853 hd_X11_of ⟨Nat.le_of_ble_eq_true rfl, Nat.le_of_ble_eq_true rfl⟩ rfl (Nat.le_of_ble_eq_true rfl) dX11_cartOf_132 (fun H locs hP hS => ?_)
        obtain ⟨rfl, rfl⟩ := mm_ret hf
        exact mm_iret X hP hS dX11_cartOf_135
      · replace hf := mm_it c_4 hf
        refine lv_ldc (v := (-1000001 : Int32)) hx hb X.2.2.2.2.2.1 (X.2.2.2.2.2.2.1 _ wd_845) dX11_cartOf_18 ?_
        obtain ⟨rfl, rfl⟩ := mm_ret hf
        exact mm_iret X hP hS dX11_cartOf_20
  exact hgen _ _ hP hS
def fx_X11_cardOf (x1 : Int32) (x2 : Int32) (x3 : Int32) (σ : mm_M) : mm_R := mm_bd (fx_X11_isCart x1 σ) fun r_1 s_1 => (if r_1 = (0 : Int32) then some ((-1000001 : Int32), s_1) else mm_bd (fx_X11_in x2 (0 : Int32) (4 : Int32) s_1) fun r_3 s_3 => (if r_3 = (0 : Int32) then some ((-1000001 : Int32), s_3) else mm_bd (fx_X11_in x3 (0 : Int32) (1 : Int32) s_3) fun r_5 s_5 => (if r_5 = (0 : Int32) then some ((-1000001 : Int32), s_5) else mm_bd (fx_X11_rank x1 x2 s_5) fun r_7 s_7 => (if r_7 = (0 : Int32) then some ((-1000004 : Int32), s_7) else mm_bd (fx_X11_of x1 (((7 : Int32) + ((2 : Int32) * x2)) + x3) s_7) fun r_9 s_9 => (some (r_9, s_9))))))
set_option maxHeartbeats 4000000 in
set_option maxRecDepth 100000 in
theorem cx_X11_cardOf (l : Launch) (D : va_G) (ad : mm_A) (cA : Nat → ClassId) (hI : mm_Inj ad) (x1 : Int32) (x2 : Int32) (x3 : Int32)  (σ : mm_M) (rv : Int32) (σ1 : mm_M) (hf : fx_X11_cardOf x1 x2 x3 σ = some (rv, σ1)) : Met l yX11_cardOf (Cond.code yX11_cardOf cX11_cardOf 4 (some .int) :: tb) (mm_rm 2 44) (mm_pre D ad cA [.ref (ad 10 30 0), .int x1, .int x2, .int x3] σ) (mm_Q D ad cA (some (.int rv)) σ1) 0 0 (mm_AS ad) := by
  refine mm_start (by decide +kernel) hI (Nat.le_of_ble_eq_true rfl) ?_
  intro p e s m args below meth c X hP ls hl
  have hl : lv_has ls 4 [(0, .ref (ad 10 30 0)), (1, .int x1), (2, .int x2), (3, .int x3)] := hl
  have hx := X.1
  have hb := X.2.1
  have hS : va_S (mm_AS ad) s.heap s.heap [] := va_S.rf
  have hgen : ∀ (H : Heap) (locs : List Loc), va_P D vwCl (mm_wd ad cA σ) H → va_S (mm_AS ad) s.heap H locs → W p l e (mm_rm 2 44) s m args below meth c H locs 0 0 (MQ below (mm_Q D ad cA (some (.int rv)) σ1) args s 0 0 (mm_AS ad)) (F0 m 0 ls []) := by
    intro H locs hP hS
    rw [fx_X11_cardOf] at hf
    refine lv_aload_n hx hb dX11_cardOf_0 rfl (lv_at hl 0 rfl) ?_
    refine lv_iload_n hx hb dX11_cardOf_1 rfl (lv_at hl 1 rfl) ?_
    obtain ⟨r_1, s_1, e_1, hf⟩ := mm_bd_ok hf
    refine mm_callV X hP hS hl.1 [.int x1] [] (cx_X11_isCart l D ad cA hI x1 σ r_1 s_1 e_1) kp_30 rfl rfl wd_903 wd_905 wp_27 wd_12 wd_906 hd_X11_isCart ⟨Nat.le_of_ble_eq_true rfl, Nat.le_of_ble_eq_true rfl⟩ rfl (Nat.le_of_ble_eq_true rfl) dX11_cardOf_2 (fun H locs hP hS => ?_)
    refine lv_if_eq (tgt := 26) hx hb dX11_cardOf_5 (by decide) (fun c_2 => ?_) (fun c_2 => ?_)
    · replace hf := mm_it c_2 hf
      refine lv_ldc (v := (-1000001 : Int32)) hx hb X.2.2.2.2.2.1 (X.2.2.2.2.2.2.1 _ wd_845) dX11_cardOf_26 ?_
      obtain ⟨rfl, rfl⟩ := mm_ret hf
      exact mm_iret X hP hS dX11_cardOf_28
    · replace hf := mm_if c_2 hf
      refine lv_iload_n hx hb dX11_cardOf_8 rfl (lv_at hl 2 rfl) ?_
      refine lv_iconst (v := (0 : Int32)) hx hb dX11_cardOf_9 (by decide) ?_
      refine lv_iconst (v := (4 : Int32)) hx hb dX11_cardOf_10 (by decide) ?_
      obtain ⟨r_3, s_3, e_3, hf⟩ := mm_bd_ok hf
      refine mm_callS X hP hS hl.1 [.int x2, .int (0 : Int32), .int (4 : Int32)] [] (cx_X11_in l D ad cA hI x2 (0 : Int32) (4 : Int32) s_1 r_3 s_3 e_3) wd_842 wd_843 wd_12 wd_844 hd_X11_in ⟨Nat.le_of_ble_eq_true rfl, Nat.le_of_ble_eq_true rfl⟩ rfl (Nat.le_of_ble_eq_true rfl) dX11_cardOf_11 (fun H locs hP hS => ?_)
      refine lv_if_eq (tgt := 26) hx hb dX11_cardOf_14 (by decide) (fun c_4 => ?_) (fun c_4 => ?_)
      · replace hf := mm_it c_4 hf
        refine lv_ldc (v := (-1000001 : Int32)) hx hb X.2.2.2.2.2.1 (X.2.2.2.2.2.2.1 _ wd_845) dX11_cardOf_26 ?_
        obtain ⟨rfl, rfl⟩ := mm_ret hf
        exact mm_iret X hP hS dX11_cardOf_28
      · replace hf := mm_if c_4 hf
        refine lv_iload_n hx hb dX11_cardOf_17 rfl (lv_at hl 3 rfl) ?_
        refine lv_iconst (v := (0 : Int32)) hx hb dX11_cardOf_18 (by decide) ?_
        refine lv_iconst (v := (1 : Int32)) hx hb dX11_cardOf_19 (by decide) ?_
        obtain ⟨r_5, s_5, e_5, hf⟩ := mm_bd_ok hf
        refine mm_callS X hP hS hl.1 [.int x3, .int (0 : Int32), .int (1 : Int32)] [] (cx_X11_in l D ad cA hI x3 (0 : Int32) (1 : Int32) s_3 r_5 s_5 e_5) wd_842 wd_843 wd_12 wd_844 hd_X11_in ⟨Nat.le_of_ble_eq_true rfl, Nat.le_of_ble_eq_true rfl⟩ rfl (Nat.le_of_ble_eq_true rfl) dX11_cardOf_20 (fun H locs hP hS => ?_)
        refine lv_if_ne (tgt := 29) hx hb dX11_cardOf_23 (by decide) (fun c_6 => ?_) (fun c_6 => ?_)
        · replace hf := mm_if c_6 hf
          refine lv_aload_n hx hb dX11_cardOf_29 rfl (lv_at hl 0 rfl) ?_
          refine lv_iload_n hx hb dX11_cardOf_30 rfl (lv_at hl 1 rfl) ?_
          refine lv_iload_n hx hb dX11_cardOf_31 rfl (lv_at hl 2 rfl) ?_
          obtain ⟨r_7, s_7, e_7, hf⟩ := mm_bd_ok hf
          refine mm_callV X hP hS hl.1 [.int x1, .int x2] [] (cx_X11_rank l D ad cA hI x1 x2 s_5 r_7 s_7 e_7) kp_30 rfl rfl wd_919 wd_921 wp_31 wd_12 wd_922 hd_X11_rank ⟨Nat.le_of_ble_eq_true rfl, Nat.le_of_ble_eq_true rfl⟩ rfl (Nat.le_of_ble_eq_true rfl) dX11_cardOf_32 (fun H locs hP hS => ?_)
          refine lv_if_ne (tgt := 43) hx hb dX11_cardOf_35 (by decide) (fun c_8 => ?_) (fun c_8 => ?_)
          · replace hf := mm_if c_8 hf
            refine lv_aload_n hx hb dX11_cardOf_43 rfl (lv_at hl 0 rfl) ?_
            refine lv_iload_n hx hb dX11_cardOf_44 rfl (lv_at hl 1 rfl) ?_
            refine lv_bipush (v := (7 : Int32)) hx hb dX11_cardOf_45 (by decide) ?_
            refine lv_iconst (v := (2 : Int32)) hx hb dX11_cardOf_47 (by decide) ?_
            refine lv_iload_n hx hb dX11_cardOf_48 rfl (lv_at hl 2 rfl) ?_
            refine lv_imul hx hb dX11_cardOf_49 ?_
            refine lv_iadd hx hb dX11_cardOf_50 ?_
            refine lv_iload_n hx hb dX11_cardOf_51 rfl (lv_at hl 3 rfl) ?_
            refine lv_iadd hx hb dX11_cardOf_52 ?_
            obtain ⟨r_9, s_9, e_9, hf⟩ := mm_bd_ok hf
            refine mm_callV X hP hS hl.1 [.int x1, .int (((7 : Int32) + ((2 : Int32) * x2)) + x3)] [] (cx_X11_of l D ad cA hI x1 (((7 : Int32) + ((2 : Int32) * x2)) + x3) s_7 r_9 s_9 e_9) kp_30 rfl rfl wd_850 wd_852 wp_19 wd_12 wd_853 hd_X11_of ⟨Nat.le_of_ble_eq_true rfl, Nat.le_of_ble_eq_true rfl⟩ rfl (Nat.le_of_ble_eq_true rfl) dX11_cardOf_53 (fun H locs hP hS => ?_)
            obtain ⟨rfl, rfl⟩ := mm_ret hf
            exact mm_iret X hP hS dX11_cardOf_56
          · replace hf := mm_it c_8 hf
            refine lv_ldc (v := (-1000004 : Int32)) hx hb X.2.2.2.2.2.1 (X.2.2.2.2.2.2.1 _ wd_1037) dX11_cardOf_38 ?_
            refine lv_goto (tgt := 56) hx hb dX11_cardOf_40 (by decide) ?_
            obtain ⟨rfl, rfl⟩ := mm_ret hf
            exact mm_iret X hP hS dX11_cardOf_56
        · replace hf := mm_it c_6 hf
          refine lv_ldc (v := (-1000001 : Int32)) hx hb X.2.2.2.2.2.1 (X.2.2.2.2.2.2.1 _ wd_845) dX11_cardOf_26 ?_
          obtain ⟨rfl, rfl⟩ := mm_ret hf
          exact mm_iret X hP hS dX11_cardOf_28
  exact hgen _ _ hP hS
def fx_X11_turn (x1 : Int32) (σ : mm_M) : mm_R := if (0 : Int32) ≤ x1 then mm_bd (fx_X11_orders  σ) fun _ s_2 => (if (s_2 10 30 0 9) ≤ x1 then some ((-1000004 : Int32), s_2) else mm_gd (mm_ix x1 4 = true) (some (s_2 10 37 0 x1.toNatClampNeg, s_2))) else some ((-1000001 : Int32), σ)
set_option maxHeartbeats 4000000 in
set_option maxRecDepth 100000 in
theorem cx_X11_turn (l : Launch) (D : va_G) (ad : mm_A) (cA : Nat → ClassId) (hI : mm_Inj ad) (x1 : Int32)  (σ : mm_M) (rv : Int32) (σ1 : mm_M) (hf : fx_X11_turn x1 σ = some (rv, σ1)) : Met l yX11_turn (Cond.code yX11_turn cX11_turn 2 (some .int) :: tb) (mm_rm 3 67) (mm_pre D ad cA [.ref (ad 10 30 0), .int x1] σ) (mm_Q D ad cA (some (.int rv)) σ1) 0 0 (mm_AS ad) := by
  refine mm_start (by decide +kernel) hI (Nat.le_of_ble_eq_true rfl) ?_
  intro p e s m args below meth c X hP ls hl
  have hl : lv_has ls 2 [(0, .ref (ad 10 30 0)), (1, .int x1)] := hl
  have hx := X.1
  have hb := X.2.1
  have hS : va_S (mm_AS ad) s.heap s.heap [] := va_S.rf
  have hgen : ∀ (H : Heap) (locs : List Loc), va_P D vwCl (mm_wd ad cA σ) H → va_S (mm_AS ad) s.heap H locs → W p l e (mm_rm 3 67) s m args below meth c H locs 0 0 (MQ below (mm_Q D ad cA (some (.int rv)) σ1) args s 0 0 (mm_AS ad)) (F0 m 0 ls []) := by
    intro H locs hP hS
    rw [fx_X11_turn] at hf
    refine lv_iload_n hx hb dX11_turn_0 rfl (lv_at hl 1 rfl) ?_
    refine lv_if_ge (tgt := 7) hx hb dX11_turn_1 (by decide) (fun c_1 => ?_) (fun c_1 => ?_)
    · replace hf := mm_it c_1 hf
      refine lv_aload_n hx hb dX11_turn_7 rfl (lv_at hl 0 rfl) ?_
      obtain ⟨r_2, s_2, e_2, hf⟩ := mm_bd_ok hf
      refine mm_callV X hP hS hl.1 [] [] (cx_X11_orders l D ad cA hI  σ r_2 s_2 e_2) kp_30 rfl rfl wd_946 wd_948 wp_35 wd_12 wd_949 hd_X11_orders ⟨Nat.le_of_ble_eq_true rfl, Nat.le_of_ble_eq_true rfl⟩ rfl (Nat.le_of_ble_eq_true rfl) dX11_turn_8 (fun H locs hP hS => ?_)
      refine lv_iload_n hx hb dX11_turn_11 rfl (lv_at hl 1 rfl) ?_
      refine lv_aload_n hx hb dX11_turn_12 rfl (lv_at hl 0 rfl) ?_
      refine gf_30_9 X hP  wd_778 dX11_turn_13 ?_
      refine lv_icmp_ge (tgt := 28) hx hb dX11_turn_16 (by decide) (fun c_3 => ?_) (fun c_3 => ?_)
      · replace hf := mm_it c_3 hf
        refine lv_ldc (v := (-1000004 : Int32)) hx hb X.2.2.2.2.2.1 (X.2.2.2.2.2.2.1 _ wd_1037) dX11_turn_28 ?_
        obtain ⟨rfl, rfl⟩ := mm_ret hf
        exact mm_iret X hP hS dX11_turn_30
      · replace hf := mm_if c_3 hf
        refine lv_aload_n hx hb dX11_turn_19 rfl (lv_at hl 0 rfl) ?_
        refine gf_30_8 X hP  wd_777 dX11_turn_20 ?_
        refine lv_iload_n hx hb dX11_turn_23 rfl (lv_at hl 1 rfl) ?_
        obtain ⟨h_4, hf⟩ := mm_gd_ok hf
        refine al_37 X hP  h_4 dX11_turn_24 ?_
        refine lv_goto (tgt := 30) hx hb dX11_turn_25 (by decide) ?_
        obtain ⟨rfl, rfl⟩ := mm_ret hf
        exact mm_iret X hP hS dX11_turn_30
    · replace hf := mm_if c_1 hf
      refine lv_ldc (v := (-1000001 : Int32)) hx hb X.2.2.2.2.2.1 (X.2.2.2.2.2.2.1 _ wd_845) dX11_turn_4 ?_
      obtain ⟨rfl, rfl⟩ := mm_ret hf
      exact mm_iret X hP hS dX11_turn_6
  exact hgen _ _ hP hS
def fx_X11_putsAside_L2   : Nat → Int32 → mm_M → mm_R
  | 0, _, _ => none
  | fu + 1, v1, σ => if (207 : Int32) ≤ v1 then some (0, σ) else mm_gd (mm_ix v1 207 = true) (mm_gd (mm_ix v1 207 = true) (mm_lt (mm_u σ 10 33 0 v1.toNatClampNeg (σ 10 31 0 v1.toNatClampNeg)) fun s_4 => (mm_li (v1 + (1 : Int32)) fun y_5 => (fx_X11_putsAside_L2 fu y_5 s_4))))
set_option maxHeartbeats 4000000 in
set_option maxRecDepth 100000 in
theorem cx_X11_putsAside_L2 {p : Program} {l : Launch} {e : Env} {s : State} {m : MethodId} {args : Array Value} {below : List Frame} {meth : Method} {c : Code} {D : va_G} {ad : mm_A} {cA : Nat → ClassId}   (rv : Int32) (σ1 : mm_M)  (X : mm_X p s m args meth c cX11_putsAside 2 none RX11 D ad cA) : ∀ (fu : Nat), ∀ (v1 : Int32) (σ : mm_M) (H : Heap) (locs : List Loc) (ls : Array Slot), fx_X11_putsAside_L2  fu v1 σ = some (rv, σ1) → va_P D vwCl (mm_wd ad cA σ) H → va_S (mm_AS ad) s.heap H locs → lv_has ls 2 [(0, .ref (ad 10 30 0)), (1, .int v1)] → W p l e (mm_rm 0 0) s m args below meth c H locs 0 0 (MQ below (mm_Q D ad cA none σ1) args s 0 0 (mm_AS ad)) (F0 m 2 ls []) := by
  have hx := X.1
  have hb := X.2.1
  have hI := X.2.2.2.2.2.2.2.2.2
  intro fu
  induction fu with
  | zero =>
    intro v1 σ H locs ls hf
    exact mm_no hf
  | succ fu ih =>
    intro v1 σ H locs ls hf hP hS hl
    rw [fx_X11_putsAside_L2] at hf
    refine lv_iload_n hx hb dX11_putsAside_2 rfl (lv_at hl 1 rfl) ?_
    refine lv_sipush (v := (207 : Int32)) hx hb dX11_putsAside_3 (by decide) ?_
    refine lv_icmp_ge (tgt := 27) hx hb dX11_putsAside_6 (by decide) (fun c_1 => ?_) (fun c_1 => ?_)
    · replace hf := mm_it c_1 hf
      obtain ⟨rfl, rfl⟩ := mm_ret hf
      exact mm_vret X hP hS dX11_putsAside_27
    · replace hf := mm_if c_1 hf
      refine lv_aload_n hx hb dX11_putsAside_9 rfl (lv_at hl 0 rfl) ?_
      refine gf_30_2 X hP  wd_771 dX11_putsAside_10 ?_
      refine lv_iload_n hx hb dX11_putsAside_13 rfl (lv_at hl 1 rfl) ?_
      refine lv_aload_n hx hb dX11_putsAside_14 rfl (lv_at hl 0 rfl) ?_
      refine gf_30_0 X hP  wd_769 dX11_putsAside_15 ?_
      refine lv_iload_n hx hb dX11_putsAside_18 rfl (lv_at hl 1 rfl) ?_
      obtain ⟨h_2, hf⟩ := mm_gd_ok hf
      refine al_31 X hP  h_2 dX11_putsAside_19 ?_
      obtain ⟨h_3, hf⟩ := mm_gd_ok hf
      refine as_33 X hP hS  h_3  dX11_putsAside_20 (fun H locs hP hS => ?_)
      obtain ⟨s_4, e_4, hf⟩ := mm_lt_ok hf
      rw [← e_4] at hP
      obtain ⟨y_5, e_5, hf⟩ := mm_li_ok hf
      refine lv_iinc (v := y_5) (lv' := [(1, .int y_5), (0, .ref (ad 10 30 0))]) hx hb dX11_putsAside_21 hl (k := 1) rfl (by rw [e_5]; rfl) (by decide) rfl (fun ls hl => ?_)
      refine lv_goto (tgt := 2) hx hb dX11_putsAside_24 (by decide) ?_
      exact ih y_5 s_4 H locs ls  hf hP hS (lv_sub hl [1, 0] rfl)
def fx_X11_putsAside  (σ : mm_M) : mm_R := fx_X11_putsAside_L2 mm_FU (0 : Int32) σ
set_option maxHeartbeats 4000000 in
set_option maxRecDepth 100000 in
theorem cx_X11_putsAside (l : Launch) (D : va_G) (ad : mm_A) (cA : Nat → ClassId) (hI : mm_Inj ad)   (σ : mm_M) (rv : Int32) (σ1 : mm_M) (hf : fx_X11_putsAside  σ = some (rv, σ1)) : Met l yX11_putsAside (Cond.code yX11_putsAside cX11_putsAside 2 none :: tb) (mm_rm 0 0) (mm_pre D ad cA [.ref (ad 10 30 0)] σ) (mm_Q D ad cA none σ1) 0 0 (mm_AS ad) := by
  refine mm_start (by decide +kernel) hI (Nat.le_of_ble_eq_true rfl) ?_
  intro p e s m args below meth c X hP ls hl
  have hl : lv_has ls 2 [(0, .ref (ad 10 30 0))] := hl
  have hx := X.1
  have hb := X.2.1
  have hS : va_S (mm_AS ad) s.heap s.heap [] := va_S.rf
  have hgen : ∀ (H : Heap) (locs : List Loc), va_P D vwCl (mm_wd ad cA σ) H → va_S (mm_AS ad) s.heap H locs → W p l e (mm_rm 0 0) s m args below meth c H locs 0 0 (MQ below (mm_Q D ad cA none σ1) args s 0 0 (mm_AS ad)) (F0 m 0 ls []) := by
    intro H locs hP hS
    rw [fx_X11_putsAside] at hf
    refine lv_iconst (v := (0 : Int32)) hx hb dX11_putsAside_0 (by decide) ?_
    refine lv_istore_n (lv' := [(1, .int (0 : Int32)), (0, .ref (ad 10 30 0))]) hx hb dX11_putsAside_1 rfl hl (by decide) rfl (fun ls hl => ?_)
    exact cx_X11_putsAside_L2 rv σ1 X mm_FU (0 : Int32) σ H locs ls hf hP hS (lv_sub hl [1, 0] rfl)
  exact hgen _ _ hP hS
def fx_X11_takesBack_L2   : Nat → Int32 → mm_M → mm_R
  | 0, _, _ => none
  | fu + 1, v1, σ => if (207 : Int32) ≤ v1 then some (0, σ) else mm_gd (mm_ix v1 207 = true) (mm_gd (mm_ix v1 207 = true) (mm_lt (mm_u σ 10 31 0 v1.toNatClampNeg (σ 10 33 0 v1.toNatClampNeg)) fun s_4 => (mm_li (v1 + (1 : Int32)) fun y_5 => (fx_X11_takesBack_L2 fu y_5 s_4))))
set_option maxHeartbeats 4000000 in
set_option maxRecDepth 100000 in
theorem cx_X11_takesBack_L2 {p : Program} {l : Launch} {e : Env} {s : State} {m : MethodId} {args : Array Value} {below : List Frame} {meth : Method} {c : Code} {D : va_G} {ad : mm_A} {cA : Nat → ClassId}   (rv : Int32) (σ1 : mm_M)  (X : mm_X p s m args meth c cX11_takesBack 2 none RX11 D ad cA) : ∀ (fu : Nat), ∀ (v1 : Int32) (σ : mm_M) (H : Heap) (locs : List Loc) (ls : Array Slot), fx_X11_takesBack_L2  fu v1 σ = some (rv, σ1) → va_P D vwCl (mm_wd ad cA σ) H → va_S (mm_AS ad) s.heap H locs → lv_has ls 2 [(0, .ref (ad 10 30 0)), (1, .int v1)] → W p l e (mm_rm 0 0) s m args below meth c H locs 0 0 (MQ below (mm_Q D ad cA none σ1) args s 0 0 (mm_AS ad)) (F0 m 2 ls []) := by
  have hx := X.1
  have hb := X.2.1
  have hI := X.2.2.2.2.2.2.2.2.2
  intro fu
  induction fu with
  | zero =>
    intro v1 σ H locs ls hf
    exact mm_no hf
  | succ fu ih =>
    intro v1 σ H locs ls hf hP hS hl
    rw [fx_X11_takesBack_L2] at hf
    refine lv_iload_n hx hb dX11_takesBack_2 rfl (lv_at hl 1 rfl) ?_
    refine lv_sipush (v := (207 : Int32)) hx hb dX11_takesBack_3 (by decide) ?_
    refine lv_icmp_ge (tgt := 27) hx hb dX11_takesBack_6 (by decide) (fun c_1 => ?_) (fun c_1 => ?_)
    · replace hf := mm_it c_1 hf
      obtain ⟨rfl, rfl⟩ := mm_ret hf
      exact mm_vret X hP hS dX11_takesBack_27
    · replace hf := mm_if c_1 hf
      refine lv_aload_n hx hb dX11_takesBack_9 rfl (lv_at hl 0 rfl) ?_
      refine gf_30_0 X hP  wd_769 dX11_takesBack_10 ?_
      refine lv_iload_n hx hb dX11_takesBack_13 rfl (lv_at hl 1 rfl) ?_
      refine lv_aload_n hx hb dX11_takesBack_14 rfl (lv_at hl 0 rfl) ?_
      refine gf_30_2 X hP  wd_771 dX11_takesBack_15 ?_
      refine lv_iload_n hx hb dX11_takesBack_18 rfl (lv_at hl 1 rfl) ?_
      obtain ⟨h_2, hf⟩ := mm_gd_ok hf
      refine al_33 X hP  h_2 dX11_takesBack_19 ?_
      obtain ⟨h_3, hf⟩ := mm_gd_ok hf
      refine as_31 X hP hS  h_3  dX11_takesBack_20 (fun H locs hP hS => ?_)
      obtain ⟨s_4, e_4, hf⟩ := mm_lt_ok hf
      rw [← e_4] at hP
      obtain ⟨y_5, e_5, hf⟩ := mm_li_ok hf
      refine lv_iinc (v := y_5) (lv' := [(1, .int y_5), (0, .ref (ad 10 30 0))]) hx hb dX11_takesBack_21 hl (k := 1) rfl (by rw [e_5]; rfl) (by decide) rfl (fun ls hl => ?_)
      refine lv_goto (tgt := 2) hx hb dX11_takesBack_24 (by decide) ?_
      exact ih y_5 s_4 H locs ls  hf hP hS (lv_sub hl [1, 0] rfl)
def fx_X11_takesBack  (σ : mm_M) : mm_R := fx_X11_takesBack_L2 mm_FU (0 : Int32) σ
set_option maxHeartbeats 4000000 in
set_option maxRecDepth 100000 in
theorem cx_X11_takesBack (l : Launch) (D : va_G) (ad : mm_A) (cA : Nat → ClassId) (hI : mm_Inj ad)   (σ : mm_M) (rv : Int32) (σ1 : mm_M) (hf : fx_X11_takesBack  σ = some (rv, σ1)) : Met l yX11_takesBack (Cond.code yX11_takesBack cX11_takesBack 2 none :: tb) (mm_rm 0 0) (mm_pre D ad cA [.ref (ad 10 30 0)] σ) (mm_Q D ad cA none σ1) 0 0 (mm_AS ad) := by
  refine mm_start (by decide +kernel) hI (Nat.le_of_ble_eq_true rfl) ?_
  intro p e s m args below meth c X hP ls hl
  have hl : lv_has ls 2 [(0, .ref (ad 10 30 0))] := hl
  have hx := X.1
  have hb := X.2.1
  have hS : va_S (mm_AS ad) s.heap s.heap [] := va_S.rf
  have hgen : ∀ (H : Heap) (locs : List Loc), va_P D vwCl (mm_wd ad cA σ) H → va_S (mm_AS ad) s.heap H locs → W p l e (mm_rm 0 0) s m args below meth c H locs 0 0 (MQ below (mm_Q D ad cA none σ1) args s 0 0 (mm_AS ad)) (F0 m 0 ls []) := by
    intro H locs hP hS
    rw [fx_X11_takesBack] at hf
    refine lv_iconst (v := (0 : Int32)) hx hb dX11_takesBack_0 (by decide) ?_
    refine lv_istore_n (lv' := [(1, .int (0 : Int32)), (0, .ref (ad 10 30 0))]) hx hb dX11_takesBack_1 rfl hl (by decide) rfl (fun ls hl => ?_)
    exact cx_X11_takesBack_L2 rv σ1 X mm_FU (0 : Int32) σ H locs ls hf hP hS (lv_sub hl [1, 0] rfl)
  exact hgen _ _ hP hS
