def fx_X11_touches_J79  (k2 : Int32 → mm_M → mm_R) (v1 : Int32) (w1 : Int32) (w2 : Int32) (σ : mm_M) : mm_R := mm_gd (mm_ix w1 207 = true) (mm_lt (mm_u σ 10 31 0 w1.toNatClampNeg w2) fun s_14 => (mm_li (v1 + (1 : Int32)) fun y_15 => (k2 y_15 s_14)))
set_option maxHeartbeats 4000000 in
set_option maxRecDepth 100000 in
theorem cx_X11_touches_J79 {p : Program} {l : Launch} {e : Env} {s : State} {m : MethodId} {args : Array Value} {below : List Frame} {meth : Method} {c : Code} {D : va_G} {ad : mm_A} {cA : Nat → ClassId}   (rv : Int32) (σ1 : mm_M) (k2 : Int32 → mm_M → mm_R) (hk2 : ∀ (v1 : Int32) (σ : mm_M) (H : Heap) (locs : List Loc) (ls : Array Slot), k2 v1 σ = some (rv, σ1) → va_P D vwCl (mm_wd ad cA σ) H → va_S (mm_AS ad) s.heap H locs → lv_has ls 2 [(0, .ref (ad 10 30 0)), (1, .int v1)] → W p l e (mm_rm 2 43) s m args below meth c H locs 0 0 (MQ below (mm_Q D ad cA none σ1) args s 0 0 (mm_AS ad)) (F0 m 2 ls [])) (X : mm_X p s m args meth c cX11_touches 2 none RX11 D ad cA) : ∀ (v1 : Int32) (w1 : Int32) (w2 : Int32) (σ : mm_M) (H : Heap) (locs : List Loc) (ls : Array Slot), fx_X11_touches_J79 k2 v1 w1 w2 σ = some (rv, σ1) → va_P D vwCl (mm_wd ad cA σ) H → va_S (mm_AS ad) s.heap H locs → lv_has ls 2 [(0, .ref (ad 10 30 0)), (1, .int v1)] → W p l e (mm_rm 2 43) s m args below meth c H locs 0 0 (MQ below (mm_Q D ad cA none σ1) args s 0 0 (mm_AS ad)) (F0 m 79 ls [.int w2, .int w1, .ref (ad 10 31 0)]) := by
  have hx := X.1
  have hb := X.2.1
  have hI := X.2.2.2.2.2.2.2.2.2
  intro v1 w1 w2 σ H locs ls hf hP hS hl
  rw [fx_X11_touches_J79] at hf
  obtain ⟨h_13, hf⟩ := mm_gd_ok hf
  refine as_31 X hP hS  h_13  dX11_touches_79 (fun H locs hP hS => ?_)
  obtain ⟨s_14, e_14, hf⟩ := mm_lt_ok hf
  rw [← e_14] at hP
  obtain ⟨y_15, e_15, hf⟩ := mm_li_ok hf
  refine lv_iinc (v := y_15) (lv' := [(1, .int y_15), (0, .ref (ad 10 30 0))]) hx hb dX11_touches_80 hl (k := 1) rfl (by rw [e_15]; rfl) (by decide) rfl (fun ls hl => ?_)
  refine lv_goto (tgt := 2) hx hb dX11_touches_83 (by decide) ?_
  exact hk2 y_15 s_14 H locs ls  hf hP hS (lv_sub hl [1, 0] rfl)
def fx_X11_touches_J73  (k2 : Int32 → mm_M → mm_R) (v1 : Int32) (w1 : Int32) (σ : mm_M) : mm_R := fx_X11_touches_J79 k2 v1 w1 (σ 10 31 0 (4 : Int32).toNatClampNeg) σ
set_option maxHeartbeats 4000000 in
set_option maxRecDepth 100000 in
theorem cx_X11_touches_J73 {p : Program} {l : Launch} {e : Env} {s : State} {m : MethodId} {args : Array Value} {below : List Frame} {meth : Method} {c : Code} {D : va_G} {ad : mm_A} {cA : Nat → ClassId}   (rv : Int32) (σ1 : mm_M) (k2 : Int32 → mm_M → mm_R) (hk2 : ∀ (v1 : Int32) (σ : mm_M) (H : Heap) (locs : List Loc) (ls : Array Slot), k2 v1 σ = some (rv, σ1) → va_P D vwCl (mm_wd ad cA σ) H → va_S (mm_AS ad) s.heap H locs → lv_has ls 2 [(0, .ref (ad 10 30 0)), (1, .int v1)] → W p l e (mm_rm 2 43) s m args below meth c H locs 0 0 (MQ below (mm_Q D ad cA none σ1) args s 0 0 (mm_AS ad)) (F0 m 2 ls [])) (X : mm_X p s m args meth c cX11_touches 2 none RX11 D ad cA) : ∀ (v1 : Int32) (w1 : Int32) (σ : mm_M) (H : Heap) (locs : List Loc) (ls : Array Slot), fx_X11_touches_J73 k2 v1 w1 σ = some (rv, σ1) → va_P D vwCl (mm_wd ad cA σ) H → va_S (mm_AS ad) s.heap H locs → lv_has ls 2 [(0, .ref (ad 10 30 0)), (1, .int v1)] → W p l e (mm_rm 2 43) s m args below meth c H locs 0 0 (MQ below (mm_Q D ad cA none σ1) args s 0 0 (mm_AS ad)) (F0 m 73 ls [.int w1, .ref (ad 10 31 0)]) := by
  have hx := X.1
  have hb := X.2.1
  have hI := X.2.2.2.2.2.2.2.2.2
  intro v1 w1 σ H locs ls hf hP hS hl
  rw [fx_X11_touches_J73] at hf
  refine lv_aload_n hx hb dX11_touches_73 rfl (lv_at hl 0 rfl) ?_
  refine gf_30_0 X hP  wd_769 dX11_touches_74 ?_
  refine lv_iconst (v := (4 : Int32)) hx hb dX11_touches_77 (by decide) ?_
  refine al_31 X hP  (by decide : mm_ix (4 : Int32) 207 = true) dX11_touches_78 ?_
  exact cx_X11_touches_J79 rv σ1 k2 hk2 X v1 w1 (σ 10 31 0 (4 : Int32).toNatClampNeg) σ H locs ls hf hP hS (lv_sub hl [0, 1] rfl)
def fx_X11_touches_L2   : Nat → Int32 → mm_M → mm_R
  | 0, _, _ => none
  | fu + 1, v1, σ => if (σ 10 31 0 (0 : Int32).toNatClampNeg) ≤ v1 then some (0, σ) else mm_bd (fx_X11_isOut v1 σ) fun r_2 s_2 => (if r_2 = (0 : Int32) then mm_bd (fx_X11_nextFlag v1 s_2) fun r_5 s_5 => (mm_bd (fx_X11_of v1 (1 : Int32) s_5) fun r_6 s_6 => (if r_5 = r_6 then mm_bd (fx_X11_more v1 (4 : Int32) s_6) fun _ s_9 => (if (0 : Int32) ≤ (s_9 10 31 0 (4 : Int32).toNatClampNeg) then fx_X11_touches_J73 (fun z0 z => fx_X11_touches_L2 fu z0 z) v1 (4 : Int32) s_9 else mm_bd (fx_X11_of v1 (4 : Int32) s_9) fun r_11 s_11 => (if r_11 = (s_11 10 31 0 (3 : Int32).toNatClampNeg) then fx_X11_touches_J79 (fun z0 z => fx_X11_touches_L2 fu z0 z) v1 (4 : Int32) v1 s_11 else fx_X11_touches_J73 (fun z0 z => fx_X11_touches_L2 fu z0 z) v1 (4 : Int32) s_11)) else mm_li (v1 + (1 : Int32)) fun y_8 => (fx_X11_touches_L2 fu y_8 s_6))) else mm_li (v1 + (1 : Int32)) fun y_4 => (fx_X11_touches_L2 fu y_4 s_2))
set_option maxHeartbeats 4000000 in
set_option maxRecDepth 100000 in
theorem cx_X11_touches_L2 {p : Program} {l : Launch} {e : Env} {s : State} {m : MethodId} {args : Array Value} {below : List Frame} {meth : Method} {c : Code} {D : va_G} {ad : mm_A} {cA : Nat → ClassId}   (rv : Int32) (σ1 : mm_M)  (X : mm_X p s m args meth c cX11_touches 2 none RX11 D ad cA) : ∀ (fu : Nat), ∀ (v1 : Int32) (σ : mm_M) (H : Heap) (locs : List Loc) (ls : Array Slot), fx_X11_touches_L2  fu v1 σ = some (rv, σ1) → va_P D vwCl (mm_wd ad cA σ) H → va_S (mm_AS ad) s.heap H locs → lv_has ls 2 [(0, .ref (ad 10 30 0)), (1, .int v1)] → W p l e (mm_rm 2 43) s m args below meth c H locs 0 0 (MQ below (mm_Q D ad cA none σ1) args s 0 0 (mm_AS ad)) (F0 m 2 ls []) := by
  have hx := X.1
  have hb := X.2.1
  have hI := X.2.2.2.2.2.2.2.2.2
  intro fu
  induction fu with
  | zero =>
    intro v1 σ H locs ls hf
    exact mm_no hf
  | succ fu ih =>
    intro v1 σ H locs ls hf hP hS hl
    rw [fx_X11_touches_L2] at hf
    refine lv_iload_n hx hb dX11_touches_2 rfl (lv_at hl 1 rfl) ?_
    refine lv_aload_n hx hb dX11_touches_3 rfl (lv_at hl 0 rfl) ?_
    refine gf_30_0 X hP  wd_769 dX11_touches_4 ?_
    refine lv_iconst (v := (0 : Int32)) hx hb dX11_touches_7 (by decide) ?_
    refine al_31 X hP  (by decide : mm_ix (0 : Int32) 207 = true) dX11_touches_8 ?_
    refine lv_icmp_ge (tgt := 86) hx hb dX11_touches_9 (by decide) (fun c_1 => ?_) (fun c_1 => ?_)
    · replace hf := mm_it c_1 hf
      obtain ⟨rfl, rfl⟩ := mm_ret hf
      exact mm_vret X hP hS dX11_touches_86
    · replace hf := mm_if c_1 hf
      refine lv_aload_n hx hb dX11_touches_12 rfl (lv_at hl 0 rfl) ?_
      refine lv_iload_n hx hb dX11_touches_13 rfl (lv_at hl 1 rfl) ?_
      obtain ⟨r_2, s_2, e_2, hf⟩ := mm_bd_ok hf
      refine mm_callV X hP hS hl.1 [.int v1] [] (cx_X11_isOut l D ad cA hI v1 σ r_2 s_2 e_2) kp_30 rfl rfl wd_907 wd_909 wp_28 wd_12 wd_910 hd_X11_isOut ⟨Nat.le_of_ble_eq_true rfl, Nat.le_of_ble_eq_true rfl⟩ rfl (Nat.le_of_ble_eq_true rfl) dX11_touches_14 (fun H locs hP hS => ?_)
      refine lv_if_ne (tgt := 80) hx hb dX11_touches_17 (by decide) (fun c_3 => ?_) (fun c_3 => ?_)
      · replace hf := mm_if c_3 hf
        obtain ⟨y_4, e_4, hf⟩ := mm_li_ok hf
        refine lv_iinc (v := y_4) (lv' := [(1, .int y_4), (0, .ref (ad 10 30 0))]) hx hb dX11_touches_80 hl (k := 1) rfl (by rw [e_4]; rfl) (by decide) rfl (fun ls hl => ?_)
        refine lv_goto (tgt := 2) hx hb dX11_touches_83 (by decide) ?_
        exact ih y_4 s_2 H locs ls  hf hP hS (lv_sub hl [1, 0] rfl)
      · replace hf := mm_it c_3 hf
        refine lv_aload_n hx hb dX11_touches_20 rfl (lv_at hl 0 rfl) ?_
        refine lv_iload_n hx hb dX11_touches_21 rfl (lv_at hl 1 rfl) ?_
        obtain ⟨r_5, s_5, e_5, hf⟩ := mm_bd_ok hf
        refine mm_callV X hP hS hl.1 [.int v1] [] (cx_X11_nextFlag l D ad cA hI v1 s_2 r_5 s_5 e_5) kp_30 rfl rfl wd_1010 wd_1012 wp_51 wd_12 wd_1013 hd_X11_nextFlag ⟨Nat.le_of_ble_eq_true rfl, Nat.le_of_ble_eq_true rfl⟩ rfl (Nat.le_of_ble_eq_true rfl) dX11_touches_22 (fun H locs hP hS => ?_)
        refine lv_aload_n hx hb dX11_touches_25 rfl (lv_at hl 0 rfl) ?_
        refine lv_iload_n hx hb dX11_touches_26 rfl (lv_at hl 1 rfl) ?_
        refine lv_iconst (v := (1 : Int32)) hx hb dX11_touches_27 (by decide) ?_
        obtain ⟨r_6, s_6, e_6, hf⟩ := mm_bd_ok hf
        refine mm_callV X hP hS hl.1 [.int v1, .int (1 : Int32)] [.int r_5] (cx_X11_of l D ad cA hI v1 (1 : Int32) s_5 r_6 s_6 e_6) kp_30 rfl rfl wd_850 wd_852 wp_19 wd_12 wd_853 hd_X11_of ⟨Nat.le_of_ble_eq_true rfl, Nat.le_of_ble_eq_true rfl⟩ rfl (Nat.le_of_ble_eq_true rfl) dX11_touches_28 (fun H locs hP hS => ?_)
        refine lv_icmp_ne (tgt := 80) hx hb dX11_touches_31 (by decide) (fun c_7 => ?_) (fun c_7 => ?_)
        · replace hf := mm_if c_7 hf
          obtain ⟨y_8, e_8, hf⟩ := mm_li_ok hf
          refine lv_iinc (v := y_8) (lv' := [(1, .int y_8), (0, .ref (ad 10 30 0))]) hx hb dX11_touches_80 hl (k := 1) rfl (by rw [e_8]; rfl) (by decide) rfl (fun ls hl => ?_)
          refine lv_goto (tgt := 2) hx hb dX11_touches_83 (by decide) ?_
          exact ih y_8 s_6 H locs ls  hf hP hS (lv_sub hl [1, 0] rfl)
        · replace hf := mm_it c_7 hf
          refine lv_aload_n hx hb dX11_touches_34 rfl (lv_at hl 0 rfl) ?_
          refine lv_iload_n hx hb dX11_touches_35 rfl (lv_at hl 1 rfl) ?_
          refine lv_iconst (v := (4 : Int32)) hx hb dX11_touches_36 (by decide) ?_
          obtain ⟨r_9, s_9, e_9, hf⟩ := mm_bd_ok hf
          refine mm_callV X hP hS hl.1 [.int v1, .int (4 : Int32)] [] (cx_X11_more l D ad cA hI v1 (4 : Int32) s_6 r_9 s_9 e_9) kp_30 rfl rfl wd_974 wd_976 wp_42 wd_12 wd_977 hd_X11_more ⟨Nat.le_of_ble_eq_true rfl, Nat.le_of_ble_eq_true rfl⟩ rfl (Nat.le_of_ble_eq_true rfl) dX11_touches_37 (fun H locs hP hS => ?_)
          refine lv_aload_n hx hb dX11_touches_40 rfl (lv_at hl 0 rfl) ?_
          refine gf_30_0 X hP  wd_769 dX11_touches_41 ?_
          refine lv_iconst (v := (4 : Int32)) hx hb dX11_touches_44 (by decide) ?_
          refine lv_aload_n hx hb dX11_touches_45 rfl (lv_at hl 0 rfl) ?_
          refine gf_30_0 X hP  wd_769 dX11_touches_46 ?_
          refine lv_iconst (v := (4 : Int32)) hx hb dX11_touches_49 (by decide) ?_
          refine al_31 X hP  (by decide : mm_ix (4 : Int32) 207 = true) dX11_touches_50 ?_
          refine lv_if_ge (tgt := 73) hx hb dX11_touches_51 (by decide) (fun c_10 => ?_) (fun c_10 => ?_)
          · replace hf := mm_it c_10 hf
            exact cx_X11_touches_J73 rv σ1 (fun z0 z => fx_X11_touches_L2 fu z0 z) ih X v1 (4 : Int32) s_9 H locs ls hf hP hS (lv_sub hl [0, 1] rfl)
          · replace hf := mm_if c_10 hf
            refine lv_aload_n hx hb dX11_touches_54 rfl (lv_at hl 0 rfl) ?_
            refine lv_iload_n hx hb dX11_touches_55 rfl (lv_at hl 1 rfl) ?_
            refine lv_iconst (v := (4 : Int32)) hx hb dX11_touches_56 (by decide) ?_
            obtain ⟨r_11, s_11, e_11, hf⟩ := mm_bd_ok hf
            refine mm_callV X hP hS hl.1 [.int v1, .int (4 : Int32)] [.int (4 : Int32), .ref (ad 10 31 0)] (cx_X11_of l D ad cA hI v1 (4 : Int32) s_9 r_11 s_11 e_11) kp_30 rfl rfl wd_850 wd_852 wp_19 wd_12 wd_853 hd_X11_of ⟨Nat.le_of_ble_eq_true rfl, Nat.le_of_ble_eq_true rfl⟩ rfl (Nat.le_of_ble_eq_true rfl) dX11_touches_57 (fun H locs hP hS => ?_)
            refine lv_aload_n hx hb dX11_touches_60 rfl (lv_at hl 0 rfl) ?_
            refine gf_30_0 X hP  wd_769 dX11_touches_61 ?_
            refine lv_iconst (v := (3 : Int32)) hx hb dX11_touches_64 (by decide) ?_
            refine al_31 X hP  (by decide : mm_ix (3 : Int32) 207 = true) dX11_touches_65 ?_
            refine lv_icmp_ne (tgt := 73) hx hb dX11_touches_66 (by decide) (fun c_12 => ?_) (fun c_12 => ?_)
            · replace hf := mm_if c_12 hf
              exact cx_X11_touches_J73 rv σ1 (fun z0 z => fx_X11_touches_L2 fu z0 z) ih X v1 (4 : Int32) s_11 H locs ls hf hP hS (lv_sub hl [0, 1] rfl)
            · replace hf := mm_it c_12 hf
              refine lv_iload_n hx hb dX11_touches_69 rfl (lv_at hl 1 rfl) ?_
              refine lv_goto (tgt := 79) hx hb dX11_touches_70 (by decide) ?_
              exact cx_X11_touches_J79 rv σ1 (fun z0 z => fx_X11_touches_L2 fu z0 z) ih X v1 (4 : Int32) v1 s_11 H locs ls hf hP hS (lv_sub hl [0, 1] rfl)
def fx_X11_touches  (σ : mm_M) : mm_R := fx_X11_touches_L2 mm_FU (0 : Int32) σ
set_option maxHeartbeats 4000000 in
set_option maxRecDepth 100000 in
theorem cx_X11_touches (l : Launch) (D : va_G) (ad : mm_A) (cA : Nat → ClassId) (hI : mm_Inj ad)   (σ : mm_M) (rv : Int32) (σ1 : mm_M) (hf : fx_X11_touches  σ = some (rv, σ1)) : Met l yX11_touches (Cond.code yX11_touches cX11_touches 2 none :: tb) (mm_rm 2 43) (mm_pre D ad cA [.ref (ad 10 30 0)] σ) (mm_Q D ad cA none σ1) 0 0 (mm_AS ad) := by
  refine mm_start (by decide +kernel) hI (Nat.le_of_ble_eq_true rfl) ?_
  intro p e s m args below meth c X hP ls hl
  have hl : lv_has ls 2 [(0, .ref (ad 10 30 0))] := hl
  have hx := X.1
  have hb := X.2.1
  have hS : va_S (mm_AS ad) s.heap s.heap [] := va_S.rf
  have hgen : ∀ (H : Heap) (locs : List Loc), va_P D vwCl (mm_wd ad cA σ) H → va_S (mm_AS ad) s.heap H locs → W p l e (mm_rm 2 43) s m args below meth c H locs 0 0 (MQ below (mm_Q D ad cA none σ1) args s 0 0 (mm_AS ad)) (F0 m 0 ls []) := by
    intro H locs hP hS
    rw [fx_X11_touches] at hf
    refine lv_iconst (v := (0 : Int32)) hx hb dX11_touches_0 (by decide) ?_
    refine lv_istore_n (lv' := [(1, .int (0 : Int32)), (0, .ref (ad 10 30 0))]) hx hb dX11_touches_1 rfl hl (by decide) rfl (fun ls hl => ?_)
    exact cx_X11_touches_L2 rv σ1 X mm_FU (0 : Int32) σ H locs ls hf hP hS (lv_sub hl [1, 0] rfl)
  exact hgen _ _ hP hS
def fx_X11_empties_J20 (x1 : Int32) (x2 : Int32) (k2 : Int32 → mm_M → mm_R) (v3 : Int32) (σ : mm_M) : mm_R := mm_bd (fx_X11_lays x1 ((7 : Int32) + ((2 : Int32) * v3)) (0 : Int32) σ) fun _ s_6 => (mm_bd (fx_X11_lays x1 (((7 : Int32) + ((2 : Int32) * v3)) + (1 : Int32)) (0 : Int32) s_6) fun _ s_7 => (mm_li (v3 + (1 : Int32)) fun y_8 => (k2 y_8 s_7)))
set_option maxHeartbeats 4000000 in
set_option maxRecDepth 100000 in
theorem cx_X11_empties_J20 {p : Program} {l : Launch} {e : Env} {s : State} {m : MethodId} {args : Array Value} {below : List Frame} {meth : Method} {c : Code} {D : va_G} {ad : mm_A} {cA : Nat → ClassId} (x1 : Int32) (x2 : Int32)  (rv : Int32) (σ1 : mm_M) (k2 : Int32 → mm_M → mm_R) (hk2 : ∀ (v3 : Int32) (σ : mm_M) (H : Heap) (locs : List Loc) (ls : Array Slot), k2 v3 σ = some (rv, σ1) → va_P D vwCl (mm_wd ad cA σ) H → va_S (mm_AS ad) s.heap H locs → lv_has ls 4 [(0, .ref (ad 10 30 0)), (1, .int x1), (2, .int x2), (3, .int v3)] → W p l e (mm_rm 2 44) s m args below meth c H locs 0 0 (MQ below (mm_Q D ad cA none σ1) args s 0 0 (mm_AS ad)) (F0 m 2 ls [])) (X : mm_X p s m args meth c cX11_empties 4 none RX11 D ad cA) : ∀ (v3 : Int32) (σ : mm_M) (H : Heap) (locs : List Loc) (ls : Array Slot), fx_X11_empties_J20 x1 x2 k2 v3 σ = some (rv, σ1) → va_P D vwCl (mm_wd ad cA σ) H → va_S (mm_AS ad) s.heap H locs → lv_has ls 4 [(0, .ref (ad 10 30 0)), (1, .int x1), (2, .int x2), (3, .int v3)] → W p l e (mm_rm 2 44) s m args below meth c H locs 0 0 (MQ below (mm_Q D ad cA none σ1) args s 0 0 (mm_AS ad)) (F0 m 20 ls []) := by
  have hx := X.1
  have hb := X.2.1
  have hI := X.2.2.2.2.2.2.2.2.2
  intro v3 σ H locs ls hf hP hS hl
  rw [fx_X11_empties_J20] at hf
  refine lv_aload_n hx hb dX11_empties_20 rfl (lv_at hl 0 rfl) ?_
  refine lv_iload_n hx hb dX11_empties_21 rfl (lv_at hl 1 rfl) ?_
  refine lv_bipush (v := (7 : Int32)) hx hb dX11_empties_22 (by decide) ?_
  refine lv_iconst (v := (2 : Int32)) hx hb dX11_empties_24 (by decide) ?_
  refine lv_iload_n hx hb dX11_empties_25 rfl (lv_at hl 3 rfl) ?_
  refine lv_imul hx hb dX11_empties_26 ?_
  refine lv_iadd hx hb dX11_empties_27 ?_
  refine lv_iconst (v := (0 : Int32)) hx hb dX11_empties_28 (by decide) ?_
  obtain ⟨r_6, s_6, e_6, hf⟩ := mm_bd_ok hf
  refine mm_callV X hP hS hl.1 [.int x1, .int ((7 : Int32) + ((2 : Int32) * v3)), .int (0 : Int32)] [] (cx_X11_lays l D ad cA hI x1 ((7 : Int32) + ((2 : Int32) * v3)) (0 : Int32) σ r_6 s_6 e_6) kp_30 rfl rfl wd_891 wd_893 wp_25 wd_12 wd_894 hd_X11_lays ⟨Nat.le_of_ble_eq_true rfl, Nat.le_of_ble_eq_true rfl⟩ rfl (Nat.le_of_ble_eq_true rfl) dX11_empties_29 (fun H locs hP hS => ?_)
  refine lv_aload_n hx hb dX11_empties_32 rfl (lv_at hl 0 rfl) ?_
  refine lv_iload_n hx hb dX11_empties_33 rfl (lv_at hl 1 rfl) ?_
  refine lv_bipush (v := (7 : Int32)) hx hb dX11_empties_34 (by decide) ?_
  refine lv_iconst (v := (2 : Int32)) hx hb dX11_empties_36 (by decide) ?_
  refine lv_iload_n hx hb dX11_empties_37 rfl (lv_at hl 3 rfl) ?_
  refine lv_imul hx hb dX11_empties_38 ?_
  refine lv_iadd hx hb dX11_empties_39 ?_
  refine lv_iconst (v := (1 : Int32)) hx hb dX11_empties_40 (by decide) ?_
  refine lv_iadd hx hb dX11_empties_41 ?_
  refine lv_iconst (v := (0 : Int32)) hx hb dX11_empties_42 (by decide) ?_
  obtain ⟨r_7, s_7, e_7, hf⟩ := mm_bd_ok hf
  refine mm_callV X hP hS hl.1 [.int x1, .int (((7 : Int32) + ((2 : Int32) * v3)) + (1 : Int32)), .int (0 : Int32)] [] (cx_X11_lays l D ad cA hI x1 (((7 : Int32) + ((2 : Int32) * v3)) + (1 : Int32)) (0 : Int32) s_6 r_7 s_7 e_7) kp_30 rfl rfl wd_891 wd_893 wp_25 wd_12 wd_894 hd_X11_lays ⟨Nat.le_of_ble_eq_true rfl, Nat.le_of_ble_eq_true rfl⟩ rfl (Nat.le_of_ble_eq_true rfl) dX11_empties_43 (fun H locs hP hS => ?_)
  obtain ⟨y_8, e_8, hf⟩ := mm_li_ok hf
  refine lv_iinc (v := y_8) (lv' := [(3, .int y_8), (0, .ref (ad 10 30 0)), (1, .int x1), (2, .int x2)]) hx hb dX11_empties_46 hl (k := 3) rfl (by rw [e_8]; rfl) (by decide) rfl (fun ls hl => ?_)
  refine lv_goto (tgt := 2) hx hb dX11_empties_49 (by decide) ?_
  exact hk2 y_8 s_7 H locs ls  hf hP hS (lv_sub hl [1, 2, 3, 0] rfl)
def fx_X11_empties_L2 (x1 : Int32) (x2 : Int32)  : Nat → Int32 → mm_M → mm_R
  | 0, _, _ => none
  | fu + 1, v3, σ => if (5 : Int32) ≤ v3 then some (0, σ) else if x2 = (0 : Int32) then mm_bd (fx_X11_isLocked x1 v3 σ) fun r_3 s_3 => (if r_3 = (0 : Int32) then fx_X11_empties_J20 x1 x2 (fun z0 z => fx_X11_empties_L2 x1 x2 fu z0 z) v3 s_3 else mm_li (v3 + (1 : Int32)) fun y_5 => (fx_X11_empties_L2 x1 x2 fu y_5 s_3)) else fx_X11_empties_J20 x1 x2 (fun z0 z => fx_X11_empties_L2 x1 x2 fu z0 z) v3 σ
set_option maxHeartbeats 4000000 in
set_option maxRecDepth 100000 in
theorem cx_X11_empties_L2 {p : Program} {l : Launch} {e : Env} {s : State} {m : MethodId} {args : Array Value} {below : List Frame} {meth : Method} {c : Code} {D : va_G} {ad : mm_A} {cA : Nat → ClassId} (x1 : Int32) (x2 : Int32)  (rv : Int32) (σ1 : mm_M)  (X : mm_X p s m args meth c cX11_empties 4 none RX11 D ad cA) : ∀ (fu : Nat), ∀ (v3 : Int32) (σ : mm_M) (H : Heap) (locs : List Loc) (ls : Array Slot), fx_X11_empties_L2 x1 x2 fu v3 σ = some (rv, σ1) → va_P D vwCl (mm_wd ad cA σ) H → va_S (mm_AS ad) s.heap H locs → lv_has ls 4 [(0, .ref (ad 10 30 0)), (1, .int x1), (2, .int x2), (3, .int v3)] → W p l e (mm_rm 2 44) s m args below meth c H locs 0 0 (MQ below (mm_Q D ad cA none σ1) args s 0 0 (mm_AS ad)) (F0 m 2 ls []) := by
  have hx := X.1
  have hb := X.2.1
  have hI := X.2.2.2.2.2.2.2.2.2
  intro fu
  induction fu with
  | zero =>
    intro v3 σ H locs ls hf
    exact mm_no hf
  | succ fu ih =>
    intro v3 σ H locs ls hf hP hS hl
    rw [fx_X11_empties_L2] at hf
    refine lv_iload_n hx hb dX11_empties_2 rfl (lv_at hl 3 rfl) ?_
    refine lv_iconst (v := (5 : Int32)) hx hb dX11_empties_3 (by decide) ?_
    refine lv_icmp_ge (tgt := 52) hx hb dX11_empties_4 (by decide) (fun c_1 => ?_) (fun c_1 => ?_)
    · replace hf := mm_it c_1 hf
      obtain ⟨rfl, rfl⟩ := mm_ret hf
      exact mm_vret X hP hS dX11_empties_52
    · replace hf := mm_if c_1 hf
      refine lv_iload_n hx hb dX11_empties_7 rfl (lv_at hl 2 rfl) ?_
      refine lv_if_ne (tgt := 20) hx hb dX11_empties_8 (by decide) (fun c_2 => ?_) (fun c_2 => ?_)
      · replace hf := mm_if c_2 hf
        exact cx_X11_empties_J20 x1 x2 rv σ1 (fun z0 z => fx_X11_empties_L2 x1 x2 fu z0 z) ih X v3 σ H locs ls hf hP hS (lv_sub hl [0, 1, 2, 3] rfl)
      · replace hf := mm_it c_2 hf
        refine lv_aload_n hx hb dX11_empties_11 rfl (lv_at hl 0 rfl) ?_
        refine lv_iload_n hx hb dX11_empties_12 rfl (lv_at hl 1 rfl) ?_
        refine lv_iload_n hx hb dX11_empties_13 rfl (lv_at hl 3 rfl) ?_
        obtain ⟨r_3, s_3, e_3, hf⟩ := mm_bd_ok hf
        refine mm_callV X hP hS hl.1 [.int x1, .int v3] [] (cx_X11_isLocked l D ad cA hI x1 v3 σ r_3 s_3 e_3) kp_30 rfl rfl wd_911 wd_913 wp_29 wd_12 wd_914 hd_X11_isLocked ⟨Nat.le_of_ble_eq_true rfl, Nat.le_of_ble_eq_true rfl⟩ rfl (Nat.le_of_ble_eq_true rfl) dX11_empties_14 (fun H locs hP hS => ?_)
        refine lv_if_ne (tgt := 46) hx hb dX11_empties_17 (by decide) (fun c_4 => ?_) (fun c_4 => ?_)
        · replace hf := mm_if c_4 hf
          obtain ⟨y_5, e_5, hf⟩ := mm_li_ok hf
          refine lv_iinc (v := y_5) (lv' := [(3, .int y_5), (0, .ref (ad 10 30 0)), (1, .int x1), (2, .int x2)]) hx hb dX11_empties_46 hl (k := 3) rfl (by rw [e_5]; rfl) (by decide) rfl (fun ls hl => ?_)
          refine lv_goto (tgt := 2) hx hb dX11_empties_49 (by decide) ?_
          exact ih y_5 s_3 H locs ls  hf hP hS (lv_sub hl [1, 2, 3, 0] rfl)
        · replace hf := mm_it c_4 hf
          exact cx_X11_empties_J20 x1 x2 rv σ1 (fun z0 z => fx_X11_empties_L2 x1 x2 fu z0 z) ih X v3 s_3 H locs ls hf hP hS (lv_sub hl [0, 1, 2, 3] rfl)
def fx_X11_empties (x1 : Int32) (x2 : Int32) (σ : mm_M) : mm_R := fx_X11_empties_L2 x1 x2 mm_FU (0 : Int32) σ
set_option maxHeartbeats 4000000 in
set_option maxRecDepth 100000 in
theorem cx_X11_empties (l : Launch) (D : va_G) (ad : mm_A) (cA : Nat → ClassId) (hI : mm_Inj ad) (x1 : Int32) (x2 : Int32)  (σ : mm_M) (rv : Int32) (σ1 : mm_M) (hf : fx_X11_empties x1 x2 σ = some (rv, σ1)) : Met l yX11_empties (Cond.code yX11_empties cX11_empties 4 none :: tb) (mm_rm 2 44) (mm_pre D ad cA [.ref (ad 10 30 0), .int x1, .int x2] σ) (mm_Q D ad cA none σ1) 0 0 (mm_AS ad) := by
  refine mm_start (by decide +kernel) hI (Nat.le_of_ble_eq_true rfl) ?_
  intro p e s m args below meth c X hP ls hl
  have hl : lv_has ls 4 [(0, .ref (ad 10 30 0)), (1, .int x1), (2, .int x2)] := hl
  have hx := X.1
  have hb := X.2.1
  have hS : va_S (mm_AS ad) s.heap s.heap [] := va_S.rf
  have hgen : ∀ (H : Heap) (locs : List Loc), va_P D vwCl (mm_wd ad cA σ) H → va_S (mm_AS ad) s.heap H locs → W p l e (mm_rm 2 44) s m args below meth c H locs 0 0 (MQ below (mm_Q D ad cA none σ1) args s 0 0 (mm_AS ad)) (F0 m 0 ls []) := by
    intro H locs hP hS
    rw [fx_X11_empties] at hf
    refine lv_iconst (v := (0 : Int32)) hx hb dX11_empties_0 (by decide) ?_
    refine lv_istore_n (lv' := [(3, .int (0 : Int32)), (0, .ref (ad 10 30 0)), (1, .int x1), (2, .int x2)]) hx hb dX11_empties_1 rfl hl (by decide) rfl (fun ls hl => ?_)
    exact cx_X11_empties_L2 x1 x2 rv σ1 X mm_FU (0 : Int32) σ H locs ls hf hP hS (lv_sub hl [1, 2, 3, 0] rfl)
  exact hgen _ _ hP hS
def fx_X11_comesBack_J51 (x1 : Int32)  (w1 : Int32) (w2 : Int32) (w3 : Int32) (σ : mm_M) : mm_R := mm_bd (fx_X11_lays w1 w2 w3 σ) fun _ s_9 => (mm_bd (fx_X11_lays x1 (2 : Int32) (0 : Int32) s_9) fun _ s_10 => (mm_bd (fx_X11_lays x1 (3 : Int32) (2 : Int32) s_10) fun _ s_11 => (mm_bd (fx_X11_empties x1 (1 : Int32) s_11) fun _ s_12 => (some (0, s_12)))))
set_option maxHeartbeats 4000000 in
set_option maxRecDepth 100000 in
theorem cx_X11_comesBack_J51 {p : Program} {l : Launch} {e : Env} {s : State} {m : MethodId} {args : Array Value} {below : List Frame} {meth : Method} {c : Code} {D : va_G} {ad : mm_A} {cA : Nat → ClassId} (x1 : Int32)  (rv : Int32) (σ1 : mm_M)  (X : mm_X p s m args meth c cX11_comesBack 3 none RX11 D ad cA) : ∀ (w1 : Int32) (w2 : Int32) (w3 : Int32) (σ : mm_M) (H : Heap) (locs : List Loc) (ls : Array Slot), fx_X11_comesBack_J51 x1 w1 w2 w3 σ = some (rv, σ1) → va_P D vwCl (mm_wd ad cA σ) H → va_S (mm_AS ad) s.heap H locs → lv_has ls 3 [(0, .ref (ad 10 30 0)), (1, .int x1)] → W p l e (mm_rm 3 67) s m args below meth c H locs 0 0 (MQ below (mm_Q D ad cA none σ1) args s 0 0 (mm_AS ad)) (F0 m 51 ls [.int w3, .int w2, .int w1, .ref (ad 10 30 0)]) := by
  have hx := X.1
  have hb := X.2.1
  have hI := X.2.2.2.2.2.2.2.2.2
  intro w1 w2 w3 σ H locs ls hf hP hS hl
  rw [fx_X11_comesBack_J51] at hf
  obtain ⟨r_9, s_9, e_9, hf⟩ := mm_bd_ok hf
  refine mm_callV X hP hS hl.1 [.int w1, .int w2, .int w3] [] (cx_X11_lays l D ad cA hI w1 w2 w3 σ r_9 s_9 e_9) kp_30 rfl rfl wd_891 wd_893 wp_25 wd_12 wd_894 hd_X11_lays ⟨Nat.le_of_ble_eq_true rfl, Nat.le_of_ble_eq_true rfl⟩ rfl (Nat.le_of_ble_eq_true rfl) dX11_comesBack_51 (fun H locs hP hS => ?_)
  refine lv_aload_n hx hb dX11_comesBack_54 rfl (lv_at hl 0 rfl) ?_
  refine lv_iload_n hx hb dX11_comesBack_55 rfl (lv_at hl 1 rfl) ?_
  refine lv_iconst (v := (2 : Int32)) hx hb dX11_comesBack_56 (by decide) ?_
  refine lv_iconst (v := (0 : Int32)) hx hb dX11_comesBack_57 (by decide) ?_
  obtain ⟨r_10, s_10, e_10, hf⟩ := mm_bd_ok hf
  refine mm_callV X hP hS hl.1 [.int x1, .int (2 : Int32), .int (0 : Int32)] [] (cx_X11_lays l D ad cA hI x1 (2 : Int32) (0 : Int32) s_9 r_10 s_10 e_10) kp_30 rfl rfl wd_891 wd_893 wp_25 wd_12 wd_894 hd_X11_lays ⟨Nat.le_of_ble_eq_true rfl, Nat.le_of_ble_eq_true rfl⟩ rfl (Nat.le_of_ble_eq_true rfl) dX11_comesBack_58 (fun H locs hP hS => ?_)
  refine lv_aload_n hx hb dX11_comesBack_61 rfl (lv_at hl 0 rfl) ?_
  refine lv_iload_n hx hb dX11_comesBack_62 rfl (lv_at hl 1 rfl) ?_
  refine lv_iconst (v := (3 : Int32)) hx hb dX11_comesBack_63 (by decide) ?_
  refine lv_iconst (v := (2 : Int32)) hx hb dX11_comesBack_64 (by decide) ?_
  obtain ⟨r_11, s_11, e_11, hf⟩ := mm_bd_ok hf
  refine mm_callV X hP hS hl.1 [.int x1, .int (3 : Int32), .int (2 : Int32)] [] (cx_X11_lays l D ad cA hI x1 (3 : Int32) (2 : Int32) s_10 r_11 s_11 e_11) kp_30 rfl rfl wd_891 wd_893 wp_25 wd_12 wd_894 hd_X11_lays ⟨Nat.le_of_ble_eq_true rfl, Nat.le_of_ble_eq_true rfl⟩ rfl (Nat.le_of_ble_eq_true rfl) dX11_comesBack_65 (fun H locs hP hS => ?_)
  refine lv_aload_n hx hb dX11_comesBack_68 rfl (lv_at hl 0 rfl) ?_
  refine lv_iload_n hx hb dX11_comesBack_69 rfl (lv_at hl 1 rfl) ?_
  refine lv_iconst (v := (1 : Int32)) hx hb dX11_comesBack_70 (by decide) ?_
  obtain ⟨r_12, s_12, e_12, hf⟩ := mm_bd_ok hf
  refine mm_callV X hP hS hl.1 [.int x1, .int (1 : Int32)] [] (cx_X11_empties l D ad cA hI x1 (1 : Int32) s_11 r_12 s_12 e_12) kp_30 rfl rfl wd_1018 wd_1020 wp_53 wd_12 wd_1021 hd_X11_empties ⟨Nat.le_of_ble_eq_true rfl, Nat.le_of_ble_eq_true rfl⟩ rfl (Nat.le_of_ble_eq_true rfl) dX11_comesBack_71 (fun H locs hP hS => ?_)
  obtain ⟨rfl, rfl⟩ := mm_ret hf
  exact mm_vret X hP hS dX11_comesBack_74
def fx_X11_comesBack_J37 (x1 : Int32)  (v2 : Int32) (σ : mm_M) : mm_R := if v2 = (64 : Int32) then fx_X11_comesBack_J51 x1 x1 (1 : Int32) (-1 : Int32) σ else fx_X11_comesBack_J51 x1 x1 (1 : Int32) v2 σ
set_option maxHeartbeats 4000000 in
set_option maxRecDepth 100000 in
theorem cx_X11_comesBack_J37 {p : Program} {l : Launch} {e : Env} {s : State} {m : MethodId} {args : Array Value} {below : List Frame} {meth : Method} {c : Code} {D : va_G} {ad : mm_A} {cA : Nat → ClassId} (x1 : Int32)  (rv : Int32) (σ1 : mm_M)  (X : mm_X p s m args meth c cX11_comesBack 3 none RX11 D ad cA) : ∀ (v2 : Int32) (σ : mm_M) (H : Heap) (locs : List Loc) (ls : Array Slot), fx_X11_comesBack_J37 x1 v2 σ = some (rv, σ1) → va_P D vwCl (mm_wd ad cA σ) H → va_S (mm_AS ad) s.heap H locs → lv_has ls 3 [(0, .ref (ad 10 30 0)), (1, .int x1), (2, .int v2)] → W p l e (mm_rm 3 67) s m args below meth c H locs 0 0 (MQ below (mm_Q D ad cA none σ1) args s 0 0 (mm_AS ad)) (F0 m 37 ls []) := by
  have hx := X.1
  have hb := X.2.1
  have hI := X.2.2.2.2.2.2.2.2.2
  intro v2 σ H locs ls hf hP hS hl
  rw [fx_X11_comesBack_J37] at hf
  refine lv_aload_n hx hb dX11_comesBack_37 rfl (lv_at hl 0 rfl) ?_
  refine lv_iload_n hx hb dX11_comesBack_38 rfl (lv_at hl 1 rfl) ?_
  refine lv_iconst (v := (1 : Int32)) hx hb dX11_comesBack_39 (by decide) ?_
  refine lv_iload_n hx hb dX11_comesBack_40 rfl (lv_at hl 2 rfl) ?_
  refine lv_bipush (v := (64 : Int32)) hx hb dX11_comesBack_41 (by decide) ?_
  refine lv_icmp_ne (tgt := 50) hx hb dX11_comesBack_43 (by decide) (fun c_4 => ?_) (fun c_4 => ?_)
  · replace hf := mm_if c_4 hf
    refine lv_iload_n hx hb dX11_comesBack_50 rfl (lv_at hl 2 rfl) ?_
    exact cx_X11_comesBack_J51 x1 rv σ1 X x1 (1 : Int32) v2 σ H locs ls hf hP hS (lv_sub hl [0, 1] rfl)
  · replace hf := mm_it c_4 hf
    refine lv_iconst (v := (-1 : Int32)) hx hb dX11_comesBack_46 (by decide) ?_
    refine lv_goto (tgt := 51) hx hb dX11_comesBack_47 (by decide) ?_
    exact cx_X11_comesBack_J51 x1 rv σ1 X x1 (1 : Int32) (-1 : Int32) σ H locs ls hf hP hS (lv_sub hl [0, 1] rfl)
def fx_X11_comesBack_L17 (x1 : Int32)  : Nat → Int32 → mm_M → mm_R
  | 0, _, _ => none
  | fu + 1, v2, σ => if (64 : Int32) ≤ v2 then fx_X11_comesBack_J37 x1 v2 σ else mm_bd (fx_X11_isGood v2 σ) fun r_6 s_6 => (if r_6 = (0 : Int32) then mm_li (v2 + (1 : Int32)) fun y_8 => (fx_X11_comesBack_L17 x1 fu y_8 s_6) else fx_X11_comesBack_J37 x1 v2 s_6)
set_option maxHeartbeats 4000000 in
set_option maxRecDepth 100000 in
theorem cx_X11_comesBack_L17 {p : Program} {l : Launch} {e : Env} {s : State} {m : MethodId} {args : Array Value} {below : List Frame} {meth : Method} {c : Code} {D : va_G} {ad : mm_A} {cA : Nat → ClassId} (x1 : Int32)  (rv : Int32) (σ1 : mm_M)  (X : mm_X p s m args meth c cX11_comesBack 3 none RX11 D ad cA) : ∀ (fu : Nat), ∀ (v2 : Int32) (σ : mm_M) (H : Heap) (locs : List Loc) (ls : Array Slot), fx_X11_comesBack_L17 x1 fu v2 σ = some (rv, σ1) → va_P D vwCl (mm_wd ad cA σ) H → va_S (mm_AS ad) s.heap H locs → lv_has ls 3 [(0, .ref (ad 10 30 0)), (1, .int x1), (2, .int v2)] → W p l e (mm_rm 3 67) s m args below meth c H locs 0 0 (MQ below (mm_Q D ad cA none σ1) args s 0 0 (mm_AS ad)) (F0 m 17 ls []) := by
  have hx := X.1
  have hb := X.2.1
  have hI := X.2.2.2.2.2.2.2.2.2
  intro fu
  induction fu with
  | zero =>
    intro v2 σ H locs ls hf
    exact mm_no hf
  | succ fu ih =>
    intro v2 σ H locs ls hf hP hS hl
    rw [fx_X11_comesBack_L17] at hf
    refine lv_iload_n hx hb dX11_comesBack_17 rfl (lv_at hl 2 rfl) ?_
    refine lv_bipush (v := (64 : Int32)) hx hb dX11_comesBack_18 (by decide) ?_
    refine lv_icmp_ge (tgt := 37) hx hb dX11_comesBack_20 (by decide) (fun c_5 => ?_) (fun c_5 => ?_)
    · replace hf := mm_it c_5 hf
      exact cx_X11_comesBack_J37 x1 rv σ1 X v2 σ H locs ls hf hP hS (lv_sub hl [0, 1, 2] rfl)
    · replace hf := mm_if c_5 hf
      refine lv_aload_n hx hb dX11_comesBack_23 rfl (lv_at hl 0 rfl) ?_
      refine lv_iload_n hx hb dX11_comesBack_24 rfl (lv_at hl 2 rfl) ?_
      obtain ⟨r_6, s_6, e_6, hf⟩ := mm_bd_ok hf
      refine mm_callV X hP hS hl.1 [.int v2] [] (cx_X11_isGood l D ad cA hI v2 σ r_6 s_6 e_6) kp_30 rfl rfl wd_886 wd_888 wp_24 wd_12 wd_889 hd_X11_isGood ⟨Nat.le_of_ble_eq_true rfl, Nat.le_of_ble_eq_true rfl⟩ rfl (Nat.le_of_ble_eq_true rfl) dX11_comesBack_25 (fun H locs hP hS => ?_)
      refine lv_if_ne (tgt := 37) hx hb dX11_comesBack_28 (by decide) (fun c_7 => ?_) (fun c_7 => ?_)
      · replace hf := mm_if c_7 hf
        exact cx_X11_comesBack_J37 x1 rv σ1 X v2 s_6 H locs ls hf hP hS (lv_sub hl [0, 1, 2] rfl)
      · replace hf := mm_it c_7 hf
        obtain ⟨y_8, e_8, hf⟩ := mm_li_ok hf
        refine lv_iinc (v := y_8) (lv' := [(2, .int y_8), (0, .ref (ad 10 30 0)), (1, .int x1)]) hx hb dX11_comesBack_31 hl (k := 2) rfl (by rw [e_8]; rfl) (by decide) rfl (fun ls hl => ?_)
        refine lv_goto (tgt := 17) hx hb dX11_comesBack_34 (by decide) ?_
        exact ih y_8 s_6 H locs ls  hf hP hS (lv_sub hl [1, 2, 0] rfl)
def fx_X11_comesBack (x1 : Int32) (σ : mm_M) : mm_R := mm_bd (fx_X11_of x1 (0 : Int32) σ) fun r_1 s_1 => (mm_bd (fx_X11_isGood r_1 s_1) fun r_2 s_2 => (if r_2 = (0 : Int32) then fx_X11_comesBack_L17 x1 mm_FU (0 : Int32) s_2 else fx_X11_comesBack_J37 x1 r_1 s_2))
set_option maxHeartbeats 4000000 in
set_option maxRecDepth 100000 in
theorem cx_X11_comesBack (l : Launch) (D : va_G) (ad : mm_A) (cA : Nat → ClassId) (hI : mm_Inj ad) (x1 : Int32)  (σ : mm_M) (rv : Int32) (σ1 : mm_M) (hf : fx_X11_comesBack x1 σ = some (rv, σ1)) : Met l yX11_comesBack (Cond.code yX11_comesBack cX11_comesBack 3 none :: tb) (mm_rm 3 67) (mm_pre D ad cA [.ref (ad 10 30 0), .int x1] σ) (mm_Q D ad cA none σ1) 0 0 (mm_AS ad) := by
  refine mm_start (by decide +kernel) hI (Nat.le_of_ble_eq_true rfl) ?_
  intro p e s m args below meth c X hP ls hl
  have hl : lv_has ls 3 [(0, .ref (ad 10 30 0)), (1, .int x1)] := hl
  have hx := X.1
  have hb := X.2.1
  have hS : va_S (mm_AS ad) s.heap s.heap [] := va_S.rf
  have hgen : ∀ (H : Heap) (locs : List Loc), va_P D vwCl (mm_wd ad cA σ) H → va_S (mm_AS ad) s.heap H locs → W p l e (mm_rm 3 67) s m args below meth c H locs 0 0 (MQ below (mm_Q D ad cA none σ1) args s 0 0 (mm_AS ad)) (F0 m 0 ls []) := by
    intro H locs hP hS
    rw [fx_X11_comesBack] at hf
    refine lv_aload_n hx hb dX11_comesBack_0 rfl (lv_at hl 0 rfl) ?_
    refine lv_iload_n hx hb dX11_comesBack_1 rfl (lv_at hl 1 rfl) ?_
    refine lv_iconst (v := (0 : Int32)) hx hb dX11_comesBack_2 (by decide) ?_
    obtain ⟨r_1, s_1, e_1, hf⟩ := mm_bd_ok hf
    refine mm_callV X hP hS hl.1 [.int x1, .int (0 : Int32)] [] (cx_X11_of l D ad cA hI x1 (0 : Int32) σ r_1 s_1 e_1) kp_30 rfl rfl wd_850 wd_852 wp_19 wd_12 wd_853 hd_X11_of ⟨Nat.le_of_ble_eq_true rfl, Nat.le_of_ble_eq_true rfl⟩ rfl (Nat.le_of_ble_eq_true rfl) dX11_comesBack_3 (fun H locs hP hS => ?_)
    refine lv_istore_n (lv' := [(2, .int r_1), (0, .ref (ad 10 30 0)), (1, .int x1)]) hx hb dX11_comesBack_6 rfl hl (by decide) rfl (fun ls hl => ?_)
    refine lv_aload_n hx hb dX11_comesBack_7 rfl (lv_at hl 1 rfl) ?_
    refine lv_iload_n hx hb dX11_comesBack_8 rfl (lv_at hl 0 rfl) ?_
    obtain ⟨r_2, s_2, e_2, hf⟩ := mm_bd_ok hf
    refine mm_callV X hP hS hl.1 [.int r_1] [] (cx_X11_isGood l D ad cA hI r_1 s_1 r_2 s_2 e_2) kp_30 rfl rfl wd_886 wd_888 wp_24 wd_12 wd_889 hd_X11_isGood ⟨Nat.le_of_ble_eq_true rfl, Nat.le_of_ble_eq_true rfl⟩ rfl (Nat.le_of_ble_eq_true rfl) dX11_comesBack_9 (fun H locs hP hS => ?_)
    refine lv_if_ne (tgt := 37) hx hb dX11_comesBack_12 (by decide) (fun c_3 => ?_) (fun c_3 => ?_)
    · replace hf := mm_if c_3 hf
      exact cx_X11_comesBack_J37 x1 rv σ1 X r_1 s_2 H locs ls hf hP hS (lv_sub hl [1, 2, 0] rfl)
    · replace hf := mm_it c_3 hf
      refine lv_iconst (v := (0 : Int32)) hx hb dX11_comesBack_15 (by decide) ?_
      refine lv_istore_n (lv' := [(2, .int (0 : Int32)), (0, .ref (ad 10 30 0)), (1, .int x1)]) hx hb dX11_comesBack_16 rfl hl (by decide) rfl (fun ls hl => ?_)
      exact cx_X11_comesBack_L17 x1 rv σ1 X mm_FU (0 : Int32) s_2 H locs ls hf hP hS (lv_sub hl [1, 2, 0] rfl)
  exact hgen _ _ hP hS
def fx_X11_ends_J72  (k2 : Int32 → mm_M → mm_R) (v1 : Int32) (w1 : Int32) (w2 : Int32) (w3 : Int32) (w4 : Int32) (σ : mm_M) : mm_R := mm_bd (fx_X11_lays w1 w2 (w3 - w4) σ) fun _ s_19 => (mm_bd (fx_X11_empties v1 (0 : Int32) s_19) fun _ s_20 => (mm_li (v1 + (1 : Int32)) fun y_21 => (k2 y_21 s_20)))
set_option maxHeartbeats 4000000 in
set_option maxRecDepth 100000 in
theorem cx_X11_ends_J72 {p : Program} {l : Launch} {e : Env} {s : State} {m : MethodId} {args : Array Value} {below : List Frame} {meth : Method} {c : Code} {D : va_G} {ad : mm_A} {cA : Nat → ClassId}   (rv : Int32) (σ1 : mm_M) (k2 : Int32 → mm_M → mm_R) (hk2 : ∀ (v1 : Int32) (σ : mm_M) (H : Heap) (locs : List Loc) (ls : Array Slot), k2 v1 σ = some (rv, σ1) → va_P D vwCl (mm_wd ad cA σ) H → va_S (mm_AS ad) s.heap H locs → lv_has ls 3 [(0, .ref (ad 10 30 0)), (1, .int v1)] → W p l e (mm_rm 4 89) s m args below meth c H locs 0 0 (MQ below (mm_Q D ad cA none σ1) args s 0 0 (mm_AS ad)) (F0 m 2 ls [])) (X : mm_X p s m args meth c cX11_ends 3 none RX11 D ad cA) : ∀ (v1 : Int32) (w1 : Int32) (w2 : Int32) (w3 : Int32) (w4 : Int32) (σ : mm_M) (H : Heap) (locs : List Loc) (ls : Array Slot), fx_X11_ends_J72 k2 v1 w1 w2 w3 w4 σ = some (rv, σ1) → va_P D vwCl (mm_wd ad cA σ) H → va_S (mm_AS ad) s.heap H locs → lv_has ls 3 [(0, .ref (ad 10 30 0)), (1, .int v1)] → W p l e (mm_rm 4 89) s m args below meth c H locs 0 0 (MQ below (mm_Q D ad cA none σ1) args s 0 0 (mm_AS ad)) (F0 m 72 ls [.int w4, .int w3, .int w2, .int w1, .ref (ad 10 30 0)]) := by
  have hx := X.1
  have hb := X.2.1
  have hI := X.2.2.2.2.2.2.2.2.2
  intro v1 w1 w2 w3 w4 σ H locs ls hf hP hS hl
  rw [fx_X11_ends_J72] at hf
  refine lv_isub hx hb dX11_ends_72 ?_
  obtain ⟨r_19, s_19, e_19, hf⟩ := mm_bd_ok hf
  refine mm_callV X hP hS hl.1 [.int w1, .int w2, .int (w3 - w4)] [] (cx_X11_lays l D ad cA hI w1 w2 (w3 - w4) σ r_19 s_19 e_19) kp_30 rfl rfl wd_891 wd_893 wp_25 wd_12 wd_894 hd_X11_lays ⟨Nat.le_of_ble_eq_true rfl, Nat.le_of_ble_eq_true rfl⟩ rfl (Nat.le_of_ble_eq_true rfl) dX11_ends_73 (fun H locs hP hS => ?_)
  refine lv_aload_n hx hb dX11_ends_76 rfl (lv_at hl 0 rfl) ?_
  refine lv_iload_n hx hb dX11_ends_77 rfl (lv_at hl 1 rfl) ?_
  refine lv_iconst (v := (0 : Int32)) hx hb dX11_ends_78 (by decide) ?_
  obtain ⟨r_20, s_20, e_20, hf⟩ := mm_bd_ok hf
  refine mm_callV X hP hS hl.1 [.int v1, .int (0 : Int32)] [] (cx_X11_empties l D ad cA hI v1 (0 : Int32) s_19 r_20 s_20 e_20) kp_30 rfl rfl wd_1018 wd_1020 wp_53 wd_12 wd_1021 hd_X11_empties ⟨Nat.le_of_ble_eq_true rfl, Nat.le_of_ble_eq_true rfl⟩ rfl (Nat.le_of_ble_eq_true rfl) dX11_ends_79 (fun H locs hP hS => ?_)
  obtain ⟨y_21, e_21, hf⟩ := mm_li_ok hf
  refine lv_iinc (v := y_21) (lv' := [(1, .int y_21), (0, .ref (ad 10 30 0))]) hx hb dX11_ends_82 hl (k := 1) rfl (by rw [e_21]; rfl) (by decide) rfl (fun ls hl => ?_)
  refine lv_goto (tgt := 2) hx hb dX11_ends_85 (by decide) ?_
  exact hk2 y_21 s_20 H locs ls  hf hP hS (lv_sub hl [1, 0] rfl)
def fx_X11_ends_J53  (k2 : Int32 → mm_M → mm_R) (v1 : Int32) (w0 : Int32) (σ : mm_M) : mm_R := mm_bd (fx_X11_of v1 (3 : Int32) σ) fun r_17 s_17 => (if w0 = (0 : Int32) then fx_X11_ends_J72 k2 v1 v1 (3 : Int32) r_17 (0 : Int32) s_17 else fx_X11_ends_J72 k2 v1 v1 (3 : Int32) r_17 (1 : Int32) s_17)
set_option maxHeartbeats 4000000 in
set_option maxRecDepth 100000 in
theorem cx_X11_ends_J53 {p : Program} {l : Launch} {e : Env} {s : State} {m : MethodId} {args : Array Value} {below : List Frame} {meth : Method} {c : Code} {D : va_G} {ad : mm_A} {cA : Nat → ClassId}   (rv : Int32) (σ1 : mm_M) (k2 : Int32 → mm_M → mm_R) (hk2 : ∀ (v1 : Int32) (σ : mm_M) (H : Heap) (locs : List Loc) (ls : Array Slot), k2 v1 σ = some (rv, σ1) → va_P D vwCl (mm_wd ad cA σ) H → va_S (mm_AS ad) s.heap H locs → lv_has ls 3 [(0, .ref (ad 10 30 0)), (1, .int v1)] → W p l e (mm_rm 4 89) s m args below meth c H locs 0 0 (MQ below (mm_Q D ad cA none σ1) args s 0 0 (mm_AS ad)) (F0 m 2 ls [])) (X : mm_X p s m args meth c cX11_ends 3 none RX11 D ad cA) : ∀ (v1 : Int32) (w0 : Int32) (σ : mm_M) (H : Heap) (locs : List Loc) (ls : Array Slot), fx_X11_ends_J53 k2 v1 w0 σ = some (rv, σ1) → va_P D vwCl (mm_wd ad cA σ) H → va_S (mm_AS ad) s.heap H locs → lv_has ls 3 [(0, .ref (ad 10 30 0)), (1, .int v1)] → W p l e (mm_rm 4 89) s m args below meth c H locs 0 0 (MQ below (mm_Q D ad cA none σ1) args s 0 0 (mm_AS ad)) (F0 m 53 ls [.int w0]) := by
  have hx := X.1
  have hb := X.2.1
  have hI := X.2.2.2.2.2.2.2.2.2
  intro v1 w0 σ H locs ls hf hP hS hl
  rw [fx_X11_ends_J53] at hf
  refine lv_istore_n (lv' := [(2, .int w0), (0, .ref (ad 10 30 0)), (1, .int v1)]) hx hb dX11_ends_53 rfl hl (by decide) rfl (fun ls hl => ?_)
  refine lv_aload_n hx hb dX11_ends_54 rfl (lv_at hl 1 rfl) ?_
  refine lv_iload_n hx hb dX11_ends_55 rfl (lv_at hl 2 rfl) ?_
  refine lv_iconst (v := (3 : Int32)) hx hb dX11_ends_56 (by decide) ?_
  refine lv_aload_n hx hb dX11_ends_57 rfl (lv_at hl 1 rfl) ?_
  refine lv_iload_n hx hb dX11_ends_58 rfl (lv_at hl 2 rfl) ?_
  refine lv_iconst (v := (3 : Int32)) hx hb dX11_ends_59 (by decide) ?_
  obtain ⟨r_17, s_17, e_17, hf⟩ := mm_bd_ok hf
  refine mm_callV X hP hS hl.1 [.int v1, .int (3 : Int32)] [.int (3 : Int32), .int v1, .ref (ad 10 30 0)] (cx_X11_of l D ad cA hI v1 (3 : Int32) σ r_17 s_17 e_17) kp_30 rfl rfl wd_850 wd_852 wp_19 wd_12 wd_853 hd_X11_of ⟨Nat.le_of_ble_eq_true rfl, Nat.le_of_ble_eq_true rfl⟩ rfl (Nat.le_of_ble_eq_true rfl) dX11_ends_60 (fun H locs hP hS => ?_)
  refine lv_iload_n hx hb dX11_ends_63 rfl (lv_at hl 0 rfl) ?_
  refine lv_if_eq (tgt := 71) hx hb dX11_ends_64 (by decide) (fun c_18 => ?_) (fun c_18 => ?_)
  · replace hf := mm_it c_18 hf
    refine lv_iconst (v := (0 : Int32)) hx hb dX11_ends_71 (by decide) ?_
    exact cx_X11_ends_J72 rv σ1 k2 hk2 X v1 v1 (3 : Int32) r_17 (0 : Int32) s_17 H locs ls hf hP hS (lv_sub hl [1, 2] rfl)
  · replace hf := mm_if c_18 hf
    refine lv_iconst (v := (1 : Int32)) hx hb dX11_ends_67 (by decide) ?_
    refine lv_goto (tgt := 72) hx hb dX11_ends_68 (by decide) ?_
    exact cx_X11_ends_J72 rv σ1 k2 hk2 X v1 v1 (3 : Int32) r_17 (1 : Int32) s_17 H locs ls hf hP hS (lv_sub hl [1, 2] rfl)
def fx_X11_ends_J52  (k2 : Int32 → mm_M → mm_R) (v1 : Int32) (σ : mm_M) : mm_R := fx_X11_ends_J53 k2 v1 (0 : Int32) σ
set_option maxHeartbeats 4000000 in
set_option maxRecDepth 100000 in
theorem cx_X11_ends_J52 {p : Program} {l : Launch} {e : Env} {s : State} {m : MethodId} {args : Array Value} {below : List Frame} {meth : Method} {c : Code} {D : va_G} {ad : mm_A} {cA : Nat → ClassId}   (rv : Int32) (σ1 : mm_M) (k2 : Int32 → mm_M → mm_R) (hk2 : ∀ (v1 : Int32) (σ : mm_M) (H : Heap) (locs : List Loc) (ls : Array Slot), k2 v1 σ = some (rv, σ1) → va_P D vwCl (mm_wd ad cA σ) H → va_S (mm_AS ad) s.heap H locs → lv_has ls 3 [(0, .ref (ad 10 30 0)), (1, .int v1)] → W p l e (mm_rm 4 89) s m args below meth c H locs 0 0 (MQ below (mm_Q D ad cA none σ1) args s 0 0 (mm_AS ad)) (F0 m 2 ls [])) (X : mm_X p s m args meth c cX11_ends 3 none RX11 D ad cA) : ∀ (v1 : Int32) (σ : mm_M) (H : Heap) (locs : List Loc) (ls : Array Slot), fx_X11_ends_J52 k2 v1 σ = some (rv, σ1) → va_P D vwCl (mm_wd ad cA σ) H → va_S (mm_AS ad) s.heap H locs → lv_has ls 3 [(0, .ref (ad 10 30 0)), (1, .int v1)] → W p l e (mm_rm 4 89) s m args below meth c H locs 0 0 (MQ below (mm_Q D ad cA none σ1) args s 0 0 (mm_AS ad)) (F0 m 52 ls []) := by
  have hx := X.1
  have hb := X.2.1
  have hI := X.2.2.2.2.2.2.2.2.2
  intro v1 σ H locs ls hf hP hS hl
  rw [fx_X11_ends_J52] at hf
  refine lv_iconst (v := (0 : Int32)) hx hb dX11_ends_52 (by decide) ?_
  exact cx_X11_ends_J53 rv σ1 k2 hk2 X v1 (0 : Int32) σ H locs ls hf hP hS (lv_sub hl [0, 1] rfl)
def fx_X11_ends_L90   : Nat → Int32 → mm_M → mm_R
  | 0, _, _ => none
  | fu + 1, v1, σ => if (σ 10 31 0 (0 : Int32).toNatClampNeg) ≤ v1 then mm_lt (mm_u σ 10 31 0 (1 : Int32).toNatClampNeg (0 : Int32)) fun s_10 => (mm_lt (mm_u s_10 10 31 0 (2 : Int32).toNatClampNeg ((s_10 10 31 0 (2 : Int32).toNatClampNeg) + (1 : Int32))) fun s_11 => (some (0, s_11))) else mm_bd (fx_X11_isOut v1 σ) fun r_12 s_12 => (if r_12 = (0 : Int32) then mm_li (v1 + (1 : Int32)) fun y_14 => (fx_X11_ends_L90 fu y_14 s_12) else mm_bd (fx_X11_comesBack v1 s_12) fun _ s_15 => (mm_li (v1 + (1 : Int32)) fun y_16 => (fx_X11_ends_L90 fu y_16 s_15)))
set_option maxHeartbeats 4000000 in
set_option maxRecDepth 100000 in
theorem cx_X11_ends_L90 {p : Program} {l : Launch} {e : Env} {s : State} {m : MethodId} {args : Array Value} {below : List Frame} {meth : Method} {c : Code} {D : va_G} {ad : mm_A} {cA : Nat → ClassId}   (rv : Int32) (σ1 : mm_M)  (X : mm_X p s m args meth c cX11_ends 3 none RX11 D ad cA) : ∀ (fu : Nat), ∀ (v1 : Int32) (σ : mm_M) (H : Heap) (locs : List Loc) (ls : Array Slot), fx_X11_ends_L90  fu v1 σ = some (rv, σ1) → va_P D vwCl (mm_wd ad cA σ) H → va_S (mm_AS ad) s.heap H locs → lv_has ls 3 [(0, .ref (ad 10 30 0)), (1, .int v1)] → W p l e (mm_rm 4 89) s m args below meth c H locs 0 0 (MQ below (mm_Q D ad cA none σ1) args s 0 0 (mm_AS ad)) (F0 m 90 ls []) := by
  have hx := X.1
  have hb := X.2.1
  have hI := X.2.2.2.2.2.2.2.2.2
  intro fu
  induction fu with
  | zero =>
    intro v1 σ H locs ls hf
    exact mm_no hf
  | succ fu ih =>
    intro v1 σ H locs ls hf hP hS hl
    rw [fx_X11_ends_L90] at hf
    refine lv_iload_n hx hb dX11_ends_90 rfl (lv_at hl 1 rfl) ?_
    refine lv_aload_n hx hb dX11_ends_91 rfl (lv_at hl 0 rfl) ?_
    refine gf_30_0 X hP  wd_769 dX11_ends_92 ?_
    refine lv_iconst (v := (0 : Int32)) hx hb dX11_ends_95 (by decide) ?_
    refine al_31 X hP  (by decide : mm_ix (0 : Int32) 207 = true) dX11_ends_96 ?_
    refine lv_icmp_ge (tgt := 119) hx hb dX11_ends_97 (by decide) (fun c_9 => ?_) (fun c_9 => ?_)
    · replace hf := mm_it c_9 hf
      refine lv_aload_n hx hb dX11_ends_119 rfl (lv_at hl 0 rfl) ?_
      refine gf_30_0 X hP  wd_769 dX11_ends_120 ?_
      refine lv_iconst (v := (1 : Int32)) hx hb dX11_ends_123 (by decide) ?_
      refine lv_iconst (v := (0 : Int32)) hx hb dX11_ends_124 (by decide) ?_
      refine as_31 X hP hS  (by decide : mm_ix (1 : Int32) 207 = true)  dX11_ends_125 (fun H locs hP hS => ?_)
      obtain ⟨s_10, e_10, hf⟩ := mm_lt_ok hf
      rw [← e_10] at hP
      refine lv_aload_n hx hb dX11_ends_126 rfl (lv_at hl 0 rfl) ?_
      refine gf_30_0 X hP  wd_769 dX11_ends_127 ?_
      refine lv_iconst (v := (2 : Int32)) hx hb dX11_ends_130 (by decide) ?_
      refine lv_dup2_11 hx hb dX11_ends_131 rfl rfl ?_
      refine al_31 X hP  (by decide : mm_ix (2 : Int32) 207 = true) dX11_ends_132 ?_
      refine lv_iconst (v := (1 : Int32)) hx hb dX11_ends_133 (by decide) ?_
      refine lv_iadd hx hb dX11_ends_134 ?_
      refine as_31 X hP hS  (by decide : mm_ix (2 : Int32) 207 = true)  dX11_ends_135 (fun H locs hP hS => ?_)
      obtain ⟨s_11, e_11, hf⟩ := mm_lt_ok hf
      rw [← e_11] at hP
      obtain ⟨rfl, rfl⟩ := mm_ret hf
      exact mm_vret X hP hS dX11_ends_136
    · replace hf := mm_if c_9 hf
      refine lv_aload_n hx hb dX11_ends_100 rfl (lv_at hl 0 rfl) ?_
      refine lv_iload_n hx hb dX11_ends_101 rfl (lv_at hl 1 rfl) ?_
      obtain ⟨r_12, s_12, e_12, hf⟩ := mm_bd_ok hf
      refine mm_callV X hP hS hl.1 [.int v1] [] (cx_X11_isOut l D ad cA hI v1 σ r_12 s_12 e_12) kp_30 rfl rfl wd_907 wd_909 wp_28 wd_12 wd_910 hd_X11_isOut ⟨Nat.le_of_ble_eq_true rfl, Nat.le_of_ble_eq_true rfl⟩ rfl (Nat.le_of_ble_eq_true rfl) dX11_ends_102 (fun H locs hP hS => ?_)
      refine lv_if_eq (tgt := 113) hx hb dX11_ends_105 (by decide) (fun c_13 => ?_) (fun c_13 => ?_)
      · replace hf := mm_it c_13 hf
        obtain ⟨y_14, e_14, hf⟩ := mm_li_ok hf
        refine lv_iinc (v := y_14) (lv' := [(1, .int y_14), (0, .ref (ad 10 30 0))]) hx hb dX11_ends_113 hl (k := 1) rfl (by rw [e_14]; rfl) (by decide) rfl (fun ls hl => ?_)
        refine lv_goto (tgt := 90) hx hb dX11_ends_116 (by decide) ?_
        exact ih y_14 s_12 H locs ls  hf hP hS (lv_sub hl [1, 0] rfl)
      · replace hf := mm_if c_13 hf
        refine lv_aload_n hx hb dX11_ends_108 rfl (lv_at hl 0 rfl) ?_
        refine lv_iload_n hx hb dX11_ends_109 rfl (lv_at hl 1 rfl) ?_
        obtain ⟨r_15, s_15, e_15, hf⟩ := mm_bd_ok hf
        refine mm_callV X hP hS hl.1 [.int v1] [] (cx_X11_comesBack l D ad cA hI v1 s_12 r_15 s_15 e_15) kp_30 rfl rfl wd_1022 wd_1024 wp_54 wd_12 wd_1025 hd_X11_comesBack ⟨Nat.le_of_ble_eq_true rfl, Nat.le_of_ble_eq_true rfl⟩ rfl (Nat.le_of_ble_eq_true rfl) dX11_ends_110 (fun H locs hP hS => ?_)
        obtain ⟨y_16, e_16, hf⟩ := mm_li_ok hf
        refine lv_iinc (v := y_16) (lv' := [(1, .int y_16), (0, .ref (ad 10 30 0))]) hx hb dX11_ends_113 hl (k := 1) rfl (by rw [e_16]; rfl) (by decide) rfl (fun ls hl => ?_)
        refine lv_goto (tgt := 90) hx hb dX11_ends_116 (by decide) ?_
        exact ih y_16 s_15 H locs ls  hf hP hS (lv_sub hl [1, 0] rfl)
def fx_X11_ends_L2   : Nat → Int32 → mm_M → mm_R
  | 0, _, _ => none
  | fu + 1, v1, σ => if (σ 10 31 0 (0 : Int32).toNatClampNeg) ≤ v1 then fx_X11_ends_L90 mm_FU (0 : Int32) σ else mm_bd (fx_X11_isOut v1 σ) fun r_2 s_2 => (if r_2 = (0 : Int32) then mm_bd (fx_X11_of v1 (1 : Int32) s_2) fun r_4 s_4 => (mm_gd (mm_ix ((11 : Int32) + r_4) 207 = true) (if (s_4 10 31 0 ((11 : Int32) + r_4).toNatClampNeg) = (8 : Int32) then mm_bd (fx_X11_of v1 (3 : Int32) s_4) fun r_7 s_7 => (if r_7 ≤ (0 : Int32) then fx_X11_ends_J52 (fun z0 z => fx_X11_ends_L2 fu z0 z) v1 s_7 else fx_X11_ends_J53 (fun z0 z => fx_X11_ends_L2 fu z0 z) v1 (1 : Int32) s_7) else fx_X11_ends_J52 (fun z0 z => fx_X11_ends_L2 fu z0 z) v1 s_4)) else fx_X11_ends_J52 (fun z0 z => fx_X11_ends_L2 fu z0 z) v1 s_2)
set_option maxHeartbeats 4000000 in
set_option maxRecDepth 100000 in
theorem cx_X11_ends_L2 {p : Program} {l : Launch} {e : Env} {s : State} {m : MethodId} {args : Array Value} {below : List Frame} {meth : Method} {c : Code} {D : va_G} {ad : mm_A} {cA : Nat → ClassId}   (rv : Int32) (σ1 : mm_M)  (X : mm_X p s m args meth c cX11_ends 3 none RX11 D ad cA) : ∀ (fu : Nat), ∀ (v1 : Int32) (σ : mm_M) (H : Heap) (locs : List Loc) (ls : Array Slot), fx_X11_ends_L2  fu v1 σ = some (rv, σ1) → va_P D vwCl (mm_wd ad cA σ) H → va_S (mm_AS ad) s.heap H locs → lv_has ls 3 [(0, .ref (ad 10 30 0)), (1, .int v1)] → W p l e (mm_rm 4 89) s m args below meth c H locs 0 0 (MQ below (mm_Q D ad cA none σ1) args s 0 0 (mm_AS ad)) (F0 m 2 ls []) := by
  have hx := X.1
  have hb := X.2.1
  have hI := X.2.2.2.2.2.2.2.2.2
  intro fu
  induction fu with
  | zero =>
    intro v1 σ H locs ls hf
    exact mm_no hf
  | succ fu ih =>
    intro v1 σ H locs ls hf hP hS hl
    rw [fx_X11_ends_L2] at hf
    refine lv_iload_n hx hb dX11_ends_2 rfl (lv_at hl 1 rfl) ?_
    refine lv_aload_n hx hb dX11_ends_3 rfl (lv_at hl 0 rfl) ?_
    refine gf_30_0 X hP  wd_769 dX11_ends_4 ?_
    refine lv_iconst (v := (0 : Int32)) hx hb dX11_ends_7 (by decide) ?_
    refine al_31 X hP  (by decide : mm_ix (0 : Int32) 207 = true) dX11_ends_8 ?_
    refine lv_icmp_ge (tgt := 88) hx hb dX11_ends_9 (by decide) (fun c_1 => ?_) (fun c_1 => ?_)
    · replace hf := mm_it c_1 hf
      refine lv_iconst (v := (0 : Int32)) hx hb dX11_ends_88 (by decide) ?_
      refine lv_istore_n (lv' := [(1, .int (0 : Int32)), (0, .ref (ad 10 30 0))]) hx hb dX11_ends_89 rfl hl (by decide) rfl (fun ls hl => ?_)
      exact cx_X11_ends_L90 rv σ1 X mm_FU (0 : Int32) σ H locs ls hf hP hS (lv_sub hl [1, 0] rfl)
    · replace hf := mm_if c_1 hf
      refine lv_aload_n hx hb dX11_ends_12 rfl (lv_at hl 0 rfl) ?_
      refine lv_iload_n hx hb dX11_ends_13 rfl (lv_at hl 1 rfl) ?_
      obtain ⟨r_2, s_2, e_2, hf⟩ := mm_bd_ok hf
      refine mm_callV X hP hS hl.1 [.int v1] [] (cx_X11_isOut l D ad cA hI v1 σ r_2 s_2 e_2) kp_30 rfl rfl wd_907 wd_909 wp_28 wd_12 wd_910 hd_X11_isOut ⟨Nat.le_of_ble_eq_true rfl, Nat.le_of_ble_eq_true rfl⟩ rfl (Nat.le_of_ble_eq_true rfl) dX11_ends_14 (fun H locs hP hS => ?_)
      refine lv_if_ne (tgt := 52) hx hb dX11_ends_17 (by decide) (fun c_3 => ?_) (fun c_3 => ?_)
      · replace hf := mm_if c_3 hf
        exact cx_X11_ends_J52 rv σ1 (fun z0 z => fx_X11_ends_L2 fu z0 z) ih X v1 s_2 H locs ls hf hP hS (lv_sub hl [0, 1] rfl)
      · replace hf := mm_it c_3 hf
        refine lv_aload_n hx hb dX11_ends_20 rfl (lv_at hl 0 rfl) ?_
        refine gf_30_0 X hP  wd_769 dX11_ends_21 ?_
        refine lv_bipush (v := (11 : Int32)) hx hb dX11_ends_24 (by decide) ?_
        refine lv_aload_n hx hb dX11_ends_26 rfl (lv_at hl 0 rfl) ?_
        refine lv_iload_n hx hb dX11_ends_27 rfl (lv_at hl 1 rfl) ?_
        refine lv_iconst (v := (1 : Int32)) hx hb dX11_ends_28 (by decide) ?_
        obtain ⟨r_4, s_4, e_4, hf⟩ := mm_bd_ok hf
        refine mm_callV X hP hS hl.1 [.int v1, .int (1 : Int32)] [.int (11 : Int32), .ref (ad 10 31 0)] (cx_X11_of l D ad cA hI v1 (1 : Int32) s_2 r_4 s_4 e_4) kp_30 rfl rfl wd_850 wd_852 wp_19 wd_12 wd_853 hd_X11_of ⟨Nat.le_of_ble_eq_true rfl, Nat.le_of_ble_eq_true rfl⟩ rfl (Nat.le_of_ble_eq_true rfl) dX11_ends_29 (fun H locs hP hS => ?_)
        refine lv_iadd hx hb dX11_ends_32 ?_
        obtain ⟨h_5, hf⟩ := mm_gd_ok hf
        refine al_31 X hP  h_5 dX11_ends_33 ?_
        refine lv_bipush (v := (8 : Int32)) hx hb dX11_ends_34 (by decide) ?_
        refine lv_icmp_ne (tgt := 52) hx hb dX11_ends_36 (by decide) (fun c_6 => ?_) (fun c_6 => ?_)
        · replace hf := mm_if c_6 hf
          exact cx_X11_ends_J52 rv σ1 (fun z0 z => fx_X11_ends_L2 fu z0 z) ih X v1 s_4 H locs ls hf hP hS (lv_sub hl [0, 1] rfl)
        · replace hf := mm_it c_6 hf
          refine lv_aload_n hx hb dX11_ends_39 rfl (lv_at hl 0 rfl) ?_
          refine lv_iload_n hx hb dX11_ends_40 rfl (lv_at hl 1 rfl) ?_
          refine lv_iconst (v := (3 : Int32)) hx hb dX11_ends_41 (by decide) ?_
          obtain ⟨r_7, s_7, e_7, hf⟩ := mm_bd_ok hf
          refine mm_callV X hP hS hl.1 [.int v1, .int (3 : Int32)] [] (cx_X11_of l D ad cA hI v1 (3 : Int32) s_4 r_7 s_7 e_7) kp_30 rfl rfl wd_850 wd_852 wp_19 wd_12 wd_853 hd_X11_of ⟨Nat.le_of_ble_eq_true rfl, Nat.le_of_ble_eq_true rfl⟩ rfl (Nat.le_of_ble_eq_true rfl) dX11_ends_42 (fun H locs hP hS => ?_)
          refine lv_if_le (tgt := 52) hx hb dX11_ends_45 (by decide) (fun c_8 => ?_) (fun c_8 => ?_)
          · replace hf := mm_it c_8 hf
            exact cx_X11_ends_J52 rv σ1 (fun z0 z => fx_X11_ends_L2 fu z0 z) ih X v1 s_7 H locs ls hf hP hS (lv_sub hl [0, 1] rfl)
          · replace hf := mm_if c_8 hf
            refine lv_iconst (v := (1 : Int32)) hx hb dX11_ends_48 (by decide) ?_
            refine lv_goto (tgt := 53) hx hb dX11_ends_49 (by decide) ?_
            exact cx_X11_ends_J53 rv σ1 (fun z0 z => fx_X11_ends_L2 fu z0 z) ih X v1 (1 : Int32) s_7 H locs ls hf hP hS (lv_sub hl [0, 1] rfl)
def fx_X11_ends  (σ : mm_M) : mm_R := fx_X11_ends_L2 mm_FU (0 : Int32) σ
set_option maxHeartbeats 4000000 in
set_option maxRecDepth 100000 in
theorem cx_X11_ends (l : Launch) (D : va_G) (ad : mm_A) (cA : Nat → ClassId) (hI : mm_Inj ad)   (σ : mm_M) (rv : Int32) (σ1 : mm_M) (hf : fx_X11_ends  σ = some (rv, σ1)) : Met l yX11_ends (Cond.code yX11_ends cX11_ends 3 none :: tb) (mm_rm 4 89) (mm_pre D ad cA [.ref (ad 10 30 0)] σ) (mm_Q D ad cA none σ1) 0 0 (mm_AS ad) := by
  refine mm_start (by decide +kernel) hI (Nat.le_of_ble_eq_true rfl) ?_
  intro p e s m args below meth c X hP ls hl
  have hl : lv_has ls 3 [(0, .ref (ad 10 30 0))] := hl
  have hx := X.1
  have hb := X.2.1
  have hS : va_S (mm_AS ad) s.heap s.heap [] := va_S.rf
  have hgen : ∀ (H : Heap) (locs : List Loc), va_P D vwCl (mm_wd ad cA σ) H → va_S (mm_AS ad) s.heap H locs → W p l e (mm_rm 4 89) s m args below meth c H locs 0 0 (MQ below (mm_Q D ad cA none σ1) args s 0 0 (mm_AS ad)) (F0 m 0 ls []) := by
    intro H locs hP hS
    rw [fx_X11_ends] at hf
    refine lv_iconst (v := (0 : Int32)) hx hb dX11_ends_0 (by decide) ?_
    refine lv_istore_n (lv' := [(1, .int (0 : Int32)), (0, .ref (ad 10 30 0))]) hx hb dX11_ends_1 rfl hl (by decide) rfl (fun ls hl => ?_)
    exact cx_X11_ends_L2 rv σ1 X mm_FU (0 : Int32) σ H locs ls hf hP hS (lv_sub hl [1, 0] rfl)
  exact hgen _ _ hP hS
def fx_X11_steps1_J133 (x1 : Int32) (x2 : Int32) (k79 : Int32 → mm_M → mm_R) (v6 : Int32) (w1 : Int32) (w2 : Int32) (w3 : Int32) (σ : mm_M) : mm_R := mm_gd (mm_ix w1 207 = true) (mm_lt (mm_u σ 10 31 0 w1.toNatClampNeg (w2 + w3)) fun s_21 => (mm_li (v6 + (-1 : Int32)) fun y_22 => (k79 y_22 s_21)))
set_option maxHeartbeats 4000000 in
set_option maxRecDepth 100000 in
theorem cx_X11_steps1_J133 {p : Program} {l : Launch} {e : Env} {s : State} {m : MethodId} {args : Array Value} {below : List Frame} {meth : Method} {c : Code} {D : va_G} {ad : mm_A} {cA : Nat → ClassId} (x1 : Int32) (x2 : Int32)  (rv : Int32) (σ1 : mm_M) (k79 : Int32 → mm_M → mm_R) (hk79 : ∀ (v6 : Int32) (σ : mm_M) (H : Heap) (locs : List Loc) (ls : Array Slot), k79 v6 σ = some (rv, σ1) → va_P D vwCl (mm_wd ad cA σ) H → va_S (mm_AS ad) s.heap H locs → lv_has ls 8 [(0, .ref (ad 10 30 0)), (2, .int x2), (6, .int v6)] → W p l e (mm_rm 3 66) s m args below meth c H locs 0 0 (MQ below (mm_Q D ad cA (some (.int rv)) σ1) args s 0 0 (mm_AS ad)) (F0 m 79 ls [])) (X : mm_X p s m args meth c cX11_steps1 8 (some .boolean) RX11 D ad cA) : ∀ (v6 : Int32) (w1 : Int32) (w2 : Int32) (w3 : Int32) (σ : mm_M) (H : Heap) (locs : List Loc) (ls : Array Slot), fx_X11_steps1_J133 x1 x2 k79 v6 w1 w2 w3 σ = some (rv, σ1) → va_P D vwCl (mm_wd ad cA σ) H → va_S (mm_AS ad) s.heap H locs → lv_has ls 8 [(0, .ref (ad 10 30 0)), (2, .int x2), (6, .int v6)] → W p l e (mm_rm 3 66) s m args below meth c H locs 0 0 (MQ below (mm_Q D ad cA (some (.int rv)) σ1) args s 0 0 (mm_AS ad)) (F0 m 133 ls [.int w3, .int w2, .int w1, .ref (ad 10 31 0)]) := by
  have hx := X.1
  have hb := X.2.1
  have hI := X.2.2.2.2.2.2.2.2.2
  intro v6 w1 w2 w3 σ H locs ls hf hP hS hl
  rw [fx_X11_steps1_J133] at hf
  refine lv_iadd hx hb dX11_steps1_133 ?_
  obtain ⟨h_20, hf⟩ := mm_gd_ok hf
  refine as_31 X hP hS  h_20  dX11_steps1_134 (fun H locs hP hS => ?_)
  obtain ⟨s_21, e_21, hf⟩ := mm_lt_ok hf
  rw [← e_21] at hP
  obtain ⟨y_22, e_22, hf⟩ := mm_li_ok hf
  refine lv_iinc (v := y_22) (lv' := [(6, .int y_22), (0, .ref (ad 10 30 0)), (2, .int x2)]) hx hb dX11_steps1_135 hl (k := 2) rfl (by rw [e_22]; rfl) (by decide) rfl (fun ls hl => ?_)
  refine lv_goto (tgt := 79) hx hb dX11_steps1_138 (by decide) ?_
  exact hk79 y_22 s_21 H locs ls  hf hP hS (lv_sub hl [1, 2, 0] rfl)
def fx_X11_steps1_L79 (x1 : Int32) (x2 : Int32)  : Nat → Int32 → mm_M → mm_R
  | 0, _, _ => none
  | fu + 1, v6, σ => if v6 < (0 : Int32) then some ((1 : Int32), σ) else mm_gd (mm_ix v6 4 = true) (mm_bd (fx_X11_of (σ 10 36 0 v6.toNatClampNeg) (1 : Int32) σ) fun r_15 s_15 => (mm_bd (fx_X11_next r_15 x2 s_15) fun r_16 s_16 => (mm_gd (mm_ix v6 4 = true) (mm_bd (fx_X11_comesTo (s_16 10 36 0 v6.toNatClampNeg) r_16 s_16) fun _ s_18 => (if v6 ≤ (0 : Int32) then fx_X11_steps1_J133 x1 x2 (fun z0 z => fx_X11_steps1_L79 x1 x2 fu z0 z) v6 (6 : Int32) (s_18 10 31 0 (6 : Int32).toNatClampNeg) (0 : Int32) s_18 else fx_X11_steps1_J133 x1 x2 (fun z0 z => fx_X11_steps1_L79 x1 x2 fu z0 z) v6 (6 : Int32) (s_18 10 31 0 (6 : Int32).toNatClampNeg) (1 : Int32) s_18)))))
set_option maxHeartbeats 4000000 in
set_option maxRecDepth 100000 in
theorem cx_X11_steps1_L79 {p : Program} {l : Launch} {e : Env} {s : State} {m : MethodId} {args : Array Value} {below : List Frame} {meth : Method} {c : Code} {D : va_G} {ad : mm_A} {cA : Nat → ClassId} (x1 : Int32) (x2 : Int32)  (rv : Int32) (σ1 : mm_M)  (X : mm_X p s m args meth c cX11_steps1 8 (some .boolean) RX11 D ad cA) : ∀ (fu : Nat), ∀ (v6 : Int32) (σ : mm_M) (H : Heap) (locs : List Loc) (ls : Array Slot), fx_X11_steps1_L79 x1 x2 fu v6 σ = some (rv, σ1) → va_P D vwCl (mm_wd ad cA σ) H → va_S (mm_AS ad) s.heap H locs → lv_has ls 8 [(0, .ref (ad 10 30 0)), (2, .int x2), (6, .int v6)] → W p l e (mm_rm 3 66) s m args below meth c H locs 0 0 (MQ below (mm_Q D ad cA (some (.int rv)) σ1) args s 0 0 (mm_AS ad)) (F0 m 79 ls []) := by
  have hx := X.1
  have hb := X.2.1
  have hI := X.2.2.2.2.2.2.2.2.2
  intro fu
  induction fu with
  | zero =>
    intro v6 σ H locs ls hf
    exact mm_no hf
  | succ fu ih =>
    intro v6 σ H locs ls hf hP hS hl
    rw [fx_X11_steps1_L79] at hf
    refine lv_iload hx hb dX11_steps1_79 (lv_at hl 2 rfl) ?_
    refine lv_if_lt (tgt := 141) hx hb dX11_steps1_81 (by decide) (fun c_13 => ?_) (fun c_13 => ?_)
    · replace hf := mm_it c_13 hf
      refine lv_iconst (v := (1 : Int32)) hx hb dX11_steps1_141 (by decide) ?_
      obtain ⟨rfl, rfl⟩ := mm_ret hf
      exact mm_zret (Or.inr rfl) X hP hS dX11_steps1_142
    · replace hf := mm_if c_13 hf
      refine lv_aload_n hx hb dX11_steps1_84 rfl (lv_at hl 0 rfl) ?_
      refine lv_aload_n hx hb dX11_steps1_85 rfl (lv_at hl 0 rfl) ?_
      refine gf_30_7 X hP  wd_776 dX11_steps1_86 ?_
      refine lv_iload hx hb dX11_steps1_89 (lv_at hl 2 rfl) ?_
      obtain ⟨h_14, hf⟩ := mm_gd_ok hf
      refine al_36 X hP  h_14 dX11_steps1_91 ?_
      refine lv_iconst (v := (1 : Int32)) hx hb dX11_steps1_92 (by decide) ?_
      obtain ⟨r_15, s_15, e_15, hf⟩ := mm_bd_ok hf
      refine mm_callV X hP hS hl.1 [.int (σ 10 36 0 v6.toNatClampNeg), .int (1 : Int32)] [] (cx_X11_of l D ad cA hI (σ 10 36 0 v6.toNatClampNeg) (1 : Int32) σ r_15 s_15 e_15) kp_30 rfl rfl wd_850 wd_852 wp_19 wd_12 wd_853 hd_X11_of ⟨Nat.le_of_ble_eq_true rfl, Nat.le_of_ble_eq_true rfl⟩ rfl (Nat.le_of_ble_eq_true rfl) dX11_steps1_93 (fun H locs hP hS => ?_)
      refine lv_iload_n hx hb dX11_steps1_96 rfl (lv_at hl 1 rfl) ?_
      obtain ⟨r_16, s_16, e_16, hf⟩ := mm_bd_ok hf
      refine mm_callS X hP hS hl.1 [.int r_15, .int x2] [] (cx_X11_next l D ad cA hI r_15 x2 s_15 r_16 s_16 e_16) wd_871 wd_872 wd_12 wd_873 hd_X11_next ⟨Nat.le_of_ble_eq_true rfl, Nat.le_of_ble_eq_true rfl⟩ rfl (Nat.le_of_ble_eq_true rfl) dX11_steps1_97 (fun H locs hP hS => ?_)
      refine lv_istore (lv' := [(7, .int r_16), (0, .ref (ad 10 30 0)), (2, .int x2), (6, .int v6)]) hx hb dX11_steps1_100 hl (by decide) rfl (fun ls hl => ?_)
      refine lv_aload_n hx hb dX11_steps1_102 rfl (lv_at hl 1 rfl) ?_
      refine lv_aload_n hx hb dX11_steps1_103 rfl (lv_at hl 1 rfl) ?_
      refine gf_30_7 X hP  wd_776 dX11_steps1_104 ?_
      refine lv_iload hx hb dX11_steps1_107 (lv_at hl 3 rfl) ?_
      obtain ⟨h_17, hf⟩ := mm_gd_ok hf
      refine al_36 X hP  h_17 dX11_steps1_109 ?_
      refine lv_iload hx hb dX11_steps1_110 (lv_at hl 0 rfl) ?_
      obtain ⟨r_18, s_18, e_18, hf⟩ := mm_bd_ok hf
      refine mm_callV X hP hS hl.1 [.int (s_16 10 36 0 v6.toNatClampNeg), .int r_16] [] (cx_X11_comesTo l D ad cA hI (s_16 10 36 0 v6.toNatClampNeg) r_16 s_16 r_18 s_18 e_18) kp_30 rfl rfl wd_966 wd_968 wp_40 wd_12 wd_969 hd_X11_comesTo ⟨Nat.le_of_ble_eq_true rfl, Nat.le_of_ble_eq_true rfl⟩ rfl (Nat.le_of_ble_eq_true rfl) dX11_steps1_112 (fun H locs hP hS => ?_)
      refine lv_aload_n hx hb dX11_steps1_115 rfl (lv_at hl 1 rfl) ?_
      refine gf_30_0 X hP  wd_769 dX11_steps1_116 ?_
      refine lv_bipush (v := (6 : Int32)) hx hb dX11_steps1_119 (by decide) ?_
      refine lv_dup2_11 hx hb dX11_steps1_121 rfl rfl ?_
      refine al_31 X hP  (by decide : mm_ix (6 : Int32) 207 = true) dX11_steps1_122 ?_
      refine lv_iload hx hb dX11_steps1_123 (lv_at hl 3 rfl) ?_
      refine lv_if_le (tgt := 132) hx hb dX11_steps1_125 (by decide) (fun c_19 => ?_) (fun c_19 => ?_)
      · replace hf := mm_it c_19 hf
        refine lv_iconst (v := (0 : Int32)) hx hb dX11_steps1_132 (by decide) ?_
        exact cx_X11_steps1_J133 x1 x2 rv σ1 (fun z0 z => fx_X11_steps1_L79 x1 x2 fu z0 z) ih X v6 (6 : Int32) (s_18 10 31 0 (6 : Int32).toNatClampNeg) (0 : Int32) s_18 H locs ls hf hP hS (lv_sub hl [1, 2, 3] rfl)
      · replace hf := mm_if c_19 hf
        refine lv_iconst (v := (1 : Int32)) hx hb dX11_steps1_128 (by decide) ?_
        refine lv_goto (tgt := 133) hx hb dX11_steps1_129 (by decide) ?_
        exact cx_X11_steps1_J133 x1 x2 rv σ1 (fun z0 z => fx_X11_steps1_L79 x1 x2 fu z0 z) ih X v6 (6 : Int32) (s_18 10 31 0 (6 : Int32).toNatClampNeg) (1 : Int32) s_18 H locs ls hf hP hS (lv_sub hl [1, 2, 3] rfl)
def fx_X11_steps1_L8 (x1 : Int32) (x2 : Int32)  : Nat → Int32 → Int32 → mm_M → mm_R
  | 0, _, _, _ => none
  | fu + 1, v3, v4, σ => if v4 < (0 : Int32) then mm_li (v3 - (1 : Int32)) fun y_2 => (fx_X11_steps1_L79 x1 x2 mm_FU y_2 σ) else mm_gd (mm_ix v3 4 = true) (mm_lt (mm_u σ 10 36 0 v3.toNatClampNeg v4) fun s_4 => (mm_li (v3 + (1 : Int32)) fun y_5 => (mm_bd (fx_X11_of v4 (1 : Int32) s_4) fun r_6 s_6 => (mm_bd (fx_X11_isWall r_6 x2 s_6) fun r_7 s_7 => (if r_7 = (0 : Int32) then mm_bd (fx_X11_of v4 (1 : Int32) s_7) fun r_9 s_9 => (mm_bd (fx_X11_next r_9 x2 s_9) fun r_10 s_10 => (if (0 : Int32) ≤ r_10 then mm_bd (fx_X11_cartOn r_10 s_10) fun r_12 s_12 => (fx_X11_steps1_L8 x1 x2 fu y_5 r_12 s_12) else fx_X11_steps1_L8 x1 x2 fu y_5 (-1 : Int32) s_10)) else some ((0 : Int32), s_7))))))
set_option maxHeartbeats 4000000 in
set_option maxRecDepth 100000 in
theorem cx_X11_steps1_L8 {p : Program} {l : Launch} {e : Env} {s : State} {m : MethodId} {args : Array Value} {below : List Frame} {meth : Method} {c : Code} {D : va_G} {ad : mm_A} {cA : Nat → ClassId} (x1 : Int32) (x2 : Int32)  (rv : Int32) (σ1 : mm_M)  (X : mm_X p s m args meth c cX11_steps1 8 (some .boolean) RX11 D ad cA) : ∀ (fu : Nat), ∀ (v3 : Int32) (v4 : Int32) (σ : mm_M) (H : Heap) (locs : List Loc) (ls : Array Slot), fx_X11_steps1_L8 x1 x2 fu v3 v4 σ = some (rv, σ1) → va_P D vwCl (mm_wd ad cA σ) H → va_S (mm_AS ad) s.heap H locs → lv_has ls 8 [(0, .ref (ad 10 30 0)), (2, .int x2), (3, .int v3), (4, .int v4)] → W p l e (mm_rm 3 66) s m args below meth c H locs 0 0 (MQ below (mm_Q D ad cA (some (.int rv)) σ1) args s 0 0 (mm_AS ad)) (F0 m 8 ls []) := by
  have hx := X.1
  have hb := X.2.1
  have hI := X.2.2.2.2.2.2.2.2.2
  intro fu
  induction fu with
  | zero =>
    intro v3 v4 σ H locs ls hf
    exact mm_no hf
  | succ fu ih =>
    intro v3 v4 σ H locs ls hf hP hS hl
    rw [fx_X11_steps1_L8] at hf
    refine lv_iload hx hb dX11_steps1_8 (lv_at hl 3 rfl) ?_
    refine lv_if_lt (tgt := 74) hx hb dX11_steps1_10 (by decide) (fun c_1 => ?_) (fun c_1 => ?_)
    · replace hf := mm_it c_1 hf
      refine lv_iload_n hx hb dX11_steps1_74 rfl (lv_at hl 2 rfl) ?_
      refine lv_iconst (v := (1 : Int32)) hx hb dX11_steps1_75 (by decide) ?_
      refine lv_isub hx hb dX11_steps1_76 ?_
      obtain ⟨y_2, e_2, hf⟩ := mm_li_ok hf
      rw [← e_2]
      refine lv_istore (lv' := [(6, .int y_2), (0, .ref (ad 10 30 0)), (2, .int x2), (3, .int v3), (4, .int v4)]) hx hb dX11_steps1_77 hl (by decide) rfl (fun ls hl => ?_)
      exact cx_X11_steps1_L79 x1 x2 rv σ1 X mm_FU y_2 σ H locs ls hf hP hS (lv_sub hl [1, 2, 0] rfl)
    · replace hf := mm_if c_1 hf
      refine lv_aload_n hx hb dX11_steps1_13 rfl (lv_at hl 0 rfl) ?_
      refine gf_30_7 X hP  wd_776 dX11_steps1_14 ?_
      refine lv_iload_n hx hb dX11_steps1_17 rfl (lv_at hl 2 rfl) ?_
      refine lv_iload hx hb dX11_steps1_18 (lv_at hl 3 rfl) ?_
      obtain ⟨h_3, hf⟩ := mm_gd_ok hf
      refine as_36 X hP hS  h_3  dX11_steps1_20 (fun H locs hP hS => ?_)
      obtain ⟨s_4, e_4, hf⟩ := mm_lt_ok hf
      rw [← e_4] at hP
      obtain ⟨y_5, e_5, hf⟩ := mm_li_ok hf
      refine lv_iinc (v := y_5) (lv' := [(3, .int y_5), (0, .ref (ad 10 30 0)), (2, .int x2), (4, .int v4)]) hx hb dX11_steps1_21 hl (k := 2) rfl (by rw [e_5]; rfl) (by decide) rfl (fun ls hl => ?_)
      refine lv_aload_n hx hb dX11_steps1_24 rfl (lv_at hl 1 rfl) ?_
      refine lv_aload_n hx hb dX11_steps1_25 rfl (lv_at hl 1 rfl) ?_
      refine lv_iload hx hb dX11_steps1_26 (lv_at hl 3 rfl) ?_
      refine lv_iconst (v := (1 : Int32)) hx hb dX11_steps1_28 (by decide) ?_
      obtain ⟨r_6, s_6, e_6, hf⟩ := mm_bd_ok hf
      refine mm_callV X hP hS hl.1 [.int v4, .int (1 : Int32)] [.ref (ad 10 30 0)] (cx_X11_of l D ad cA hI v4 (1 : Int32) s_4 r_6 s_6 e_6) kp_30 rfl rfl wd_850 wd_852 wp_19 wd_12 wd_853 hd_X11_of ⟨Nat.le_of_ble_eq_true rfl, Nat.le_of_ble_eq_true rfl⟩ rfl (Nat.le_of_ble_eq_true rfl) dX11_steps1_29 (fun H locs hP hS => ?_)
      refine lv_iload_n hx hb dX11_steps1_32 rfl (lv_at hl 2 rfl) ?_
      obtain ⟨r_7, s_7, e_7, hf⟩ := mm_bd_ok hf
      refine mm_callV X hP hS hl.1 [.int r_6, .int x2] [] (cx_X11_isWall l D ad cA hI r_6 x2 s_6 r_7 s_7 e_7) kp_30 rfl rfl wd_962 wd_964 wp_39 wd_12 wd_965 hd_X11_isWall ⟨Nat.le_of_ble_eq_true rfl, Nat.le_of_ble_eq_true rfl⟩ rfl (Nat.le_of_ble_eq_true rfl) dX11_steps1_33 (fun H locs hP hS => ?_)
      refine lv_if_eq (tgt := 41) hx hb dX11_steps1_36 (by decide) (fun c_8 => ?_) (fun c_8 => ?_)
      · replace hf := mm_it c_8 hf
        refine lv_aload_n hx hb dX11_steps1_41 rfl (lv_at hl 1 rfl) ?_
        refine lv_iload hx hb dX11_steps1_42 (lv_at hl 3 rfl) ?_
        refine lv_iconst (v := (1 : Int32)) hx hb dX11_steps1_44 (by decide) ?_
        obtain ⟨r_9, s_9, e_9, hf⟩ := mm_bd_ok hf
        refine mm_callV X hP hS hl.1 [.int v4, .int (1 : Int32)] [] (cx_X11_of l D ad cA hI v4 (1 : Int32) s_7 r_9 s_9 e_9) kp_30 rfl rfl wd_850 wd_852 wp_19 wd_12 wd_853 hd_X11_of ⟨Nat.le_of_ble_eq_true rfl, Nat.le_of_ble_eq_true rfl⟩ rfl (Nat.le_of_ble_eq_true rfl) dX11_steps1_45 (fun H locs hP hS => ?_)
        refine lv_iload_n hx hb dX11_steps1_48 rfl (lv_at hl 2 rfl) ?_
        obtain ⟨r_10, s_10, e_10, hf⟩ := mm_bd_ok hf
        refine mm_callS X hP hS hl.1 [.int r_9, .int x2] [] (cx_X11_next l D ad cA hI r_9 x2 s_9 r_10 s_10 e_10) wd_871 wd_872 wd_12 wd_873 hd_X11_next ⟨Nat.le_of_ble_eq_true rfl, Nat.le_of_ble_eq_true rfl⟩ rfl (Nat.le_of_ble_eq_true rfl) dX11_steps1_49 (fun H locs hP hS => ?_)
        refine lv_istore (lv' := [(5, .int r_10), (3, .int y_5), (0, .ref (ad 10 30 0)), (2, .int x2), (4, .int v4)]) hx hb dX11_steps1_52 hl (by decide) rfl (fun ls hl => ?_)
        refine lv_iload hx hb dX11_steps1_54 (lv_at hl 0 rfl) ?_
        refine lv_if_ge (tgt := 63) hx hb dX11_steps1_56 (by decide) (fun c_11 => ?_) (fun c_11 => ?_)
        · replace hf := mm_it c_11 hf
          refine lv_aload_n hx hb dX11_steps1_63 rfl (lv_at hl 2 rfl) ?_
          refine lv_iload hx hb dX11_steps1_64 (lv_at hl 0 rfl) ?_
          obtain ⟨r_12, s_12, e_12, hf⟩ := mm_bd_ok hf
          refine mm_callV X hP hS hl.1 [.int r_10] [] (cx_X11_cartOn l D ad cA hI r_10 s_10 r_12 s_12 e_12) kp_30 rfl rfl wd_846 wd_848 wp_18 wd_12 wd_849 hd_X11_cartOn ⟨Nat.le_of_ble_eq_true rfl, Nat.le_of_ble_eq_true rfl⟩ rfl (Nat.le_of_ble_eq_true rfl) dX11_steps1_66 (fun H locs hP hS => ?_)
          refine lv_istore (lv' := [(4, .int r_12), (5, .int r_10), (3, .int y_5), (0, .ref (ad 10 30 0)), (2, .int x2)]) hx hb dX11_steps1_69 hl (by decide) rfl (fun ls hl => ?_)
          refine lv_goto (tgt := 8) hx hb dX11_steps1_71 (by decide) ?_
          exact ih y_5 r_12 s_12 H locs ls  hf hP hS (lv_sub hl [3, 4, 2, 0] rfl)
        · replace hf := mm_if c_11 hf
          refine lv_iconst (v := (-1 : Int32)) hx hb dX11_steps1_59 (by decide) ?_
          refine lv_goto (tgt := 69) hx hb dX11_steps1_60 (by decide) ?_
          refine lv_istore (lv' := [(4, .int (-1 : Int32)), (5, .int r_10), (3, .int y_5), (0, .ref (ad 10 30 0)), (2, .int x2)]) hx hb dX11_steps1_69 hl (by decide) rfl (fun ls hl => ?_)
          refine lv_goto (tgt := 8) hx hb dX11_steps1_71 (by decide) ?_
          exact ih y_5 (-1 : Int32) s_10 H locs ls  hf hP hS (lv_sub hl [3, 4, 2, 0] rfl)
      · replace hf := mm_if c_8 hf
        refine lv_iconst (v := (0 : Int32)) hx hb dX11_steps1_39 (by decide) ?_
        obtain ⟨rfl, rfl⟩ := mm_ret hf
        exact mm_zret (Or.inl rfl) X hP hS dX11_steps1_40
def fx_X11_steps1 (x1 : Int32) (x2 : Int32) (σ : mm_M) : mm_R := fx_X11_steps1_L8 x1 x2 mm_FU (0 : Int32) x1 σ
set_option maxHeartbeats 4000000 in
set_option maxRecDepth 100000 in
theorem cx_X11_steps1 (l : Launch) (D : va_G) (ad : mm_A) (cA : Nat → ClassId) (hI : mm_Inj ad) (x1 : Int32) (x2 : Int32)  (σ : mm_M) (rv : Int32) (σ1 : mm_M) (hf : fx_X11_steps1 x1 x2 σ = some (rv, σ1)) : Met l yX11_steps1 (Cond.code yX11_steps1 cX11_steps1 8 (some .boolean) :: tb) (mm_rm 3 66) (mm_pre D ad cA [.ref (ad 10 30 0), .int x1, .int x2] σ) (mm_Q D ad cA (some (.int rv)) σ1) 0 0 (mm_AS ad) := by
  refine mm_start (by decide +kernel) hI (Nat.le_of_ble_eq_true rfl) ?_
  intro p e s m args below meth c X hP ls hl
  have hl : lv_has ls 8 [(0, .ref (ad 10 30 0)), (1, .int x1), (2, .int x2)] := hl
  have hx := X.1
  have hb := X.2.1
  have hS : va_S (mm_AS ad) s.heap s.heap [] := va_S.rf
  have hgen : ∀ (H : Heap) (locs : List Loc), va_P D vwCl (mm_wd ad cA σ) H → va_S (mm_AS ad) s.heap H locs → W p l e (mm_rm 3 66) s m args below meth c H locs 0 0 (MQ below (mm_Q D ad cA (some (.int rv)) σ1) args s 0 0 (mm_AS ad)) (F0 m 0 ls []) := by
    intro H locs hP hS
    rw [fx_X11_steps1] at hf
    refine lv_iconst (v := (0 : Int32)) hx hb dX11_steps1_0 (by decide) ?_
    refine lv_istore_n (lv' := [(3, .int (0 : Int32)), (0, .ref (ad 10 30 0)), (1, .int x1), (2, .int x2)]) hx hb dX11_steps1_1 rfl hl (by decide) rfl (fun ls hl => ?_)
    refine lv_iload_n hx hb dX11_steps1_2 rfl (lv_at hl 2 rfl) ?_
    refine lv_istore (lv' := [(4, .int x1), (3, .int (0 : Int32)), (0, .ref (ad 10 30 0)), (1, .int x1), (2, .int x2)]) hx hb dX11_steps1_3 hl (by decide) rfl (fun ls hl => ?_)
    refine lv_iconst (v := (-1 : Int32)) hx hb dX11_steps1_5 (by decide) ?_
    refine lv_istore (lv' := [(5, .int (-1 : Int32)), (4, .int x1), (3, .int (0 : Int32)), (0, .ref (ad 10 30 0)), (1, .int x1), (2, .int x2)]) hx hb dX11_steps1_6 hl (by decide) rfl (fun ls hl => ?_)
    exact cx_X11_steps1_L8 x1 x2 rv σ1 X mm_FU (0 : Int32) x1 σ H locs ls hf hP hS (lv_sub hl [3, 5, 2, 1] rfl)
  exact hgen _ _ hP hS
def fx_X11_drives_J60 (x1 : Int32) (x2 : Int32) (x3 : Int32)  (w1 : Int32) (w2 : Int32) (w3 : Int32) (σ : mm_M) : mm_R := mm_bd (fx_X11_lays w1 w2 w3 σ) fun _ s_11 => (some (0, s_11))
set_option maxHeartbeats 4000000 in
set_option maxRecDepth 100000 in
theorem cx_X11_drives_J60 {p : Program} {l : Launch} {e : Env} {s : State} {m : MethodId} {args : Array Value} {below : List Frame} {meth : Method} {c : Code} {D : va_G} {ad : mm_A} {cA : Nat → ClassId} (x1 : Int32) (x2 : Int32) (x3 : Int32)  (rv : Int32) (σ1 : mm_M)  (X : mm_X p s m args meth c cX11_drives 5 none RX11 D ad cA) : ∀ (w1 : Int32) (w2 : Int32) (w3 : Int32) (σ : mm_M) (H : Heap) (locs : List Loc) (ls : Array Slot), fx_X11_drives_J60 x1 x2 x3 w1 w2 w3 σ = some (rv, σ1) → va_P D vwCl (mm_wd ad cA σ) H → va_S (mm_AS ad) s.heap H locs → lv_has ls 5 [] → W p l e (mm_rm 4 93) s m args below meth c H locs 0 0 (MQ below (mm_Q D ad cA none σ1) args s 0 0 (mm_AS ad)) (F0 m 60 ls [.int w3, .int w2, .int w1, .ref (ad 10 30 0)]) := by
  have hx := X.1
  have hb := X.2.1
  have hI := X.2.2.2.2.2.2.2.2.2
  intro w1 w2 w3 σ H locs ls hf hP hS hl
  rw [fx_X11_drives_J60] at hf
  obtain ⟨r_11, s_11, e_11, hf⟩ := mm_bd_ok hf
  refine mm_callV X hP hS hl.1 [.int w1, .int w2, .int w3] [] (cx_X11_lays l D ad cA hI w1 w2 w3 σ r_11 s_11 e_11) kp_30 rfl rfl wd_891 wd_893 wp_25 wd_12 wd_894 hd_X11_lays ⟨Nat.le_of_ble_eq_true rfl, Nat.le_of_ble_eq_true rfl⟩ rfl (Nat.le_of_ble_eq_true rfl) dX11_drives_60 (fun H locs hP hS => ?_)
  obtain ⟨rfl, rfl⟩ := mm_ret hf
  exact mm_vret X hP hS dX11_drives_63
def fx_X11_drives_L3 (x1 : Int32) (x2 : Int32) (x3 : Int32)  : Nat → Int32 → mm_M → mm_R
  | 0, _, _ => none
  | fu + 1, v4, σ => if x2 ≤ v4 then some (0, σ) else mm_bd (fx_X11_isOut x1 σ) fun r_2 s_2 => (if r_2 = (0 : Int32) then mm_bd (fx_X11_steps1 x1 x3 s_2) fun r_4 s_4 => (if r_4 = (0 : Int32) then mm_bd (fx_X11_more x1 (6 : Int32) s_4) fun _ s_7 => (mm_bd (fx_X11_of x1 (3 : Int32) s_7) fun r_8 s_8 => (if (9 : Int32) ≤ r_8 then fx_X11_drives_J60 x1 x2 x3 x1 (3 : Int32) (9 : Int32) s_8 else mm_bd (fx_X11_of x1 (3 : Int32) s_8) fun r_10 s_10 => (fx_X11_drives_J60 x1 x2 x3 x1 (3 : Int32) (r_10 + (1 : Int32)) s_10))) else mm_li (v4 + (1 : Int32)) fun y_6 => (fx_X11_drives_L3 x1 x2 x3 fu y_6 s_4)) else some (0, s_2))
set_option maxHeartbeats 4000000 in
set_option maxRecDepth 100000 in
theorem cx_X11_drives_L3 {p : Program} {l : Launch} {e : Env} {s : State} {m : MethodId} {args : Array Value} {below : List Frame} {meth : Method} {c : Code} {D : va_G} {ad : mm_A} {cA : Nat → ClassId} (x1 : Int32) (x2 : Int32) (x3 : Int32)  (rv : Int32) (σ1 : mm_M)  (X : mm_X p s m args meth c cX11_drives 5 none RX11 D ad cA) : ∀ (fu : Nat), ∀ (v4 : Int32) (σ : mm_M) (H : Heap) (locs : List Loc) (ls : Array Slot), fx_X11_drives_L3 x1 x2 x3 fu v4 σ = some (rv, σ1) → va_P D vwCl (mm_wd ad cA σ) H → va_S (mm_AS ad) s.heap H locs → lv_has ls 5 [(0, .ref (ad 10 30 0)), (1, .int x1), (2, .int x2), (3, .int x3), (4, .int v4)] → W p l e (mm_rm 4 93) s m args below meth c H locs 0 0 (MQ below (mm_Q D ad cA none σ1) args s 0 0 (mm_AS ad)) (F0 m 3 ls []) := by
  have hx := X.1
  have hb := X.2.1
  have hI := X.2.2.2.2.2.2.2.2.2
  intro fu
  induction fu with
  | zero =>
    intro v4 σ H locs ls hf
    exact mm_no hf
  | succ fu ih =>
    intro v4 σ H locs ls hf hP hS hl
    rw [fx_X11_drives_L3] at hf
    refine lv_iload hx hb dX11_drives_3 (lv_at hl 4 rfl) ?_
    refine lv_iload_n hx hb dX11_drives_5 rfl (lv_at hl 2 rfl) ?_
    refine lv_icmp_ge (tgt := 70) hx hb dX11_drives_6 (by decide) (fun c_1 => ?_) (fun c_1 => ?_)
    · replace hf := mm_it c_1 hf
      obtain ⟨rfl, rfl⟩ := mm_ret hf
      exact mm_vret X hP hS dX11_drives_70
    · replace hf := mm_if c_1 hf
      refine lv_aload_n hx hb dX11_drives_9 rfl (lv_at hl 0 rfl) ?_
      refine lv_iload_n hx hb dX11_drives_10 rfl (lv_at hl 1 rfl) ?_
      obtain ⟨r_2, s_2, e_2, hf⟩ := mm_bd_ok hf
      refine mm_callV X hP hS hl.1 [.int x1] [] (cx_X11_isOut l D ad cA hI x1 σ r_2 s_2 e_2) kp_30 rfl rfl wd_907 wd_909 wp_28 wd_12 wd_910 hd_X11_isOut ⟨Nat.le_of_ble_eq_true rfl, Nat.le_of_ble_eq_true rfl⟩ rfl (Nat.le_of_ble_eq_true rfl) dX11_drives_11 (fun H locs hP hS => ?_)
      refine lv_if_ne (tgt := 70) hx hb dX11_drives_14 (by decide) (fun c_3 => ?_) (fun c_3 => ?_)
      · replace hf := mm_if c_3 hf
        obtain ⟨rfl, rfl⟩ := mm_ret hf
        exact mm_vret X hP hS dX11_drives_70
      · replace hf := mm_it c_3 hf
        refine lv_aload_n hx hb dX11_drives_17 rfl (lv_at hl 0 rfl) ?_
        refine lv_iload_n hx hb dX11_drives_18 rfl (lv_at hl 1 rfl) ?_
        refine lv_iload_n hx hb dX11_drives_19 rfl (lv_at hl 3 rfl) ?_
        obtain ⟨r_4, s_4, e_4, hf⟩ := mm_bd_ok hf
        refine mm_callV X hP hS hl.1 [.int x1, .int x3] [] (cx_X11_steps1 l D ad cA hI x1 x3 s_2 r_4 s_4 e_4) kp_30 rfl rfl wd_958 wd_960 wp_38 wd_12 wd_961 hd_X11_steps1 ⟨Nat.le_of_ble_eq_true rfl, Nat.le_of_ble_eq_true rfl⟩ rfl (Nat.le_of_ble_eq_true rfl) dX11_drives_20 (fun H locs hP hS => ?_)
        refine lv_if_ne (tgt := 64) hx hb dX11_drives_23 (by decide) (fun c_5 => ?_) (fun c_5 => ?_)
        · replace hf := mm_if c_5 hf
          obtain ⟨y_6, e_6, hf⟩ := mm_li_ok hf
          refine lv_iinc (v := y_6) (lv' := [(4, .int y_6), (0, .ref (ad 10 30 0)), (1, .int x1), (2, .int x2), (3, .int x3)]) hx hb dX11_drives_64 hl (k := 4) rfl (by rw [e_6]; rfl) (by decide) rfl (fun ls hl => ?_)
          refine lv_goto (tgt := 3) hx hb dX11_drives_67 (by decide) ?_
          exact ih y_6 s_4 H locs ls  hf hP hS (lv_sub hl [1, 2, 3, 4, 0] rfl)
        · replace hf := mm_it c_5 hf
          refine lv_aload_n hx hb dX11_drives_26 rfl (lv_at hl 0 rfl) ?_
          refine lv_iload_n hx hb dX11_drives_27 rfl (lv_at hl 1 rfl) ?_
          refine lv_bipush (v := (6 : Int32)) hx hb dX11_drives_28 (by decide) ?_
          obtain ⟨r_7, s_7, e_7, hf⟩ := mm_bd_ok hf
          refine mm_callV X hP hS hl.1 [.int x1, .int (6 : Int32)] [] (cx_X11_more l D ad cA hI x1 (6 : Int32) s_4 r_7 s_7 e_7) kp_30 rfl rfl wd_974 wd_976 wp_42 wd_12 wd_977 hd_X11_more ⟨Nat.le_of_ble_eq_true rfl, Nat.le_of_ble_eq_true rfl⟩ rfl (Nat.le_of_ble_eq_true rfl) dX11_drives_30 (fun H locs hP hS => ?_)
          refine lv_aload_n hx hb dX11_drives_33 rfl (lv_at hl 0 rfl) ?_
          refine lv_iload_n hx hb dX11_drives_34 rfl (lv_at hl 1 rfl) ?_
          refine lv_iconst (v := (3 : Int32)) hx hb dX11_drives_35 (by decide) ?_
          refine lv_aload_n hx hb dX11_drives_36 rfl (lv_at hl 0 rfl) ?_
          refine lv_iload_n hx hb dX11_drives_37 rfl (lv_at hl 1 rfl) ?_
          refine lv_iconst (v := (3 : Int32)) hx hb dX11_drives_38 (by decide) ?_
          obtain ⟨r_8, s_8, e_8, hf⟩ := mm_bd_ok hf
          refine mm_callV X hP hS hl.1 [.int x1, .int (3 : Int32)] [.int (3 : Int32), .int x1, .ref (ad 10 30 0)] (cx_X11_of l D ad cA hI x1 (3 : Int32) s_7 r_8 s_8 e_8) kp_30 rfl rfl wd_850 wd_852 wp_19 wd_12 wd_853 hd_X11_of ⟨Nat.le_of_ble_eq_true rfl, Nat.le_of_ble_eq_true rfl⟩ rfl (Nat.le_of_ble_eq_true rfl) dX11_drives_39 (fun H locs hP hS => ?_)
          refine lv_bipush (v := (9 : Int32)) hx hb dX11_drives_42 (by decide) ?_
          refine lv_icmp_ge (tgt := 58) hx hb dX11_drives_44 (by decide) (fun c_9 => ?_) (fun c_9 => ?_)
          · replace hf := mm_it c_9 hf
            refine lv_bipush (v := (9 : Int32)) hx hb dX11_drives_58 (by decide) ?_
            exact cx_X11_drives_J60 x1 x2 x3 rv σ1 X x1 (3 : Int32) (9 : Int32) s_8 H locs ls hf hP hS (lv_sub hl [] rfl)
          · replace hf := mm_if c_9 hf
            refine lv_aload_n hx hb dX11_drives_47 rfl (lv_at hl 0 rfl) ?_
            refine lv_iload_n hx hb dX11_drives_48 rfl (lv_at hl 1 rfl) ?_
            refine lv_iconst (v := (3 : Int32)) hx hb dX11_drives_49 (by decide) ?_
            obtain ⟨r_10, s_10, e_10, hf⟩ := mm_bd_ok hf
            refine mm_callV X hP hS hl.1 [.int x1, .int (3 : Int32)] [.int (3 : Int32), .int x1, .ref (ad 10 30 0)] (cx_X11_of l D ad cA hI x1 (3 : Int32) s_8 r_10 s_10 e_10) kp_30 rfl rfl wd_850 wd_852 wp_19 wd_12 wd_853 hd_X11_of ⟨Nat.le_of_ble_eq_true rfl, Nat.le_of_ble_eq_true rfl⟩ rfl (Nat.le_of_ble_eq_true rfl) dX11_drives_50 (fun H locs hP hS => ?_)
            refine lv_iconst (v := (1 : Int32)) hx hb dX11_drives_53 (by decide) ?_
            refine lv_iadd hx hb dX11_drives_54 ?_
            refine lv_goto (tgt := 60) hx hb dX11_drives_55 (by decide) ?_
            exact cx_X11_drives_J60 x1 x2 x3 rv σ1 X x1 (3 : Int32) (r_10 + (1 : Int32)) s_10 H locs ls hf hP hS (lv_sub hl [] rfl)
def fx_X11_drives (x1 : Int32) (x2 : Int32) (x3 : Int32) (σ : mm_M) : mm_R := fx_X11_drives_L3 x1 x2 x3 mm_FU (0 : Int32) σ
set_option maxHeartbeats 4000000 in
set_option maxRecDepth 100000 in
theorem cx_X11_drives (l : Launch) (D : va_G) (ad : mm_A) (cA : Nat → ClassId) (hI : mm_Inj ad) (x1 : Int32) (x2 : Int32) (x3 : Int32)  (σ : mm_M) (rv : Int32) (σ1 : mm_M) (hf : fx_X11_drives x1 x2 x3 σ = some (rv, σ1)) : Met l yX11_drives (Cond.code yX11_drives cX11_drives 5 none :: tb) (mm_rm 4 93) (mm_pre D ad cA [.ref (ad 10 30 0), .int x1, .int x2, .int x3] σ) (mm_Q D ad cA none σ1) 0 0 (mm_AS ad) := by
  refine mm_start (by decide +kernel) hI (Nat.le_of_ble_eq_true rfl) ?_
  intro p e s m args below meth c X hP ls hl
  have hl : lv_has ls 5 [(0, .ref (ad 10 30 0)), (1, .int x1), (2, .int x2), (3, .int x3)] := hl
  have hx := X.1
  have hb := X.2.1
  have hS : va_S (mm_AS ad) s.heap s.heap [] := va_S.rf
  have hgen : ∀ (H : Heap) (locs : List Loc), va_P D vwCl (mm_wd ad cA σ) H → va_S (mm_AS ad) s.heap H locs → W p l e (mm_rm 4 93) s m args below meth c H locs 0 0 (MQ below (mm_Q D ad cA none σ1) args s 0 0 (mm_AS ad)) (F0 m 0 ls []) := by
    intro H locs hP hS
    rw [fx_X11_drives] at hf
    refine lv_iconst (v := (0 : Int32)) hx hb dX11_drives_0 (by decide) ?_
    refine lv_istore (lv' := [(4, .int (0 : Int32)), (0, .ref (ad 10 30 0)), (1, .int x1), (2, .int x2), (3, .int x3)]) hx hb dX11_drives_1 hl (by decide) rfl (fun ls hl => ?_)
    exact cx_X11_drives_L3 x1 x2 x3 rv σ1 X mm_FU (0 : Int32) σ H locs ls hf hP hS (lv_sub hl [1, 2, 3, 4, 0] rfl)
  exact hgen _ _ hP hS
def fx_X11_does_J64 (x1 : Int32) (x2 : Int32)  (w1 : Int32) (w2 : Int32) (σ : mm_M) : mm_R := mm_bd (fx_X11_turns w1 w2 σ) fun _ s_8 => (some (0, s_8))
set_option maxHeartbeats 4000000 in
set_option maxRecDepth 100000 in
theorem cx_X11_does_J64 {p : Program} {l : Launch} {e : Env} {s : State} {m : MethodId} {args : Array Value} {below : List Frame} {meth : Method} {c : Code} {D : va_G} {ad : mm_A} {cA : Nat → ClassId} (x1 : Int32) (x2 : Int32)  (rv : Int32) (σ1 : mm_M)  (X : mm_X p s m args meth c cX11_does 4 none RX11 D ad cA) : ∀ (w1 : Int32) (w2 : Int32) (σ : mm_M) (H : Heap) (locs : List Loc) (ls : Array Slot), fx_X11_does_J64 x1 x2 w1 w2 σ = some (rv, σ1) → va_P D vwCl (mm_wd ad cA σ) H → va_S (mm_AS ad) s.heap H locs → lv_has ls 4 [] → W p l e (mm_rm 5 117) s m args below meth c H locs 0 0 (MQ below (mm_Q D ad cA none σ1) args s 0 0 (mm_AS ad)) (F0 m 64 ls [.int w2, .int w1, .ref (ad 10 30 0)]) := by
  have hx := X.1
  have hb := X.2.1
  have hI := X.2.2.2.2.2.2.2.2.2
  intro w1 w2 σ H locs ls hf hP hS hl
  rw [fx_X11_does_J64] at hf
  obtain ⟨r_8, s_8, e_8, hf⟩ := mm_bd_ok hf
  refine mm_callV X hP hS hl.1 [.int w1, .int w2] [] (cx_X11_turns l D ad cA hI w1 w2 σ r_8 s_8 e_8) kp_30 rfl rfl wd_978 wd_980 wp_43 wd_12 wd_981 hd_X11_turns ⟨Nat.le_of_ble_eq_true rfl, Nat.le_of_ble_eq_true rfl⟩ rfl (Nat.le_of_ble_eq_true rfl) dX11_does_64 (fun H locs hP hS => ?_)
  obtain ⟨rfl, rfl⟩ := mm_ret hf
  exact mm_vret X hP hS dX11_does_67
def fx_X11_does (x1 : Int32) (x2 : Int32) (σ : mm_M) : mm_R := mm_bd (fx_X11_of x1 (2 : Int32) σ) fun r_1 s_1 => (if (3 : Int32) ≤ x2 then if x2 = (3 : Int32) then mm_bd (fx_X11_drives x1 (1 : Int32) ((r_1 + (2 : Int32)) - (r_1 + (2 : Int32)) / (4 : Int32) * (4 : Int32)) s_1) fun _ s_6 => (some (0, s_6)) else if x2 = (4 : Int32) then fx_X11_does_J64 x1 x2 x1 (3 : Int32) s_1 else if x2 = (5 : Int32) then fx_X11_does_J64 x1 x2 x1 (1 : Int32) s_1 else fx_X11_does_J64 x1 x2 x1 (2 : Int32) s_1 else mm_bd (fx_X11_drives x1 (x2 + (1 : Int32)) r_1 s_1) fun _ s_7 => (some (0, s_7)))
set_option maxHeartbeats 4000000 in
set_option maxRecDepth 100000 in
theorem cx_X11_does (l : Launch) (D : va_G) (ad : mm_A) (cA : Nat → ClassId) (hI : mm_Inj ad) (x1 : Int32) (x2 : Int32)  (σ : mm_M) (rv : Int32) (σ1 : mm_M) (hf : fx_X11_does x1 x2 σ = some (rv, σ1)) : Met l yX11_does (Cond.code yX11_does cX11_does 4 none :: tb) (mm_rm 5 117) (mm_pre D ad cA [.ref (ad 10 30 0), .int x1, .int x2] σ) (mm_Q D ad cA none σ1) 0 0 (mm_AS ad) := by
  refine mm_start (by decide +kernel) hI (Nat.le_of_ble_eq_true rfl) ?_
  intro p e s m args below meth c X hP ls hl
  have hl : lv_has ls 4 [(0, .ref (ad 10 30 0)), (1, .int x1), (2, .int x2)] := hl
  have hx := X.1
  have hb := X.2.1
  have hS : va_S (mm_AS ad) s.heap s.heap [] := va_S.rf
  have hgen : ∀ (H : Heap) (locs : List Loc), va_P D vwCl (mm_wd ad cA σ) H → va_S (mm_AS ad) s.heap H locs → W p l e (mm_rm 5 117) s m args below meth c H locs 0 0 (MQ below (mm_Q D ad cA none σ1) args s 0 0 (mm_AS ad)) (F0 m 0 ls []) := by
    intro H locs hP hS
    rw [fx_X11_does] at hf
    refine lv_aload_n hx hb dX11_does_0 rfl (lv_at hl 0 rfl) ?_
    refine lv_iload_n hx hb dX11_does_1 rfl (lv_at hl 1 rfl) ?_
    refine lv_iconst (v := (2 : Int32)) hx hb dX11_does_2 (by decide) ?_
    obtain ⟨r_1, s_1, e_1, hf⟩ := mm_bd_ok hf
    refine mm_callV X hP hS hl.1 [.int x1, .int (2 : Int32)] [] (cx_X11_of l D ad cA hI x1 (2 : Int32) σ r_1 s_1 e_1) kp_30 rfl rfl wd_850 wd_852 wp_19 wd_12 wd_853 hd_X11_of ⟨Nat.le_of_ble_eq_true rfl, Nat.le_of_ble_eq_true rfl⟩ rfl (Nat.le_of_ble_eq_true rfl) dX11_does_3 (fun H locs hP hS => ?_)
    refine lv_istore_n (lv' := [(3, .int r_1), (0, .ref (ad 10 30 0)), (1, .int x1), (2, .int x2)]) hx hb dX11_does_6 rfl hl (by decide) rfl (fun ls hl => ?_)
    refine lv_iload_n hx hb dX11_does_7 rfl (lv_at hl 3 rfl) ?_
    refine lv_iconst (v := (3 : Int32)) hx hb dX11_does_8 (by decide) ?_
    refine lv_icmp_ge (tgt := 24) hx hb dX11_does_9 (by decide) (fun c_2 => ?_) (fun c_2 => ?_)
    · replace hf := mm_it c_2 hf
      refine lv_iload_n hx hb dX11_does_24 rfl (lv_at hl 3 rfl) ?_
      refine lv_iconst (v := (3 : Int32)) hx hb dX11_does_25 (by decide) ?_
      refine lv_icmp_ne (tgt := 43) hx hb dX11_does_26 (by decide) (fun c_3 => ?_) (fun c_3 => ?_)
      · replace hf := mm_if c_3 hf
        refine lv_aload_n hx hb dX11_does_43 rfl (lv_at hl 1 rfl) ?_
        refine lv_iload_n hx hb dX11_does_44 rfl (lv_at hl 2 rfl) ?_
        refine lv_iload_n hx hb dX11_does_45 rfl (lv_at hl 3 rfl) ?_
        refine lv_iconst (v := (4 : Int32)) hx hb dX11_does_46 (by decide) ?_
        refine lv_icmp_ne (tgt := 54) hx hb dX11_does_47 (by decide) (fun c_4 => ?_) (fun c_4 => ?_)
        · replace hf := mm_if c_4 hf
          refine lv_iload_n hx hb dX11_does_54 rfl (lv_at hl 3 rfl) ?_
          refine lv_iconst (v := (5 : Int32)) hx hb dX11_does_55 (by decide) ?_
          refine lv_icmp_ne (tgt := 63) hx hb dX11_does_56 (by decide) (fun c_5 => ?_) (fun c_5 => ?_)
          · replace hf := mm_if c_5 hf
            refine lv_iconst (v := (2 : Int32)) hx hb dX11_does_63 (by decide) ?_
            exact cx_X11_does_J64 x1 x2 rv σ1 X x1 (2 : Int32) s_1 H locs ls hf hP hS (lv_sub hl [] rfl)
          · replace hf := mm_it c_5 hf
            refine lv_iconst (v := (1 : Int32)) hx hb dX11_does_59 (by decide) ?_
            refine lv_goto (tgt := 64) hx hb dX11_does_60 (by decide) ?_
            exact cx_X11_does_J64 x1 x2 rv σ1 X x1 (1 : Int32) s_1 H locs ls hf hP hS (lv_sub hl [] rfl)
        · replace hf := mm_it c_4 hf
          refine lv_iconst (v := (3 : Int32)) hx hb dX11_does_50 (by decide) ?_
          refine lv_goto (tgt := 64) hx hb dX11_does_51 (by decide) ?_
          exact cx_X11_does_J64 x1 x2 rv σ1 X x1 (3 : Int32) s_1 H locs ls hf hP hS (lv_sub hl [] rfl)
      · replace hf := mm_it c_3 hf
        refine lv_aload_n hx hb dX11_does_29 rfl (lv_at hl 1 rfl) ?_
        refine lv_iload_n hx hb dX11_does_30 rfl (lv_at hl 2 rfl) ?_
        refine lv_iconst (v := (1 : Int32)) hx hb dX11_does_31 (by decide) ?_
        refine lv_iload_n hx hb dX11_does_32 rfl (lv_at hl 0 rfl) ?_
        refine lv_iconst (v := (2 : Int32)) hx hb dX11_does_33 (by decide) ?_
        refine lv_iadd hx hb dX11_does_34 ?_
        refine lv_iconst (v := (4 : Int32)) hx hb dX11_does_35 (by decide) ?_
        refine lv_irem hx hb dX11_does_36 (by decide) ?_
        obtain ⟨r_6, s_6, e_6, hf⟩ := mm_bd_ok hf
        refine mm_callV X hP hS hl.1 [.int x1, .int (1 : Int32), .int ((r_1 + (2 : Int32)) - (r_1 + (2 : Int32)) / (4 : Int32) * (4 : Int32))] [] (cx_X11_drives l D ad cA hI x1 (1 : Int32) ((r_1 + (2 : Int32)) - (r_1 + (2 : Int32)) / (4 : Int32) * (4 : Int32)) s_1 r_6 s_6 e_6) kp_30 rfl rfl wd_954 wd_956 wp_37 wd_12 wd_957 hd_X11_drives ⟨Nat.le_of_ble_eq_true rfl, Nat.le_of_ble_eq_true rfl⟩ rfl (Nat.le_of_ble_eq_true rfl) dX11_does_37 (fun H locs hP hS => ?_)
        refine lv_goto (tgt := 67) hx hb dX11_does_40 (by decide) ?_
        obtain ⟨rfl, rfl⟩ := mm_ret hf
        exact mm_vret X hP hS dX11_does_67
    · replace hf := mm_if c_2 hf
      refine lv_aload_n hx hb dX11_does_12 rfl (lv_at hl 1 rfl) ?_
      refine lv_iload_n hx hb dX11_does_13 rfl (lv_at hl 2 rfl) ?_
      refine lv_iload_n hx hb dX11_does_14 rfl (lv_at hl 3 rfl) ?_
      refine lv_iconst (v := (1 : Int32)) hx hb dX11_does_15 (by decide) ?_
      refine lv_iadd hx hb dX11_does_16 ?_
      refine lv_iload_n hx hb dX11_does_17 rfl (lv_at hl 0 rfl) ?_
      obtain ⟨r_7, s_7, e_7, hf⟩ := mm_bd_ok hf
      refine mm_callV X hP hS hl.1 [.int x1, .int (x2 + (1 : Int32)), .int r_1] [] (cx_X11_drives l D ad cA hI x1 (x2 + (1 : Int32)) r_1 s_1 r_7 s_7 e_7) kp_30 rfl rfl wd_954 wd_956 wp_37 wd_12 wd_957 hd_X11_drives ⟨Nat.le_of_ble_eq_true rfl, Nat.le_of_ble_eq_true rfl⟩ rfl (Nat.le_of_ble_eq_true rfl) dX11_does_18 (fun H locs hP hS => ?_)
      refine lv_goto (tgt := 67) hx hb dX11_does_21 (by decide) ?_
      obtain ⟨rfl, rfl⟩ := mm_ret hf
      exact mm_vret X hP hS dX11_does_67
  exact hgen _ _ hP hS
