def fx_X0_carry_L58 (r1 : Nat) (k48 : Int32 → mm_M → mm_R) : Nat → Int32 → Int32 → mm_M → mm_R
  | 0, _, _, _ => none
  | fu + 1, v2, v3, σ => if (σ r1 0 0 2) ≤ v3 then mm_li (v2 + (1 : Int32)) fun y_22 => (k48 y_22 σ) else mm_gd (mm_ix v3 4 = true) (if (σ 7 19 0 v3.toNatClampNeg) = (0 : Int32) then mm_li (v3 + (1 : Int32)) fun y_25 => (fx_X0_carry_L58 r1 k48 fu v2 y_25 σ) else mm_bd (fx_X0_isBlocked r1 v3 σ) fun r_26 s_26 => (if r_26 = (0 : Int32) then mm_li (v3 + (1 : Int32)) fun y_28 => (fx_X0_carry_L58 r1 k48 fu v2 y_28 s_26) else mm_gd (mm_ix v3 4 = true) (mm_lt (mm_u s_26 7 19 0 v3.toNatClampNeg (0 : Int32)) fun s_30 => (mm_li (v3 + (1 : Int32)) fun y_31 => (fx_X0_carry_L58 r1 k48 fu v2 y_31 s_30)))))
set_option maxHeartbeats 4000000 in
set_option maxRecDepth 100000 in
theorem cx_X0_carry_L58 {p : Program} {l : Launch} {e : Env} {s : State} {m : MethodId} {args : Array Value} {below : List Frame} {meth : Method} {c : Code} {D : va_G} {ad : mm_A} {cA : Nat → ClassId} (r1 : Nat) (hr1 : r1 < 6) (rv : Int32) (σ1 : mm_M) (k48 : Int32 → mm_M → mm_R) (hk48 : ∀ (v2 : Int32) (σ : mm_M) (H : Heap) (locs : List Loc) (ls : Array Slot), k48 v2 σ = some (rv, σ1) → va_P D vwCl (mm_wd ad cA σ) H → va_S (mm_AS ad) s.heap H locs → lv_has ls 4 [(0, .ref (ad 7 16 0)), (1, .ref (ad r1 0 0)), (2, .int v2)] → W p l e (mm_rm 2 47) s m args below meth c H locs 0 0 (MQ below (mm_Q D ad cA none σ1) args s 0 0 (mm_AS ad)) (F0 m 48 ls [])) (X : mm_X p s m args meth c cX0_carry 4 none RX0 D ad cA) : ∀ (fu : Nat), ∀ (v2 : Int32) (v3 : Int32) (σ : mm_M) (H : Heap) (locs : List Loc) (ls : Array Slot), fx_X0_carry_L58 r1 k48 fu v2 v3 σ = some (rv, σ1) → va_P D vwCl (mm_wd ad cA σ) H → va_S (mm_AS ad) s.heap H locs → lv_has ls 4 [(0, .ref (ad 7 16 0)), (1, .ref (ad r1 0 0)), (2, .int v2), (3, .int v3)] → W p l e (mm_rm 2 47) s m args below meth c H locs 0 0 (MQ below (mm_Q D ad cA none σ1) args s 0 0 (mm_AS ad)) (F0 m 58 ls []) := by
  have hx := X.1
  have hb := X.2.1
  have hI := X.2.2.2.2.2.2.2.2.2
  intro fu
  induction fu with
  | zero =>
    intro v2 v3 σ H locs ls hf
    exact mm_no hf
  | succ fu ih =>
    intro v2 v3 σ H locs ls hf hP hS hl
    rw [fx_X0_carry_L58] at hf
    refine lv_iload_n hx hb dX0_carry_58 rfl (lv_at hl 3 rfl) ?_
    refine lv_aload_n hx hb dX0_carry_59 rfl (lv_at hl 1 rfl) ?_
    refine gf_0_2 X hP hr1 wd_116 dX0_carry_60 ?_
    refine lv_icmp_ge (tgt := 97) hx hb dX0_carry_63 (by decide) (fun c_21 => ?_) (fun c_21 => ?_)
    · replace hf := mm_it c_21 hf
      obtain ⟨y_22, e_22, hf⟩ := mm_li_ok hf
      refine lv_iinc (v := y_22) (lv' := [(2, .int y_22), (0, .ref (ad 7 16 0)), (1, .ref (ad r1 0 0)), (3, .int v3)]) hx hb dX0_carry_97 hl (k := 2) rfl (by rw [e_22]; rfl) (by decide) rfl (fun ls hl => ?_)
      refine lv_goto (tgt := 48) hx hb dX0_carry_100 (by decide) ?_
      exact hk48 y_22 σ H locs ls  hf hP hS (lv_sub hl [1, 2, 0] rfl)
    · replace hf := mm_if c_21 hf
      refine lv_aload_n hx hb dX0_carry_66 rfl (lv_at hl 0 rfl) ?_
      refine gf_16_2 X hP  wd_194 dX0_carry_67 ?_
      refine lv_iload_n hx hb dX0_carry_70 rfl (lv_at hl 3 rfl) ?_
      obtain ⟨h_23, hf⟩ := mm_gd_ok hf
      refine al_19 X hP  h_23 dX0_carry_71 ?_
      refine lv_if_eq (tgt := 91) hx hb dX0_carry_72 (by decide) (fun c_24 => ?_) (fun c_24 => ?_)
      · replace hf := mm_it c_24 hf
        obtain ⟨y_25, e_25, hf⟩ := mm_li_ok hf
        refine lv_iinc (v := y_25) (lv' := [(3, .int y_25), (0, .ref (ad 7 16 0)), (1, .ref (ad r1 0 0)), (2, .int v2)]) hx hb dX0_carry_91 hl (k := 3) rfl (by rw [e_25]; rfl) (by decide) rfl (fun ls hl => ?_)
        refine lv_goto (tgt := 58) hx hb dX0_carry_94 (by decide) ?_
        exact ih v2 y_25 σ H locs ls  hf hP hS (lv_sub hl [1, 2, 3, 0] rfl)
      · replace hf := mm_if c_24 hf
        refine lv_aload_n hx hb dX0_carry_75 rfl (lv_at hl 0 rfl) ?_
        refine lv_aload_n hx hb dX0_carry_76 rfl (lv_at hl 1 rfl) ?_
        refine lv_iload_n hx hb dX0_carry_77 rfl (lv_at hl 3 rfl) ?_
        obtain ⟨r_26, s_26, e_26, hf⟩ := mm_bd_ok hf
        refine mm_callV X hP hS hl.1 [.ref (ad r1 0 0), .int v3] [] (cx_X0_isBlocked l D ad cA hI r1 v3 hr1 σ r_26 s_26 e_26) kp_16 rfl rfl wd_630 wd_632 wp_8 wd_8 wd_633 hd_X0_isBlocked ⟨Nat.le_of_ble_eq_true rfl, Nat.le_of_ble_eq_true rfl⟩ rfl (Nat.le_of_ble_eq_true rfl) dX0_carry_78 (fun H locs hP hS => ?_)
        refine lv_if_eq (tgt := 91) hx hb dX0_carry_81 (by decide) (fun c_27 => ?_) (fun c_27 => ?_)
        · replace hf := mm_it c_27 hf
          obtain ⟨y_28, e_28, hf⟩ := mm_li_ok hf
          refine lv_iinc (v := y_28) (lv' := [(3, .int y_28), (0, .ref (ad 7 16 0)), (1, .ref (ad r1 0 0)), (2, .int v2)]) hx hb dX0_carry_91 hl (k := 3) rfl (by rw [e_28]; rfl) (by decide) rfl (fun ls hl => ?_)
          refine lv_goto (tgt := 58) hx hb dX0_carry_94 (by decide) ?_
          exact ih v2 y_28 s_26 H locs ls  hf hP hS (lv_sub hl [1, 2, 3, 0] rfl)
        · replace hf := mm_if c_27 hf
          refine lv_aload_n hx hb dX0_carry_84 rfl (lv_at hl 0 rfl) ?_
          refine gf_16_2 X hP  wd_194 dX0_carry_85 ?_
          refine lv_iload_n hx hb dX0_carry_88 rfl (lv_at hl 3 rfl) ?_
          refine lv_iconst (v := (0 : Int32)) hx hb dX0_carry_89 (by decide) ?_
          obtain ⟨h_29, hf⟩ := mm_gd_ok hf
          refine as_19 X hP hS  h_29 (by decide) dX0_carry_90 (fun H locs hP hS => ?_)
          obtain ⟨s_30, e_30, hf⟩ := mm_lt_ok hf
          rw [← e_30] at hP
          obtain ⟨y_31, e_31, hf⟩ := mm_li_ok hf
          refine lv_iinc (v := y_31) (lv' := [(3, .int y_31), (0, .ref (ad 7 16 0)), (1, .ref (ad r1 0 0)), (2, .int v2)]) hx hb dX0_carry_91 hl (k := 3) rfl (by rw [e_31]; rfl) (by decide) rfl (fun ls hl => ?_)
          refine lv_goto (tgt := 58) hx hb dX0_carry_94 (by decide) ?_
          exact ih v2 y_31 s_30 H locs ls  hf hP hS (lv_sub hl [1, 2, 3, 0] rfl)
def fx_X0_carry_L105 (r1 : Nat)  : Nat → Int32 → mm_M → mm_R
  | 0, _, _ => none
  | fu + 1, v2, σ => if (σ r1 0 0 2) ≤ v2 then some (0, σ) else mm_gd (mm_ix v2 4 = true) (if (σ 7 19 0 v2.toNatClampNeg) = (0 : Int32) then mm_li (v2 + (1 : Int32)) fun y_16 => (fx_X0_carry_L105 r1 fu y_16 σ) else mm_gd (mm_ix v2 4 = true) (mm_gd (mm_ix v2 4 = true) (mm_bd (fx_X8_enter r1 r1 v2.toNatClampNeg (σ 7 18 0 v2.toNatClampNeg) σ) fun _ s_19 => (mm_li (v2 + (1 : Int32)) fun y_20 => (fx_X0_carry_L105 r1 fu y_20 s_19)))))
set_option maxHeartbeats 4000000 in
set_option maxRecDepth 100000 in
theorem cx_X0_carry_L105 {p : Program} {l : Launch} {e : Env} {s : State} {m : MethodId} {args : Array Value} {below : List Frame} {meth : Method} {c : Code} {D : va_G} {ad : mm_A} {cA : Nat → ClassId} (r1 : Nat) (hr1 : r1 < 6) (rv : Int32) (σ1 : mm_M)  (X : mm_X p s m args meth c cX0_carry 4 none RX0 D ad cA) : ∀ (fu : Nat), ∀ (v2 : Int32) (σ : mm_M) (H : Heap) (locs : List Loc) (ls : Array Slot), fx_X0_carry_L105 r1 fu v2 σ = some (rv, σ1) → va_P D vwCl (mm_wd ad cA σ) H → va_S (mm_AS ad) s.heap H locs → lv_has ls 4 [(0, .ref (ad 7 16 0)), (1, .ref (ad r1 0 0)), (2, .int v2)] → W p l e (mm_rm 2 47) s m args below meth c H locs 0 0 (MQ below (mm_Q D ad cA none σ1) args s 0 0 (mm_AS ad)) (F0 m 105 ls []) := by
  have hx := X.1
  have hb := X.2.1
  have hI := X.2.2.2.2.2.2.2.2.2
  intro fu
  induction fu with
  | zero =>
    intro v2 σ H locs ls hf
    exact mm_no hf
  | succ fu ih =>
    intro v2 σ H locs ls hf hP hS hl
    rw [fx_X0_carry_L105] at hf
    refine lv_iload_n hx hb dX0_carry_105 rfl (lv_at hl 2 rfl) ?_
    refine lv_aload_n hx hb dX0_carry_106 rfl (lv_at hl 1 rfl) ?_
    refine gf_0_2 X hP hr1 wd_116 dX0_carry_107 ?_
    refine lv_icmp_ge (tgt := 144) hx hb dX0_carry_110 (by decide) (fun c_13 => ?_) (fun c_13 => ?_)
    · replace hf := mm_it c_13 hf
      obtain ⟨rfl, rfl⟩ := mm_ret hf
      exact mm_vret X hP hS dX0_carry_144
    · replace hf := mm_if c_13 hf
      refine lv_aload_n hx hb dX0_carry_113 rfl (lv_at hl 0 rfl) ?_
      refine gf_16_2 X hP  wd_194 dX0_carry_114 ?_
      refine lv_iload_n hx hb dX0_carry_117 rfl (lv_at hl 2 rfl) ?_
      obtain ⟨h_14, hf⟩ := mm_gd_ok hf
      refine al_19 X hP  h_14 dX0_carry_118 ?_
      refine lv_if_eq (tgt := 138) hx hb dX0_carry_119 (by decide) (fun c_15 => ?_) (fun c_15 => ?_)
      · replace hf := mm_it c_15 hf
        obtain ⟨y_16, e_16, hf⟩ := mm_li_ok hf
        refine lv_iinc (v := y_16) (lv' := [(2, .int y_16), (0, .ref (ad 7 16 0)), (1, .ref (ad r1 0 0))]) hx hb dX0_carry_138 hl (k := 2) rfl (by rw [e_16]; rfl) (by decide) rfl (fun ls hl => ?_)
        refine lv_goto (tgt := 105) hx hb dX0_carry_141 (by decide) ?_
        exact ih y_16 σ H locs ls  hf hP hS (lv_sub hl [1, 2, 0] rfl)
      · replace hf := mm_if c_15 hf
        refine lv_aload_n hx hb dX0_carry_122 rfl (lv_at hl 1 rfl) ?_
        refine lv_aload_n hx hb dX0_carry_123 rfl (lv_at hl 1 rfl) ?_
        refine gf_0_1 X hP hr1 wd_112 dX0_carry_124 ?_
        refine lv_iload_n hx hb dX0_carry_127 rfl (lv_at hl 2 rfl) ?_
        obtain ⟨h_17, hf⟩ := mm_gd_ok hf
        refine mm_cart X hP hr1 h_17 dX0_carry_128 ?_
        refine lv_aload_n hx hb dX0_carry_129 rfl (lv_at hl 0 rfl) ?_
        refine gf_16_1 X hP  wd_193 dX0_carry_130 ?_
        refine lv_iload_n hx hb dX0_carry_133 rfl (lv_at hl 2 rfl) ?_
        obtain ⟨h_18, hf⟩ := mm_gd_ok hf
        refine al_18 X hP  h_18 dX0_carry_134 ?_
        obtain ⟨r_19, s_19, e_19, hf⟩ := mm_bd_ok hf
        refine mm_callV X hP hS hl.1 [.ref (ad r1 6 v2.toNatClampNeg), .int (σ 7 18 0 v2.toNatClampNeg)] [] (cx_X8_enter l D ad cA hI r1 r1 v2.toNatClampNeg (σ 7 18 0 v2.toNatClampNeg) hr1 hr1 (mm_ix_lt h_17) σ r_19 s_19 e_19) (mm_kr r1 hr1 0 (by decide)) rfl rfl wd_635 wd_607 wd_608 wd_2 wd_609 hd_X8_enter ⟨Nat.le_of_ble_eq_true rfl, Nat.le_of_ble_eq_true rfl⟩ rfl (Nat.le_of_ble_eq_true rfl) dX0_carry_135 (fun H locs hP hS => ?_)
        obtain ⟨y_20, e_20, hf⟩ := mm_li_ok hf
        refine lv_iinc (v := y_20) (lv' := [(2, .int y_20), (0, .ref (ad 7 16 0)), (1, .ref (ad r1 0 0))]) hx hb dX0_carry_138 hl (k := 2) rfl (by rw [e_20]; rfl) (by decide) rfl (fun ls hl => ?_)
        refine lv_goto (tgt := 105) hx hb dX0_carry_141 (by decide) ?_
        exact ih y_20 s_19 H locs ls  hf hP hS (lv_sub hl [1, 2, 0] rfl)
def fx_X0_carry_L48 (r1 : Nat)  : Nat → Int32 → mm_M → mm_R
  | 0, _, _ => none
  | fu + 1, v2, σ => if (σ r1 0 0 2) ≤ v2 then fx_X0_carry_L105 r1 mm_FU (0 : Int32) σ else fx_X0_carry_L58 r1 (fun z0 z => fx_X0_carry_L48 r1 fu z0 z) mm_FU v2 (0 : Int32) σ
set_option maxHeartbeats 4000000 in
set_option maxRecDepth 100000 in
theorem cx_X0_carry_L48 {p : Program} {l : Launch} {e : Env} {s : State} {m : MethodId} {args : Array Value} {below : List Frame} {meth : Method} {c : Code} {D : va_G} {ad : mm_A} {cA : Nat → ClassId} (r1 : Nat) (hr1 : r1 < 6) (rv : Int32) (σ1 : mm_M)  (X : mm_X p s m args meth c cX0_carry 4 none RX0 D ad cA) : ∀ (fu : Nat), ∀ (v2 : Int32) (σ : mm_M) (H : Heap) (locs : List Loc) (ls : Array Slot), fx_X0_carry_L48 r1 fu v2 σ = some (rv, σ1) → va_P D vwCl (mm_wd ad cA σ) H → va_S (mm_AS ad) s.heap H locs → lv_has ls 4 [(0, .ref (ad 7 16 0)), (1, .ref (ad r1 0 0)), (2, .int v2)] → W p l e (mm_rm 2 47) s m args below meth c H locs 0 0 (MQ below (mm_Q D ad cA none σ1) args s 0 0 (mm_AS ad)) (F0 m 48 ls []) := by
  have hx := X.1
  have hb := X.2.1
  have hI := X.2.2.2.2.2.2.2.2.2
  intro fu
  induction fu with
  | zero =>
    intro v2 σ H locs ls hf
    exact mm_no hf
  | succ fu ih =>
    intro v2 σ H locs ls hf hP hS hl
    rw [fx_X0_carry_L48] at hf
    refine lv_iload_n hx hb dX0_carry_48 rfl (lv_at hl 2 rfl) ?_
    refine lv_aload_n hx hb dX0_carry_49 rfl (lv_at hl 1 rfl) ?_
    refine gf_0_2 X hP hr1 wd_116 dX0_carry_50 ?_
    refine lv_icmp_ge (tgt := 103) hx hb dX0_carry_53 (by decide) (fun c_12 => ?_) (fun c_12 => ?_)
    · replace hf := mm_it c_12 hf
      refine lv_iconst (v := (0 : Int32)) hx hb dX0_carry_103 (by decide) ?_
      refine lv_istore_n (lv' := [(2, .int (0 : Int32)), (0, .ref (ad 7 16 0)), (1, .ref (ad r1 0 0))]) hx hb dX0_carry_104 rfl hl (by decide) rfl (fun ls hl => ?_)
      exact cx_X0_carry_L105 r1 hr1 rv σ1 X mm_FU (0 : Int32) σ H locs ls hf hP hS (lv_sub hl [1, 2, 0] rfl)
    · replace hf := mm_if c_12 hf
      refine lv_iconst (v := (0 : Int32)) hx hb dX0_carry_56 (by decide) ?_
      refine lv_istore_n (lv' := [(3, .int (0 : Int32)), (0, .ref (ad 7 16 0)), (1, .ref (ad r1 0 0)), (2, .int v2)]) hx hb dX0_carry_57 rfl hl (by decide) rfl (fun ls hl => ?_)
      exact cx_X0_carry_L58 r1 hr1 rv σ1 (fun z0 z => fx_X0_carry_L48 r1 fu z0 z) ih X mm_FU v2 (0 : Int32) σ H locs ls hf hP hS (lv_sub hl [1, 2, 3, 0] rfl)
def fx_X0_carry_L7 (r1 : Nat)  : Nat → Int32 → mm_M → mm_R
  | 0, _, _ => none
  | fu + 1, v2, σ => if (σ r1 0 0 2) ≤ v2 then fx_X0_carry_L48 r1 mm_FU (0 : Int32) σ else mm_gd (mm_ix v2 4 = true) (if (σ 7 19 0 v2.toNatClampNeg) = (0 : Int32) then mm_li (v2 + (1 : Int32)) fun y_5 => (fx_X0_carry_L7 r1 fu y_5 σ) else mm_bd (fx_X0_isHindered r1 v2 σ) fun r_6 s_6 => (if r_6 = (0 : Int32) then mm_li (v2 + (1 : Int32)) fun y_8 => (fx_X0_carry_L7 r1 fu y_8 s_6) else mm_gd (mm_ix v2 4 = true) (mm_lt (mm_u s_6 7 19 0 v2.toNatClampNeg (0 : Int32)) fun s_10 => (mm_li (v2 + (1 : Int32)) fun y_11 => (fx_X0_carry_L7 r1 fu y_11 s_10)))))
set_option maxHeartbeats 4000000 in
set_option maxRecDepth 100000 in
theorem cx_X0_carry_L7 {p : Program} {l : Launch} {e : Env} {s : State} {m : MethodId} {args : Array Value} {below : List Frame} {meth : Method} {c : Code} {D : va_G} {ad : mm_A} {cA : Nat → ClassId} (r1 : Nat) (hr1 : r1 < 6) (rv : Int32) (σ1 : mm_M)  (X : mm_X p s m args meth c cX0_carry 4 none RX0 D ad cA) : ∀ (fu : Nat), ∀ (v2 : Int32) (σ : mm_M) (H : Heap) (locs : List Loc) (ls : Array Slot), fx_X0_carry_L7 r1 fu v2 σ = some (rv, σ1) → va_P D vwCl (mm_wd ad cA σ) H → va_S (mm_AS ad) s.heap H locs → lv_has ls 4 [(0, .ref (ad 7 16 0)), (1, .ref (ad r1 0 0)), (2, .int v2)] → W p l e (mm_rm 2 47) s m args below meth c H locs 0 0 (MQ below (mm_Q D ad cA none σ1) args s 0 0 (mm_AS ad)) (F0 m 7 ls []) := by
  have hx := X.1
  have hb := X.2.1
  have hI := X.2.2.2.2.2.2.2.2.2
  intro fu
  induction fu with
  | zero =>
    intro v2 σ H locs ls hf
    exact mm_no hf
  | succ fu ih =>
    intro v2 σ H locs ls hf hP hS hl
    rw [fx_X0_carry_L7] at hf
    refine lv_iload_n hx hb dX0_carry_7 rfl (lv_at hl 2 rfl) ?_
    refine lv_aload_n hx hb dX0_carry_8 rfl (lv_at hl 1 rfl) ?_
    refine gf_0_2 X hP hr1 wd_116 dX0_carry_9 ?_
    refine lv_icmp_ge (tgt := 46) hx hb dX0_carry_12 (by decide) (fun c_2 => ?_) (fun c_2 => ?_)
    · replace hf := mm_it c_2 hf
      refine lv_iconst (v := (0 : Int32)) hx hb dX0_carry_46 (by decide) ?_
      refine lv_istore_n (lv' := [(2, .int (0 : Int32)), (0, .ref (ad 7 16 0)), (1, .ref (ad r1 0 0))]) hx hb dX0_carry_47 rfl hl (by decide) rfl (fun ls hl => ?_)
      exact cx_X0_carry_L48 r1 hr1 rv σ1 X mm_FU (0 : Int32) σ H locs ls hf hP hS (lv_sub hl [1, 2, 0] rfl)
    · replace hf := mm_if c_2 hf
      refine lv_aload_n hx hb dX0_carry_15 rfl (lv_at hl 0 rfl) ?_
      refine gf_16_2 X hP  wd_194 dX0_carry_16 ?_
      refine lv_iload_n hx hb dX0_carry_19 rfl (lv_at hl 2 rfl) ?_
      obtain ⟨h_3, hf⟩ := mm_gd_ok hf
      refine al_19 X hP  h_3 dX0_carry_20 ?_
      refine lv_if_eq (tgt := 40) hx hb dX0_carry_21 (by decide) (fun c_4 => ?_) (fun c_4 => ?_)
      · replace hf := mm_it c_4 hf
        obtain ⟨y_5, e_5, hf⟩ := mm_li_ok hf
        refine lv_iinc (v := y_5) (lv' := [(2, .int y_5), (0, .ref (ad 7 16 0)), (1, .ref (ad r1 0 0))]) hx hb dX0_carry_40 hl (k := 2) rfl (by rw [e_5]; rfl) (by decide) rfl (fun ls hl => ?_)
        refine lv_goto (tgt := 7) hx hb dX0_carry_43 (by decide) ?_
        exact ih y_5 σ H locs ls  hf hP hS (lv_sub hl [1, 2, 0] rfl)
      · replace hf := mm_if c_4 hf
        refine lv_aload_n hx hb dX0_carry_24 rfl (lv_at hl 0 rfl) ?_
        refine lv_aload_n hx hb dX0_carry_25 rfl (lv_at hl 1 rfl) ?_
        refine lv_iload_n hx hb dX0_carry_26 rfl (lv_at hl 2 rfl) ?_
        obtain ⟨r_6, s_6, e_6, hf⟩ := mm_bd_ok hf
        refine mm_callV X hP hS hl.1 [.ref (ad r1 0 0), .int v2] [] (cx_X0_isHindered l D ad cA hI r1 v2 hr1 σ r_6 s_6 e_6) kp_16 rfl rfl wd_626 wd_628 wp_7 wd_8 wd_629 hd_X0_isHindered ⟨Nat.le_of_ble_eq_true rfl, Nat.le_of_ble_eq_true rfl⟩ rfl (Nat.le_of_ble_eq_true rfl) dX0_carry_27 (fun H locs hP hS => ?_)
        refine lv_if_eq (tgt := 40) hx hb dX0_carry_30 (by decide) (fun c_7 => ?_) (fun c_7 => ?_)
        · replace hf := mm_it c_7 hf
          obtain ⟨y_8, e_8, hf⟩ := mm_li_ok hf
          refine lv_iinc (v := y_8) (lv' := [(2, .int y_8), (0, .ref (ad 7 16 0)), (1, .ref (ad r1 0 0))]) hx hb dX0_carry_40 hl (k := 2) rfl (by rw [e_8]; rfl) (by decide) rfl (fun ls hl => ?_)
          refine lv_goto (tgt := 7) hx hb dX0_carry_43 (by decide) ?_
          exact ih y_8 s_6 H locs ls  hf hP hS (lv_sub hl [1, 2, 0] rfl)
        · replace hf := mm_if c_7 hf
          refine lv_aload_n hx hb dX0_carry_33 rfl (lv_at hl 0 rfl) ?_
          refine gf_16_2 X hP  wd_194 dX0_carry_34 ?_
          refine lv_iload_n hx hb dX0_carry_37 rfl (lv_at hl 2 rfl) ?_
          refine lv_iconst (v := (0 : Int32)) hx hb dX0_carry_38 (by decide) ?_
          obtain ⟨h_9, hf⟩ := mm_gd_ok hf
          refine as_19 X hP hS  h_9 (by decide) dX0_carry_39 (fun H locs hP hS => ?_)
          obtain ⟨s_10, e_10, hf⟩ := mm_lt_ok hf
          rw [← e_10] at hP
          obtain ⟨y_11, e_11, hf⟩ := mm_li_ok hf
          refine lv_iinc (v := y_11) (lv' := [(2, .int y_11), (0, .ref (ad 7 16 0)), (1, .ref (ad r1 0 0))]) hx hb dX0_carry_40 hl (k := 2) rfl (by rw [e_11]; rfl) (by decide) rfl (fun ls hl => ?_)
          refine lv_goto (tgt := 7) hx hb dX0_carry_43 (by decide) ?_
          exact ih y_11 s_10 H locs ls  hf hP hS (lv_sub hl [1, 2, 0] rfl)
def fx_X0_carry (r1 : Nat) (σ : mm_M) : mm_R := mm_bd (fx_X0_askAll r1 σ) fun _ s_1 => (fx_X0_carry_L7 r1 mm_FU (0 : Int32) s_1)
set_option maxHeartbeats 4000000 in
set_option maxRecDepth 100000 in
theorem cx_X0_carry (l : Launch) (D : va_G) (ad : mm_A) (cA : Nat → ClassId) (hI : mm_Inj ad) (r1 : Nat) (hr1 : r1 < 6) (σ : mm_M) (rv : Int32) (σ1 : mm_M) (hf : fx_X0_carry r1 σ = some (rv, σ1)) : Met l yX0_carry (Cond.code yX0_carry cX0_carry 4 none :: tb) (mm_rm 2 47) (mm_pre D ad cA [.ref (ad 7 16 0), .ref (ad r1 0 0)] σ) (mm_Q D ad cA none σ1) 0 0 (mm_AS ad) := by
  refine mm_start (by decide +kernel) hI (Nat.le_of_ble_eq_true rfl) ?_
  intro p e s m args below meth c X hP ls hl
  have hl : lv_has ls 4 [(0, .ref (ad 7 16 0)), (1, .ref (ad r1 0 0))] := hl
  have hx := X.1
  have hb := X.2.1
  have hS : va_S (mm_AS ad) s.heap s.heap [] := va_S.rf
  have hgen : ∀ (H : Heap) (locs : List Loc), va_P D vwCl (mm_wd ad cA σ) H → va_S (mm_AS ad) s.heap H locs → W p l e (mm_rm 2 47) s m args below meth c H locs 0 0 (MQ below (mm_Q D ad cA none σ1) args s 0 0 (mm_AS ad)) (F0 m 0 ls []) := by
    intro H locs hP hS
    rw [fx_X0_carry] at hf
    refine lv_aload_n hx hb dX0_carry_0 rfl (lv_at hl 0 rfl) ?_
    refine lv_aload_n hx hb dX0_carry_1 rfl (lv_at hl 1 rfl) ?_
    obtain ⟨r_1, s_1, e_1, hf⟩ := mm_bd_ok hf
    refine mm_callV X hP hS hl.1 [.ref (ad r1 0 0)] [] (cx_X0_askAll l D ad cA hI r1 hr1 σ r_1 s_1 e_1) kp_16 rfl rfl wd_619 wd_621 wp_6 wd_8 wd_622 hd_X0_askAll ⟨Nat.le_of_ble_eq_true rfl, Nat.le_of_ble_eq_true rfl⟩ rfl (Nat.le_of_ble_eq_true rfl) dX0_carry_2 (fun H locs hP hS => ?_)
    refine lv_iconst (v := (0 : Int32)) hx hb dX0_carry_5 (by decide) ?_
    refine lv_istore_n (lv' := [(2, .int (0 : Int32)), (0, .ref (ad 7 16 0)), (1, .ref (ad r1 0 0))]) hx hb dX0_carry_6 rfl hl (by decide) rfl (fun ls hl => ?_)
    exact cx_X0_carry_L7 r1 hr1 rv σ1 X mm_FU (0 : Int32) s_1 H locs ls hf hP hS (lv_sub hl [1, 2, 0] rfl)
  exact hgen _ _ hP hS
def fx_X8_turnOnGears_L2 (r0 : Nat)  : Nat → Int32 → mm_M → mm_R
  | 0, _, _ => none
  | fu + 1, v1, σ => if (σ r0 0 0 2) ≤ v1 then some (0, σ) else mm_gd (mm_ix v1 4 = true) (mm_bd (fx_X1_kindOn r0 (σ r0 6 v1.toNatClampNeg 3) σ) fun r_3 s_3 => (if r_3 = (5 : Int32) then mm_bd (fx_X10_turned (s_3 r0 6 v1.toNatClampNeg 4) (3 : Int32) s_3) fun r_10 s_10 => (mm_lt (mm_u s_10 r0 6 v1.toNatClampNeg 4 r_10) fun s_11 => (mm_li (v1 + (1 : Int32)) fun y_12 => (fx_X8_turnOnGears_L2 r0 fu y_12 s_11))) else if r_3 = (6 : Int32) then mm_bd (fx_X10_turned (s_3 r0 6 v1.toNatClampNeg 4) (1 : Int32) s_3) fun r_7 s_7 => (mm_lt (mm_u s_7 r0 6 v1.toNatClampNeg 4 r_7) fun s_8 => (mm_li (v1 + (1 : Int32)) fun y_9 => (fx_X8_turnOnGears_L2 r0 fu y_9 s_8))) else mm_li (v1 + (1 : Int32)) fun y_6 => (fx_X8_turnOnGears_L2 r0 fu y_6 s_3)))
set_option maxHeartbeats 4000000 in
set_option maxRecDepth 100000 in
theorem cx_X8_turnOnGears_L2 {p : Program} {l : Launch} {e : Env} {s : State} {m : MethodId} {args : Array Value} {below : List Frame} {meth : Method} {c : Code} {D : va_G} {ad : mm_A} {cA : Nat → ClassId} (r0 : Nat) (hr0 : r0 < 6) (rv : Int32) (σ1 : mm_M)  (X : mm_X p s m args meth c cX8_turnOnGears 4 none RX8 D ad cA) : ∀ (fu : Nat), ∀ (v1 : Int32) (σ : mm_M) (H : Heap) (locs : List Loc) (ls : Array Slot), fx_X8_turnOnGears_L2 r0 fu v1 σ = some (rv, σ1) → va_P D vwCl (mm_wd ad cA σ) H → va_S (mm_AS ad) s.heap H locs → lv_has ls 4 [(0, .ref (ad r0 0 0)), (1, .int v1)] → W p l e (mm_rm 1 21) s m args below meth c H locs 0 0 (MQ below (mm_Q D ad cA none σ1) args s 0 0 (mm_AS ad)) (F0 m 2 ls []) := by
  have hx := X.1
  have hb := X.2.1
  have hI := X.2.2.2.2.2.2.2.2.2
  intro fu
  induction fu with
  | zero =>
    intro v1 σ H locs ls hf
    exact mm_no hf
  | succ fu ih =>
    intro v1 σ H locs ls hf hP hS hl
    rw [fx_X8_turnOnGears_L2] at hf
    refine lv_iload_n hx hb dX8_turnOnGears_2 rfl (lv_at hl 1 rfl) ?_
    refine lv_aload_n hx hb dX8_turnOnGears_3 rfl (lv_at hl 0 rfl) ?_
    refine gf_0_2 X hP hr0 wd_117 dX8_turnOnGears_4 ?_
    refine lv_icmp_ge (tgt := 73) hx hb dX8_turnOnGears_7 (by decide) (fun c_1 => ?_) (fun c_1 => ?_)
    · replace hf := mm_it c_1 hf
      obtain ⟨rfl, rfl⟩ := mm_ret hf
      exact mm_vret X hP hS dX8_turnOnGears_73
    · replace hf := mm_if c_1 hf
      refine lv_aload_n hx hb dX8_turnOnGears_10 rfl (lv_at hl 0 rfl) ?_
      refine gf_0_1 X hP hr0 wd_110 dX8_turnOnGears_11 ?_
      refine lv_iload_n hx hb dX8_turnOnGears_14 rfl (lv_at hl 1 rfl) ?_
      obtain ⟨h_2, hf⟩ := mm_gd_ok hf
      refine mm_cart X hP hr0 h_2 dX8_turnOnGears_15 ?_
      refine lv_astore_n (lv' := [(2, .ref (ad r0 6 v1.toNatClampNeg)), (0, .ref (ad r0 0 0)), (1, .int v1)]) hx hb dX8_turnOnGears_16 rfl hl (by decide) rfl (fun ls hl => ?_)
      refine lv_aload_n hx hb dX8_turnOnGears_17 rfl (lv_at hl 1 rfl) ?_
      refine gf_0_0 X hP hr0 wd_106 dX8_turnOnGears_18 ?_
      refine lv_aload_n hx hb dX8_turnOnGears_21 rfl (lv_at hl 0 rfl) ?_
      refine gf_6_3 X hP hr0 (mm_ix_lt h_2) wd_72 dX8_turnOnGears_22 ?_
      obtain ⟨r_3, s_3, e_3, hf⟩ := mm_bd_ok hf
      refine mm_callV X hP hS hl.1 [.int (σ r0 6 v1.toNatClampNeg 3)] [] (cx_X1_kindOn l D ad cA hI r0 (σ r0 6 v1.toNatClampNeg 3) hr0 σ r_3 s_3 e_3) (mm_kr r0 hr0 1 (by decide)) rfl rfl wd_371 wd_372 wd_373 wd_3 wd_374 hd_X1_kindOn ⟨Nat.le_of_ble_eq_true rfl, Nat.le_of_ble_eq_true rfl⟩ rfl (Nat.le_of_ble_eq_true rfl) dX8_turnOnGears_25 (fun H locs hP hS => ?_)
      refine lv_istore_n (lv' := [(3, .int r_3), (2, .ref (ad r0 6 v1.toNatClampNeg)), (0, .ref (ad r0 0 0)), (1, .int v1)]) hx hb dX8_turnOnGears_28 rfl hl (by decide) rfl (fun ls hl => ?_)
      refine lv_iload_n hx hb dX8_turnOnGears_29 rfl (lv_at hl 0 rfl) ?_
      refine lv_iconst (v := (5 : Int32)) hx hb dX8_turnOnGears_30 (by decide) ?_
      refine lv_icmp_ne (tgt := 49) hx hb dX8_turnOnGears_31 (by decide) (fun c_4 => ?_) (fun c_4 => ?_)
      · replace hf := mm_if c_4 hf
        refine lv_iload_n hx hb dX8_turnOnGears_49 rfl (lv_at hl 0 rfl) ?_
        refine lv_bipush (v := (6 : Int32)) hx hb dX8_turnOnGears_50 (by decide) ?_
        refine lv_icmp_ne (tgt := 67) hx hb dX8_turnOnGears_52 (by decide) (fun c_5 => ?_) (fun c_5 => ?_)
        · replace hf := mm_if c_5 hf
          obtain ⟨y_6, e_6, hf⟩ := mm_li_ok hf
          refine lv_iinc (v := y_6) (lv' := [(1, .int y_6), (3, .int r_3), (2, .ref (ad r0 6 v1.toNatClampNeg)), (0, .ref (ad r0 0 0))]) hx hb dX8_turnOnGears_67 hl (k := 3) rfl (by rw [e_6]; rfl) (by decide) rfl (fun ls hl => ?_)
          refine lv_goto (tgt := 2) hx hb dX8_turnOnGears_70 (by decide) ?_
          exact ih y_6 s_3 H locs ls  hf hP hS (lv_sub hl [3, 0] rfl)
        · replace hf := mm_it c_5 hf
          refine lv_aload_n hx hb dX8_turnOnGears_55 rfl (lv_at hl 1 rfl) ?_
          refine lv_aload_n hx hb dX8_turnOnGears_56 rfl (lv_at hl 1 rfl) ?_
          refine gf_6_4 X hP hr0 (mm_ix_lt h_2) wd_77 dX8_turnOnGears_57 ?_
          refine lv_iconst (v := (1 : Int32)) hx hb dX8_turnOnGears_60 (by decide) ?_
          obtain ⟨r_7, s_7, e_7, hf⟩ := mm_bd_ok hf
          refine mm_callN (host := "LockedCarts") X hP hS hl.1 [.int (s_3 r0 6 v1.toNatClampNeg 4), .int (1 : Int32)] [.ref (ad r0 6 v1.toNatClampNeg)] (cx_X10_turned l D ad cA hI (s_3 r0 6 v1.toNatClampNeg 4) (1 : Int32) s_3 r_7 s_7 e_7) nw_16 wd_512 wd_1 wd_513 hd_X10_turned ⟨Nat.le_of_ble_eq_true rfl, Nat.le_of_ble_eq_true rfl⟩ rfl (Nat.le_of_ble_eq_true rfl) dX8_turnOnGears_61 (fun H locs hP hS => ?_)
          refine pf_6_4 X hP hS hr0 (mm_ix_lt h_2) wd_77  dX8_turnOnGears_64 (fun H locs hP hS => ?_)
          obtain ⟨s_8, e_8, hf⟩ := mm_lt_ok hf
          rw [← e_8] at hP
          obtain ⟨y_9, e_9, hf⟩ := mm_li_ok hf
          refine lv_iinc (v := y_9) (lv' := [(1, .int y_9), (3, .int r_3), (2, .ref (ad r0 6 v1.toNatClampNeg)), (0, .ref (ad r0 0 0))]) hx hb dX8_turnOnGears_67 hl (k := 3) rfl (by rw [e_9]; rfl) (by decide) rfl (fun ls hl => ?_)
          refine lv_goto (tgt := 2) hx hb dX8_turnOnGears_70 (by decide) ?_
          exact ih y_9 s_8 H locs ls  hf hP hS (lv_sub hl [3, 0] rfl)
      · replace hf := mm_it c_4 hf
        refine lv_aload_n hx hb dX8_turnOnGears_34 rfl (lv_at hl 1 rfl) ?_
        refine lv_aload_n hx hb dX8_turnOnGears_35 rfl (lv_at hl 1 rfl) ?_
        refine gf_6_4 X hP hr0 (mm_ix_lt h_2) wd_77 dX8_turnOnGears_36 ?_
        refine lv_iconst (v := (3 : Int32)) hx hb dX8_turnOnGears_39 (by decide) ?_
        obtain ⟨r_10, s_10, e_10, hf⟩ := mm_bd_ok hf
        refine mm_callN (host := "LockedCarts") X hP hS hl.1 [.int (s_3 r0 6 v1.toNatClampNeg 4), .int (3 : Int32)] [.ref (ad r0 6 v1.toNatClampNeg)] (cx_X10_turned l D ad cA hI (s_3 r0 6 v1.toNatClampNeg 4) (3 : Int32) s_3 r_10 s_10 e_10) nw_16 wd_512 wd_1 wd_513 hd_X10_turned ⟨Nat.le_of_ble_eq_true rfl, Nat.le_of_ble_eq_true rfl⟩ rfl (Nat.le_of_ble_eq_true rfl) dX8_turnOnGears_40 (fun H locs hP hS => ?_)
        refine pf_6_4 X hP hS hr0 (mm_ix_lt h_2) wd_77  dX8_turnOnGears_43 (fun H locs hP hS => ?_)
        obtain ⟨s_11, e_11, hf⟩ := mm_lt_ok hf
        rw [← e_11] at hP
        refine lv_goto (tgt := 67) hx hb dX8_turnOnGears_46 (by decide) ?_
        obtain ⟨y_12, e_12, hf⟩ := mm_li_ok hf
        refine lv_iinc (v := y_12) (lv' := [(1, .int y_12), (3, .int r_3), (2, .ref (ad r0 6 v1.toNatClampNeg)), (0, .ref (ad r0 0 0))]) hx hb dX8_turnOnGears_67 hl (k := 3) rfl (by rw [e_12]; rfl) (by decide) rfl (fun ls hl => ?_)
        refine lv_goto (tgt := 2) hx hb dX8_turnOnGears_70 (by decide) ?_
        exact ih y_12 s_11 H locs ls  hf hP hS (lv_sub hl [3, 0] rfl)
def fx_X8_turnOnGears (r0 : Nat) (σ : mm_M) : mm_R := fx_X8_turnOnGears_L2 r0 mm_FU (0 : Int32) σ
set_option maxHeartbeats 4000000 in
set_option maxRecDepth 100000 in
theorem cx_X8_turnOnGears (l : Launch) (D : va_G) (ad : mm_A) (cA : Nat → ClassId) (hI : mm_Inj ad) (r0 : Nat) (hr0 : r0 < 6) (σ : mm_M) (rv : Int32) (σ1 : mm_M) (hf : fx_X8_turnOnGears r0 σ = some (rv, σ1)) : Met l yX8_turnOnGears (Cond.code yX8_turnOnGears cX8_turnOnGears 4 none :: tb) (mm_rm 1 21) (mm_pre D ad cA [.ref (ad r0 0 0)] σ) (mm_Q D ad cA none σ1) 0 0 (mm_AS ad) := by
  refine mm_start (by decide +kernel) hI (Nat.le_of_ble_eq_true rfl) ?_
  intro p e s m args below meth c X hP ls hl
  have hl : lv_has ls 4 [(0, .ref (ad r0 0 0))] := hl
  have hx := X.1
  have hb := X.2.1
  have hS : va_S (mm_AS ad) s.heap s.heap [] := va_S.rf
  have hgen : ∀ (H : Heap) (locs : List Loc), va_P D vwCl (mm_wd ad cA σ) H → va_S (mm_AS ad) s.heap H locs → W p l e (mm_rm 1 21) s m args below meth c H locs 0 0 (MQ below (mm_Q D ad cA none σ1) args s 0 0 (mm_AS ad)) (F0 m 0 ls []) := by
    intro H locs hP hS
    rw [fx_X8_turnOnGears] at hf
    refine lv_iconst (v := (0 : Int32)) hx hb dX8_turnOnGears_0 (by decide) ?_
    refine lv_istore_n (lv' := [(1, .int (0 : Int32)), (0, .ref (ad r0 0 0))]) hx hb dX8_turnOnGears_1 rfl hl (by decide) rfl (fun ls hl => ?_)
    exact cx_X8_turnOnGears_L2 r0 hr0 rv σ1 X mm_FU (0 : Int32) σ H locs ls hf hP hS (lv_sub hl [1, 0] rfl)
  exact hgen _ _ hP hS
def fx_X8_touchFlags_L2 (r0 : Nat)  : Nat → Int32 → mm_M → mm_R
  | 0, _, _ => none
  | fu + 1, v1, σ => if (σ r0 0 0 2) ≤ v1 then some (0, σ) else mm_gd (mm_ix v1 4 = true) (if (σ r0 1 0 3) ≤ (σ r0 6 v1.toNatClampNeg 6) then mm_li (v1 + (1 : Int32)) fun y_4 => (fx_X8_touchFlags_L2 r0 fu y_4 σ) else mm_gd (mm_ix (σ r0 6 v1.toNatClampNeg 6) 4 = true) (if (σ r0 4 0 (σ r0 6 v1.toNatClampNeg 6).toNatClampNeg) = (σ r0 6 v1.toNatClampNeg 3) then mm_lt (mm_u σ r0 6 v1.toNatClampNeg 6 ((σ r0 6 v1.toNatClampNeg 6) + (1 : Int32))) fun s_8 => (if (s_8 r0 0 0 7) = (-1 : Int32) then if (s_8 r0 6 v1.toNatClampNeg 6) = (s_8 r0 1 0 3) then mm_lt (mm_u s_8 r0 0 0 7 v1) fun s_13 => (mm_li (v1 + (1 : Int32)) fun y_14 => (fx_X8_touchFlags_L2 r0 fu y_14 s_13)) else mm_li (v1 + (1 : Int32)) fun y_12 => (fx_X8_touchFlags_L2 r0 fu y_12 s_8) else mm_li (v1 + (1 : Int32)) fun y_10 => (fx_X8_touchFlags_L2 r0 fu y_10 s_8)) else mm_li (v1 + (1 : Int32)) fun y_7 => (fx_X8_touchFlags_L2 r0 fu y_7 σ)))
set_option maxHeartbeats 4000000 in
set_option maxRecDepth 100000 in
theorem cx_X8_touchFlags_L2 {p : Program} {l : Launch} {e : Env} {s : State} {m : MethodId} {args : Array Value} {below : List Frame} {meth : Method} {c : Code} {D : va_G} {ad : mm_A} {cA : Nat → ClassId} (r0 : Nat) (hr0 : r0 < 6) (rv : Int32) (σ1 : mm_M)  (X : mm_X p s m args meth c cX8_touchFlags 3 none RX8 D ad cA) : ∀ (fu : Nat), ∀ (v1 : Int32) (σ : mm_M) (H : Heap) (locs : List Loc) (ls : Array Slot), fx_X8_touchFlags_L2 r0 fu v1 σ = some (rv, σ1) → va_P D vwCl (mm_wd ad cA σ) H → va_S (mm_AS ad) s.heap H locs → lv_has ls 3 [(0, .ref (ad r0 0 0)), (1, .int v1)] → W p l e (mm_rm 0 0) s m args below meth c H locs 0 0 (MQ below (mm_Q D ad cA none σ1) args s 0 0 (mm_AS ad)) (F0 m 2 ls []) := by
  have hx := X.1
  have hb := X.2.1
  have hI := X.2.2.2.2.2.2.2.2.2
  intro fu
  induction fu with
  | zero =>
    intro v1 σ H locs ls hf
    exact mm_no hf
  | succ fu ih =>
    intro v1 σ H locs ls hf hP hS hl
    rw [fx_X8_touchFlags_L2] at hf
    refine lv_iload_n hx hb dX8_touchFlags_2 rfl (lv_at hl 1 rfl) ?_
    refine lv_aload_n hx hb dX8_touchFlags_3 rfl (lv_at hl 0 rfl) ?_
    refine gf_0_2 X hP hr0 wd_117 dX8_touchFlags_4 ?_
    refine lv_icmp_ge (tgt := 93) hx hb dX8_touchFlags_7 (by decide) (fun c_1 => ?_) (fun c_1 => ?_)
    · replace hf := mm_it c_1 hf
      obtain ⟨rfl, rfl⟩ := mm_ret hf
      exact mm_vret X hP hS dX8_touchFlags_93
    · replace hf := mm_if c_1 hf
      refine lv_aload_n hx hb dX8_touchFlags_10 rfl (lv_at hl 0 rfl) ?_
      refine gf_0_1 X hP hr0 wd_110 dX8_touchFlags_11 ?_
      refine lv_iload_n hx hb dX8_touchFlags_14 rfl (lv_at hl 1 rfl) ?_
      obtain ⟨h_2, hf⟩ := mm_gd_ok hf
      refine mm_cart X hP hr0 h_2 dX8_touchFlags_15 ?_
      refine lv_astore_n (lv' := [(2, .ref (ad r0 6 v1.toNatClampNeg)), (0, .ref (ad r0 0 0)), (1, .int v1)]) hx hb dX8_touchFlags_16 rfl hl (by decide) rfl (fun ls hl => ?_)
      refine lv_aload_n hx hb dX8_touchFlags_17 rfl (lv_at hl 0 rfl) ?_
      refine gf_6_6 X hP hr0 (mm_ix_lt h_2) wd_82 dX8_touchFlags_18 ?_
      refine lv_aload_n hx hb dX8_touchFlags_21 rfl (lv_at hl 1 rfl) ?_
      refine gf_0_0 X hP hr0 wd_106 dX8_touchFlags_22 ?_
      refine gf_1_3 X hP hr0 wd_43 dX8_touchFlags_25 ?_
      refine lv_icmp_ge (tgt := 87) hx hb dX8_touchFlags_28 (by decide) (fun c_3 => ?_) (fun c_3 => ?_)
      · replace hf := mm_it c_3 hf
        obtain ⟨y_4, e_4, hf⟩ := mm_li_ok hf
        refine lv_iinc (v := y_4) (lv' := [(1, .int y_4), (2, .ref (ad r0 6 v1.toNatClampNeg)), (0, .ref (ad r0 0 0))]) hx hb dX8_touchFlags_87 hl (k := 2) rfl (by rw [e_4]; rfl) (by decide) rfl (fun ls hl => ?_)
        refine lv_goto (tgt := 2) hx hb dX8_touchFlags_90 (by decide) ?_
        exact ih y_4 σ H locs ls  hf hP hS (lv_sub hl [2, 0] rfl)
      · replace hf := mm_if c_3 hf
        refine lv_aload_n hx hb dX8_touchFlags_31 rfl (lv_at hl 1 rfl) ?_
        refine gf_0_0 X hP hr0 wd_106 dX8_touchFlags_32 ?_
        refine gf_1_2 X hP hr0 wd_40 dX8_touchFlags_35 ?_
        refine lv_aload_n hx hb dX8_touchFlags_38 rfl (lv_at hl 0 rfl) ?_
        refine gf_6_6 X hP hr0 (mm_ix_lt h_2) wd_82 dX8_touchFlags_39 ?_
        obtain ⟨h_5, hf⟩ := mm_gd_ok hf
        refine al_4 X hP hr0 h_5 dX8_touchFlags_42 ?_
        refine lv_aload_n hx hb dX8_touchFlags_43 rfl (lv_at hl 0 rfl) ?_
        refine gf_6_3 X hP hr0 (mm_ix_lt h_2) wd_72 dX8_touchFlags_44 ?_
        refine lv_icmp_ne (tgt := 87) hx hb dX8_touchFlags_47 (by decide) (fun c_6 => ?_) (fun c_6 => ?_)
        · replace hf := mm_if c_6 hf
          obtain ⟨y_7, e_7, hf⟩ := mm_li_ok hf
          refine lv_iinc (v := y_7) (lv' := [(1, .int y_7), (2, .ref (ad r0 6 v1.toNatClampNeg)), (0, .ref (ad r0 0 0))]) hx hb dX8_touchFlags_87 hl (k := 2) rfl (by rw [e_7]; rfl) (by decide) rfl (fun ls hl => ?_)
          refine lv_goto (tgt := 2) hx hb dX8_touchFlags_90 (by decide) ?_
          exact ih y_7 σ H locs ls  hf hP hS (lv_sub hl [2, 0] rfl)
        · replace hf := mm_it c_6 hf
          refine lv_aload_n hx hb dX8_touchFlags_50 rfl (lv_at hl 0 rfl) ?_
          refine lv_dup hx hb dX8_touchFlags_51 rfl ?_
          refine gf_6_6 X hP hr0 (mm_ix_lt h_2) wd_82 dX8_touchFlags_52 ?_
          refine lv_iconst (v := (1 : Int32)) hx hb dX8_touchFlags_55 (by decide) ?_
          refine lv_iadd hx hb dX8_touchFlags_56 ?_
          refine pf_6_6 X hP hS hr0 (mm_ix_lt h_2) wd_82  dX8_touchFlags_57 (fun H locs hP hS => ?_)
          obtain ⟨s_8, e_8, hf⟩ := mm_lt_ok hf
          rw [← e_8] at hP
          refine lv_aload_n hx hb dX8_touchFlags_60 rfl (lv_at hl 1 rfl) ?_
          refine gf_0_7 X hP hr0 wd_130 dX8_touchFlags_61 ?_
          refine lv_iconst (v := (-1 : Int32)) hx hb dX8_touchFlags_64 (by decide) ?_
          refine lv_icmp_ne (tgt := 87) hx hb dX8_touchFlags_65 (by decide) (fun c_9 => ?_) (fun c_9 => ?_)
          · replace hf := mm_if c_9 hf
            obtain ⟨y_10, e_10, hf⟩ := mm_li_ok hf
            refine lv_iinc (v := y_10) (lv' := [(1, .int y_10), (2, .ref (ad r0 6 v1.toNatClampNeg)), (0, .ref (ad r0 0 0))]) hx hb dX8_touchFlags_87 hl (k := 2) rfl (by rw [e_10]; rfl) (by decide) rfl (fun ls hl => ?_)
            refine lv_goto (tgt := 2) hx hb dX8_touchFlags_90 (by decide) ?_
            exact ih y_10 s_8 H locs ls  hf hP hS (lv_sub hl [2, 0] rfl)
          · replace hf := mm_it c_9 hf
            refine lv_aload_n hx hb dX8_touchFlags_68 rfl (lv_at hl 0 rfl) ?_
            refine gf_6_6 X hP hr0 (mm_ix_lt h_2) wd_82 dX8_touchFlags_69 ?_
            refine lv_aload_n hx hb dX8_touchFlags_72 rfl (lv_at hl 1 rfl) ?_
            refine gf_0_0 X hP hr0 wd_106 dX8_touchFlags_73 ?_
            refine gf_1_3 X hP hr0 wd_43 dX8_touchFlags_76 ?_
            refine lv_icmp_ne (tgt := 87) hx hb dX8_touchFlags_79 (by decide) (fun c_11 => ?_) (fun c_11 => ?_)
            · replace hf := mm_if c_11 hf
              obtain ⟨y_12, e_12, hf⟩ := mm_li_ok hf
              refine lv_iinc (v := y_12) (lv' := [(1, .int y_12), (2, .ref (ad r0 6 v1.toNatClampNeg)), (0, .ref (ad r0 0 0))]) hx hb dX8_touchFlags_87 hl (k := 2) rfl (by rw [e_12]; rfl) (by decide) rfl (fun ls hl => ?_)
              refine lv_goto (tgt := 2) hx hb dX8_touchFlags_90 (by decide) ?_
              exact ih y_12 s_8 H locs ls  hf hP hS (lv_sub hl [2, 0] rfl)
            · replace hf := mm_it c_11 hf
              refine lv_aload_n hx hb dX8_touchFlags_82 rfl (lv_at hl 1 rfl) ?_
              refine lv_iload_n hx hb dX8_touchFlags_83 rfl (lv_at hl 2 rfl) ?_
              refine pf_0_7 X hP hS hr0 wd_130  dX8_touchFlags_84 (fun H locs hP hS => ?_)
              obtain ⟨s_13, e_13, hf⟩ := mm_lt_ok hf
              rw [← e_13] at hP
              obtain ⟨y_14, e_14, hf⟩ := mm_li_ok hf
              refine lv_iinc (v := y_14) (lv' := [(1, .int y_14), (2, .ref (ad r0 6 v1.toNatClampNeg)), (0, .ref (ad r0 0 0))]) hx hb dX8_touchFlags_87 hl (k := 2) rfl (by rw [e_14]; rfl) (by decide) rfl (fun ls hl => ?_)
              refine lv_goto (tgt := 2) hx hb dX8_touchFlags_90 (by decide) ?_
              exact ih y_14 s_13 H locs ls  hf hP hS (lv_sub hl [2, 0] rfl)
def fx_X8_touchFlags (r0 : Nat) (σ : mm_M) : mm_R := fx_X8_touchFlags_L2 r0 mm_FU (0 : Int32) σ
set_option maxHeartbeats 4000000 in
set_option maxRecDepth 100000 in
theorem cx_X8_touchFlags (l : Launch) (D : va_G) (ad : mm_A) (cA : Nat → ClassId) (hI : mm_Inj ad) (r0 : Nat) (hr0 : r0 < 6) (σ : mm_M) (rv : Int32) (σ1 : mm_M) (hf : fx_X8_touchFlags r0 σ = some (rv, σ1)) : Met l yX8_touchFlags (Cond.code yX8_touchFlags cX8_touchFlags 3 none :: tb) (mm_rm 0 0) (mm_pre D ad cA [.ref (ad r0 0 0)] σ) (mm_Q D ad cA none σ1) 0 0 (mm_AS ad) := by
  refine mm_start (by decide +kernel) hI (Nat.le_of_ble_eq_true rfl) ?_
  intro p e s m args below meth c X hP ls hl
  have hl : lv_has ls 3 [(0, .ref (ad r0 0 0))] := hl
  have hx := X.1
  have hb := X.2.1
  have hS : va_S (mm_AS ad) s.heap s.heap [] := va_S.rf
  have hgen : ∀ (H : Heap) (locs : List Loc), va_P D vwCl (mm_wd ad cA σ) H → va_S (mm_AS ad) s.heap H locs → W p l e (mm_rm 0 0) s m args below meth c H locs 0 0 (MQ below (mm_Q D ad cA none σ1) args s 0 0 (mm_AS ad)) (F0 m 0 ls []) := by
    intro H locs hP hS
    rw [fx_X8_touchFlags] at hf
    refine lv_iconst (v := (0 : Int32)) hx hb dX8_touchFlags_0 (by decide) ?_
    refine lv_istore_n (lv' := [(1, .int (0 : Int32)), (0, .ref (ad r0 0 0))]) hx hb dX8_touchFlags_1 rfl hl (by decide) rfl (fun ls hl => ?_)
    exact cx_X8_touchFlags_L2 r0 hr0 rv σ1 X mm_FU (0 : Int32) σ H locs ls hf hP hS (lv_sub hl [1, 0] rfl)
  exact hgen _ _ hP hS
def fx_X8_countPhase (r0 : Nat) (σ : mm_M) : mm_R := mm_lt (mm_u σ r0 0 0 5 ((σ r0 0 0 5) + (1 : Int32))) fun s_1 => (mm_lt (mm_u s_1 r0 0 0 3 ((s_1 r0 0 0 3) + (1 : Int32))) fun s_2 => (if (s_2 r0 0 0 3) = (5 : Int32) then mm_lt (mm_u s_2 r0 0 0 3 (0 : Int32)) fun s_4 => (mm_lt (mm_u s_4 r0 0 0 4 ((s_4 r0 0 0 4) + (1 : Int32))) fun s_5 => (some (0, s_5))) else some (0, s_2)))
set_option maxHeartbeats 4000000 in
set_option maxRecDepth 100000 in
theorem cx_X8_countPhase (l : Launch) (D : va_G) (ad : mm_A) (cA : Nat → ClassId) (hI : mm_Inj ad) (r0 : Nat) (hr0 : r0 < 6) (σ : mm_M) (rv : Int32) (σ1 : mm_M) (hf : fx_X8_countPhase r0 σ = some (rv, σ1)) : Met l yX8_countPhase (Cond.code yX8_countPhase cX8_countPhase 1 none :: tb) (mm_rm 0 0) (mm_pre D ad cA [.ref (ad r0 0 0)] σ) (mm_Q D ad cA none σ1) 0 0 (mm_AS ad) := by
  refine mm_start (by decide +kernel) hI (Nat.le_of_ble_eq_true rfl) ?_
  intro p e s m args below meth c X hP ls hl
  have hl : lv_has ls 1 [(0, .ref (ad r0 0 0))] := hl
  have hx := X.1
  have hb := X.2.1
  have hS : va_S (mm_AS ad) s.heap s.heap [] := va_S.rf
  have hgen : ∀ (H : Heap) (locs : List Loc), va_P D vwCl (mm_wd ad cA σ) H → va_S (mm_AS ad) s.heap H locs → W p l e (mm_rm 0 0) s m args below meth c H locs 0 0 (MQ below (mm_Q D ad cA none σ1) args s 0 0 (mm_AS ad)) (F0 m 0 ls []) := by
    intro H locs hP hS
    rw [fx_X8_countPhase] at hf
    refine lv_aload_n hx hb dX8_countPhase_0 rfl (lv_at hl 0 rfl) ?_
    refine lv_dup hx hb dX8_countPhase_1 rfl ?_
    refine gf_0_5 X hP hr0 wd_125 dX8_countPhase_2 ?_
    refine lv_iconst (v := (1 : Int32)) hx hb dX8_countPhase_5 (by decide) ?_
    refine lv_iadd hx hb dX8_countPhase_6 ?_
    refine pf_0_5 X hP hS hr0 wd_125  dX8_countPhase_7 (fun H locs hP hS => ?_)
    obtain ⟨s_1, e_1, hf⟩ := mm_lt_ok hf
    rw [← e_1] at hP
    refine lv_aload_n hx hb dX8_countPhase_10 rfl (lv_at hl 0 rfl) ?_
    refine lv_dup hx hb dX8_countPhase_11 rfl ?_
    refine gf_0_3 X hP hr0 wd_120 dX8_countPhase_12 ?_
    refine lv_iconst (v := (1 : Int32)) hx hb dX8_countPhase_15 (by decide) ?_
    refine lv_iadd hx hb dX8_countPhase_16 ?_
    refine pf_0_3 X hP hS hr0 wd_120  dX8_countPhase_17 (fun H locs hP hS => ?_)
    obtain ⟨s_2, e_2, hf⟩ := mm_lt_ok hf
    rw [← e_2] at hP
    refine lv_aload_n hx hb dX8_countPhase_20 rfl (lv_at hl 0 rfl) ?_
    refine gf_0_3 X hP hr0 wd_120 dX8_countPhase_21 ?_
    refine lv_iconst (v := (5 : Int32)) hx hb dX8_countPhase_24 (by decide) ?_
    refine lv_icmp_ne (tgt := 43) hx hb dX8_countPhase_25 (by decide) (fun c_3 => ?_) (fun c_3 => ?_)
    · replace hf := mm_if c_3 hf
      obtain ⟨rfl, rfl⟩ := mm_ret hf
      exact mm_vret X hP hS dX8_countPhase_43
    · replace hf := mm_it c_3 hf
      refine lv_aload_n hx hb dX8_countPhase_28 rfl (lv_at hl 0 rfl) ?_
      refine lv_iconst (v := (0 : Int32)) hx hb dX8_countPhase_29 (by decide) ?_
      refine pf_0_3 X hP hS hr0 wd_120  dX8_countPhase_30 (fun H locs hP hS => ?_)
      obtain ⟨s_4, e_4, hf⟩ := mm_lt_ok hf
      rw [← e_4] at hP
      refine lv_aload_n hx hb dX8_countPhase_33 rfl (lv_at hl 0 rfl) ?_
      refine lv_dup hx hb dX8_countPhase_34 rfl ?_
      refine gf_0_4 X hP hr0 wd_123 dX8_countPhase_35 ?_
      refine lv_iconst (v := (1 : Int32)) hx hb dX8_countPhase_38 (by decide) ?_
      refine lv_iadd hx hb dX8_countPhase_39 ?_
      refine pf_0_4 X hP hS hr0 wd_123  dX8_countPhase_40 (fun H locs hP hS => ?_)
      obtain ⟨s_5, e_5, hf⟩ := mm_lt_ok hf
      rw [← e_5] at hP
      obtain ⟨rfl, rfl⟩ := mm_ret hf
      exact mm_vret X hP hS dX8_countPhase_43
  exact hgen _ _ hP hS
def fx_J7_rangeCheck_23922 (x0 : Int32) (x1 : Int32) (x2 : Int32) (σ : mm_M) : mm_R := if x1 ≤ x2 then if (0 : Int32) ≤ x1 then if x2 ≤ x0 then some (0, σ) else none else none else none
set_option maxHeartbeats 4000000 in
set_option maxRecDepth 100000 in
theorem cx_J7_rangeCheck_23922 (l : Launch) (D : va_G) (ad : mm_A) (cA : Nat → ClassId) (hI : mm_Inj ad) (x0 : Int32) (x1 : Int32) (x2 : Int32)  (σ : mm_M) (rv : Int32) (σ1 : mm_M) (hf : fx_J7_rangeCheck_23922 x0 x1 x2 σ = some (rv, σ1)) : Met l yJ7_rangeCheck_23922 (Cond.code yJ7_rangeCheck_23922 cJ7_rangeCheck_23922 3 none :: tb) (mm_rm 0 0) (mm_pre D ad cA [.int x0, .int x1, .int x2] σ) (mm_Q D ad cA none σ1) 0 0 (mm_AS ad) := by
  refine mm_startF (by decide +kernel) hI (Nat.le_of_ble_eq_true rfl) ?_
  intro p e s m args below meth c X hP ls hl
  have hl : lv_has ls 3 [(0, .int x0), (1, .int x1), (2, .int x2)] := hl
  have hx := X.1
  have hb := X.2.1
  have hS : va_S (mm_AS ad) s.heap s.heap [] := va_S.rf
  have hgen : ∀ (H : Heap) (locs : List Loc), va_P D vwCl (mm_wd ad cA σ) H → va_S (mm_AS ad) s.heap H locs → W p l e (mm_rm 0 0) s m args below meth c H locs 0 0 (MQ below (mm_Q D ad cA none σ1) args s 0 0 (mm_AS ad)) (F0 m 0 ls []) := by
    intro H locs hP hS
    rw [fx_J7_rangeCheck_23922] at hf
    refine lv_iload_n hx hb dJ7_rangeCheck_23922_0 rfl (lv_at hl 1 rfl) ?_
    refine lv_iload_n hx hb dJ7_rangeCheck_23922_1 rfl (lv_at hl 2 rfl) ?_
    refine lv_icmp_le (tgt := 46) hx hb dJ7_rangeCheck_23922_2 (by decide) (fun c_1 => ?_) (fun c_1 => ?_)
    · replace hf := mm_it c_1 hf
      refine lv_iload_n hx hb dJ7_rangeCheck_23922_46 rfl (lv_at hl 1 rfl) ?_
      refine lv_if_ge (tgt := 59) hx hb dJ7_rangeCheck_23922_47 (by decide) (fun c_2 => ?_) (fun c_2 => ?_)
      · replace hf := mm_it c_2 hf
        refine lv_iload_n hx hb dJ7_rangeCheck_23922_59 rfl (lv_at hl 2 rfl) ?_
        refine lv_iload_n hx hb dJ7_rangeCheck_23922_60 rfl (lv_at hl 0 rfl) ?_
        refine lv_icmp_le (tgt := 73) hx hb dJ7_rangeCheck_23922_61 (by decide) (fun c_3 => ?_) (fun c_3 => ?_)
        · replace hf := mm_it c_3 hf
          obtain ⟨rfl, rfl⟩ := mm_ret hf
          exact mm_vret X hP hS dJ7_rangeCheck_23922_73
        · replace hf := mm_if c_3 hf
          exact mm_no hf
      · replace hf := mm_if c_2 hf
        exact mm_no hf
    · replace hf := mm_if c_1 hf
      exact mm_no hf
  exact hgen _ _ hP hS
def fx_J7_fill_fda19_k8_L10 (r0 : Nat) (n0 : Nat) (x1 : Int32) (x2 : Int32) (x3 : Int32)  : Nat → Int32 → mm_M → mm_R
  | 0, _, _ => none
  | fu + 1, v4, σ => if x2 ≤ v4 then some (0, σ) else mm_gd (mm_ix v4 5 = true) (mm_lt (mm_u σ r0 8 n0 v4.toNatClampNeg x3) fun s_4 => (mm_li (v4 + (1 : Int32)) fun y_5 => (fx_J7_fill_fda19_k8_L10 r0 n0 x1 x2 x3 fu y_5 s_4)))
set_option maxHeartbeats 4000000 in
set_option maxRecDepth 100000 in
theorem cx_J7_fill_fda19_k8_L10 {p : Program} {l : Launch} {e : Env} {s : State} {m : MethodId} {args : Array Value} {below : List Frame} {meth : Method} {c : Code} {D : va_G} {ad : mm_A} {cA : Nat → ClassId} (r0 : Nat) (n0 : Nat) (x1 : Int32) (x2 : Int32) (x3 : Int32) (hr0 : r0 < 6) (hn0 : n0 < 4) (rv : Int32) (σ1 : mm_M)  (X : mm_X p s m args meth c cJ7_fill_fda19 5 none RJ7 D ad cA) : ∀ (fu : Nat), ∀ (v4 : Int32) (σ : mm_M) (H : Heap) (locs : List Loc) (ls : Array Slot), fx_J7_fill_fda19_k8_L10 r0 n0 x1 x2 x3 fu v4 σ = some (rv, σ1) → va_P D vwCl (mm_wd ad cA σ) H → va_S (mm_AS ad) s.heap H locs → lv_has ls 5 [(0, .ref (ad r0 8 n0)), (2, .int x2), (3, .int x3), (4, .int v4)] → W p l e (mm_rm 1 22) s m args below meth c H locs 0 0 (MQ below (mm_Q D ad cA none σ1) args s 0 0 (mm_AS ad)) (F0 m 10 ls []) := by
  have hx := X.1
  have hb := X.2.1
  have hI := X.2.2.2.2.2.2.2.2.2
  intro fu
  induction fu with
  | zero =>
    intro v4 σ H locs ls hf
    exact mm_no hf
  | succ fu ih =>
    intro v4 σ H locs ls hf hP hS hl
    rw [fx_J7_fill_fda19_k8_L10] at hf
    refine lv_iload hx hb dJ7_fill_fda19_10 (lv_at hl 3 rfl) ?_
    refine lv_iload_n hx hb dJ7_fill_fda19_12 rfl (lv_at hl 1 rfl) ?_
    refine lv_icmp_ge (tgt := 27) hx hb dJ7_fill_fda19_13 (by decide) (fun c_2 => ?_) (fun c_2 => ?_)
    · replace hf := mm_it c_2 hf
      obtain ⟨rfl, rfl⟩ := mm_ret hf
      exact mm_vret X hP hS dJ7_fill_fda19_27
    · replace hf := mm_if c_2 hf
      refine lv_aload_n hx hb dJ7_fill_fda19_16 rfl (lv_at hl 0 rfl) ?_
      refine lv_iload hx hb dJ7_fill_fda19_17 (lv_at hl 3 rfl) ?_
      refine lv_iload_n hx hb dJ7_fill_fda19_19 rfl (lv_at hl 2 rfl) ?_
      obtain ⟨h_3, hf⟩ := mm_gd_ok hf
      refine as_8 X hP hS hr0 hn0 h_3  dJ7_fill_fda19_20 (fun H locs hP hS => ?_)
      obtain ⟨s_4, e_4, hf⟩ := mm_lt_ok hf
      rw [← e_4] at hP
      obtain ⟨y_5, e_5, hf⟩ := mm_li_ok hf
      refine lv_iinc (v := y_5) (lv' := [(4, .int y_5), (0, .ref (ad r0 8 n0)), (2, .int x2), (3, .int x3)]) hx hb dJ7_fill_fda19_21 hl (k := 3) rfl (by rw [e_5]; rfl) (by decide) rfl (fun ls hl => ?_)
      refine lv_goto (tgt := 10) hx hb dJ7_fill_fda19_24 (by decide) ?_
      exact ih y_5 s_4 H locs ls  hf hP hS (lv_sub hl [1, 2, 3, 0] rfl)
def fx_J7_fill_fda19_k8 (r0 : Nat) (n0 : Nat) (x1 : Int32) (x2 : Int32) (x3 : Int32) (σ : mm_M) : mm_R := mm_bd (fx_J7_rangeCheck_23922 (5 : Int32) x1 x2 σ) fun _ s_1 => (fx_J7_fill_fda19_k8_L10 r0 n0 x1 x2 x3 mm_FU x1 s_1)
set_option maxHeartbeats 4000000 in
set_option maxRecDepth 100000 in
theorem cx_J7_fill_fda19_k8 (l : Launch) (D : va_G) (ad : mm_A) (cA : Nat → ClassId) (hI : mm_Inj ad) (r0 : Nat) (n0 : Nat) (x1 : Int32) (x2 : Int32) (x3 : Int32) (hr0 : r0 < 6) (hn0 : n0 < 4) (σ : mm_M) (rv : Int32) (σ1 : mm_M) (hf : fx_J7_fill_fda19_k8 r0 n0 x1 x2 x3 σ = some (rv, σ1)) : Met l yJ7_fill_fda19 (Cond.code yJ7_fill_fda19 cJ7_fill_fda19 5 none :: tb) (mm_rm 1 22) (mm_pre D ad cA [.ref (ad r0 8 n0), .int x1, .int x2, .int x3] σ) (mm_Q D ad cA none σ1) 0 0 (mm_AS ad) := by
  refine mm_startF (by decide +kernel) hI (Nat.le_of_ble_eq_true rfl) ?_
  intro p e s m args below meth c X hP ls hl
  have hl : lv_has ls 5 [(0, .ref (ad r0 8 n0)), (1, .int x1), (2, .int x2), (3, .int x3)] := hl
  have hx := X.1
  have hb := X.2.1
  have hS : va_S (mm_AS ad) s.heap s.heap [] := va_S.rf
  have hgen : ∀ (H : Heap) (locs : List Loc), va_P D vwCl (mm_wd ad cA σ) H → va_S (mm_AS ad) s.heap H locs → W p l e (mm_rm 1 22) s m args below meth c H locs 0 0 (MQ below (mm_Q D ad cA none σ1) args s 0 0 (mm_AS ad)) (F0 m 0 ls []) := by
    intro H locs hP hS
    rw [fx_J7_fill_fda19_k8] at hf
    refine lv_aload_n hx hb dJ7_fill_fda19_0 rfl (lv_at hl 0 rfl) ?_
    refine an_8 X hP hr0 hn0 dJ7_fill_fda19_1 ?_
    refine lv_iload_n hx hb dJ7_fill_fda19_2 rfl (lv_at hl 1 rfl) ?_
    refine lv_iload_n hx hb dJ7_fill_fda19_3 rfl (lv_at hl 2 rfl) ?_
    obtain ⟨r_1, s_1, e_1, hf⟩ := mm_bd_ok hf
    refine mm_callS X hP hS hl.1 [.int (5 : Int32), .int x1, .int x2] [] (cx_J7_rangeCheck_23922 l D ad cA hI (5 : Int32) x1 x2 σ r_1 s_1 e_1) wd_661 wd_662 wd_15 wd_663 hd_J7_rangeCheck_23922 ⟨Nat.le_of_ble_eq_true rfl, Nat.le_of_ble_eq_true rfl⟩ rfl (Nat.le_of_ble_eq_true rfl) dJ7_fill_fda19_4 (fun H locs hP hS => ?_)
    refine lv_iload_n hx hb dJ7_fill_fda19_7 rfl (lv_at hl 1 rfl) ?_
    refine lv_istore (lv' := [(4, .int x1), (0, .ref (ad r0 8 n0)), (1, .int x1), (2, .int x2), (3, .int x3)]) hx hb dJ7_fill_fda19_8 hl (by decide) rfl (fun ls hl => ?_)
    exact cx_J7_fill_fda19_k8_L10 r0 n0 x1 x2 x3 hr0 hn0 rv σ1 X mm_FU x1 s_1 H locs ls hf hP hS (lv_sub hl [1, 3, 4, 0] rfl)
  exact hgen _ _ hP hS
def fx_X3_emptyRegisters (r0 : Nat) (n0 : Nat) (x1 : Int32) (σ : mm_M) : mm_R := mm_bd (fx_J7_fill_fda19_k8 r0 n0 (0 : Int32) x1 (0 : Int32) σ) fun _ s_1 => (some (0, s_1))
set_option maxHeartbeats 4000000 in
set_option maxRecDepth 100000 in
theorem cx_X3_emptyRegisters (l : Launch) (D : va_G) (ad : mm_A) (cA : Nat → ClassId) (hI : mm_Inj ad) (r0 : Nat) (n0 : Nat) (x1 : Int32) (hr0 : r0 < 6) (hn0 : n0 < 4) (σ : mm_M) (rv : Int32) (σ1 : mm_M) (hf : fx_X3_emptyRegisters r0 n0 x1 σ = some (rv, σ1)) : Met l yX3_emptyRegisters (Cond.code yX3_emptyRegisters cX3_emptyRegisters 2 none :: tb) (mm_rm 2 46) (mm_pre D ad cA [.ref (ad r0 6 n0), .int x1] σ) (mm_Q D ad cA none σ1) 0 0 (mm_AS ad) := by
  refine mm_start (by decide +kernel) hI (Nat.le_of_ble_eq_true rfl) ?_
  intro p e s m args below meth c X hP ls hl
  have hl : lv_has ls 2 [(0, .ref (ad r0 6 n0)), (1, .int x1)] := hl
  have hx := X.1
  have hb := X.2.1
  have hS : va_S (mm_AS ad) s.heap s.heap [] := va_S.rf
  have hgen : ∀ (H : Heap) (locs : List Loc), va_P D vwCl (mm_wd ad cA σ) H → va_S (mm_AS ad) s.heap H locs → W p l e (mm_rm 2 46) s m args below meth c H locs 0 0 (MQ below (mm_Q D ad cA none σ1) args s 0 0 (mm_AS ad)) (F0 m 0 ls []) := by
    intro H locs hP hS
    rw [fx_X3_emptyRegisters] at hf
    refine lv_aload_n hx hb dX3_emptyRegisters_0 rfl (lv_at hl 0 rfl) ?_
    refine gf_6_1 X hP hr0 hn0 wd_65 dX3_emptyRegisters_1 ?_
    refine lv_iconst (v := (0 : Int32)) hx hb dX3_emptyRegisters_4 (by decide) ?_
    refine lv_iload_n hx hb dX3_emptyRegisters_5 rfl (lv_at hl 1 rfl) ?_
    refine lv_iconst (v := (0 : Int32)) hx hb dX3_emptyRegisters_6 (by decide) ?_
    obtain ⟨r_1, s_1, e_1, hf⟩ := mm_bd_ok hf
    refine mm_callS X hP hS hl.1 [.ref (ad r0 8 n0), .int (0 : Int32), .int x1, .int (0 : Int32)] [] (cx_J7_fill_fda19_k8 l D ad cA hI r0 n0 (0 : Int32) x1 (0 : Int32) hr0 hn0 σ r_1 s_1 e_1) wd_658 wd_659 wd_15 wd_660 hd_J7_fill_fda19 ⟨Nat.le_of_ble_eq_true rfl, Nat.le_of_ble_eq_true rfl⟩ rfl (Nat.le_of_ble_eq_true rfl) dX3_emptyRegisters_7 (fun H locs hP hS => ?_)
    obtain ⟨rfl, rfl⟩ := mm_ret hf
    exact mm_vret X hP hS dX3_emptyRegisters_10
  exact hgen _ _ hP hS
def fx_X8_repairAndClear_J38 (r0 : Nat) (k2 : Int32 → mm_M → mm_R) (v1 : Int32) (m2 : Nat) (σ : mm_M) : mm_R := mm_bd (fx_X3_unlockedRegisters r0 m2 σ) fun r_6 s_6 => (mm_bd (fx_X3_emptyRegisters r0 m2 r_6 s_6) fun _ s_7 => (mm_li (v1 + (1 : Int32)) fun y_8 => (k2 y_8 s_7)))
set_option maxHeartbeats 4000000 in
set_option maxRecDepth 100000 in
theorem cx_X8_repairAndClear_J38 {p : Program} {l : Launch} {e : Env} {s : State} {m : MethodId} {args : Array Value} {below : List Frame} {meth : Method} {c : Code} {D : va_G} {ad : mm_A} {cA : Nat → ClassId} (r0 : Nat) (hr0 : r0 < 6) (rv : Int32) (σ1 : mm_M) (k2 : Int32 → mm_M → mm_R) (hk2 : ∀ (v1 : Int32) (σ : mm_M) (H : Heap) (locs : List Loc) (ls : Array Slot), k2 v1 σ = some (rv, σ1) → va_P D vwCl (mm_wd ad cA σ) H → va_S (mm_AS ad) s.heap H locs → lv_has ls 3 [(0, .ref (ad r0 0 0)), (1, .int v1)] → W p l e (mm_rm 3 67) s m args below meth c H locs 0 0 (MQ below (mm_Q D ad cA none σ1) args s 0 0 (mm_AS ad)) (F0 m 2 ls [])) (X : mm_X p s m args meth c cX8_repairAndClear 3 none RX8 D ad cA) : ∀ (v1 : Int32) (m2 : Nat) (σ : mm_M) (H : Heap) (locs : List Loc) (ls : Array Slot), m2 < 4 → fx_X8_repairAndClear_J38 r0 k2 v1 m2 σ = some (rv, σ1) → va_P D vwCl (mm_wd ad cA σ) H → va_S (mm_AS ad) s.heap H locs → lv_has ls 3 [(0, .ref (ad r0 0 0)), (1, .int v1), (2, .ref (ad r0 6 m2))] → W p l e (mm_rm 3 67) s m args below meth c H locs 0 0 (MQ below (mm_Q D ad cA none σ1) args s 0 0 (mm_AS ad)) (F0 m 38 ls []) := by
  have hx := X.1
  have hb := X.2.1
  have hI := X.2.2.2.2.2.2.2.2.2
  intro v1 m2 σ H locs ls hb_m2 hf hP hS hl
  rw [fx_X8_repairAndClear_J38] at hf
  refine lv_aload_n hx hb dX8_repairAndClear_38 rfl (lv_at hl 2 rfl) ?_
  refine lv_aload_n hx hb dX8_repairAndClear_39 rfl (lv_at hl 2 rfl) ?_
  obtain ⟨r_6, s_6, e_6, hf⟩ := mm_bd_ok hf
  refine mm_callV X hP hS hl.1 [] [.ref (ad r0 6 m2)] (cx_X3_unlockedRegisters l D ad cA hI r0 m2 hr0 hb_m2 σ r_6 s_6 e_6) (mm_kc r0 hr0 m2 hb_m2 0 (by decide)) rfl rfl wd_653 wd_408 wd_409 wd_4 wd_410 hd_X3_unlockedRegisters ⟨Nat.le_of_ble_eq_true rfl, Nat.le_of_ble_eq_true rfl⟩ rfl (Nat.le_of_ble_eq_true rfl) dX8_repairAndClear_40 (fun H locs hP hS => ?_)
  obtain ⟨r_7, s_7, e_7, hf⟩ := mm_bd_ok hf
  refine mm_callV X hP hS hl.1 [.int r_6] [] (cx_X3_emptyRegisters l D ad cA hI r0 m2 r_6 hr0 hb_m2 s_6 r_7 s_7 e_7) (mm_kc r0 hr0 m2 hb_m2 0 (by decide)) rfl rfl wd_654 wd_655 wd_656 wd_4 wd_657 hd_X3_emptyRegisters ⟨Nat.le_of_ble_eq_true rfl, Nat.le_of_ble_eq_true rfl⟩ rfl (Nat.le_of_ble_eq_true rfl) dX8_repairAndClear_43 (fun H locs hP hS => ?_)
  obtain ⟨y_8, e_8, hf⟩ := mm_li_ok hf
  refine lv_iinc (v := y_8) (lv' := [(1, .int y_8), (0, .ref (ad r0 0 0)), (2, .ref (ad r0 6 m2))]) hx hb dX8_repairAndClear_46 hl (k := 1) rfl (by rw [e_8]; rfl) (by decide) rfl (fun ls hl => ?_)
  refine lv_goto (tgt := 2) hx hb dX8_repairAndClear_49 (by decide) ?_
  exact hk2 y_8 s_7 H locs ls  hf hP hS (lv_sub hl [1, 0] rfl)
def fx_X8_repairAndClear_L2 (r0 : Nat)  : Nat → Int32 → mm_M → mm_R
  | 0, _, _ => none
  | fu + 1, v1, σ => if (σ r0 0 0 2) ≤ v1 then some (0, σ) else mm_gd (mm_ix v1 4 = true) (mm_bd (fx_X1_kindOn r0 (σ r0 6 v1.toNatClampNeg 3) σ) fun r_3 s_3 => (if r_3 = (8 : Int32) then mm_bd (fx_X3_addDamage r0 v1.toNatClampNeg (-1 : Int32) s_3) fun _ s_5 => (fx_X8_repairAndClear_J38 r0 (fun z0 z => fx_X8_repairAndClear_L2 r0 fu z0 z) v1 v1.toNatClampNeg s_5) else fx_X8_repairAndClear_J38 r0 (fun z0 z => fx_X8_repairAndClear_L2 r0 fu z0 z) v1 v1.toNatClampNeg s_3))
set_option maxHeartbeats 4000000 in
set_option maxRecDepth 100000 in
theorem cx_X8_repairAndClear_L2 {p : Program} {l : Launch} {e : Env} {s : State} {m : MethodId} {args : Array Value} {below : List Frame} {meth : Method} {c : Code} {D : va_G} {ad : mm_A} {cA : Nat → ClassId} (r0 : Nat) (hr0 : r0 < 6) (rv : Int32) (σ1 : mm_M)  (X : mm_X p s m args meth c cX8_repairAndClear 3 none RX8 D ad cA) : ∀ (fu : Nat), ∀ (v1 : Int32) (σ : mm_M) (H : Heap) (locs : List Loc) (ls : Array Slot), fx_X8_repairAndClear_L2 r0 fu v1 σ = some (rv, σ1) → va_P D vwCl (mm_wd ad cA σ) H → va_S (mm_AS ad) s.heap H locs → lv_has ls 3 [(0, .ref (ad r0 0 0)), (1, .int v1)] → W p l e (mm_rm 3 67) s m args below meth c H locs 0 0 (MQ below (mm_Q D ad cA none σ1) args s 0 0 (mm_AS ad)) (F0 m 2 ls []) := by
  have hx := X.1
  have hb := X.2.1
  have hI := X.2.2.2.2.2.2.2.2.2
  intro fu
  induction fu with
  | zero =>
    intro v1 σ H locs ls hf
    exact mm_no hf
  | succ fu ih =>
    intro v1 σ H locs ls hf hP hS hl
    rw [fx_X8_repairAndClear_L2] at hf
    refine lv_iload_n hx hb dX8_repairAndClear_2 rfl (lv_at hl 1 rfl) ?_
    refine lv_aload_n hx hb dX8_repairAndClear_3 rfl (lv_at hl 0 rfl) ?_
    refine gf_0_2 X hP hr0 wd_117 dX8_repairAndClear_4 ?_
    refine lv_icmp_ge (tgt := 52) hx hb dX8_repairAndClear_7 (by decide) (fun c_1 => ?_) (fun c_1 => ?_)
    · replace hf := mm_it c_1 hf
      obtain ⟨rfl, rfl⟩ := mm_ret hf
      exact mm_vret X hP hS dX8_repairAndClear_52
    · replace hf := mm_if c_1 hf
      refine lv_aload_n hx hb dX8_repairAndClear_10 rfl (lv_at hl 0 rfl) ?_
      refine gf_0_1 X hP hr0 wd_110 dX8_repairAndClear_11 ?_
      refine lv_iload_n hx hb dX8_repairAndClear_14 rfl (lv_at hl 1 rfl) ?_
      obtain ⟨h_2, hf⟩ := mm_gd_ok hf
      refine mm_cart X hP hr0 h_2 dX8_repairAndClear_15 ?_
      refine lv_astore_n (lv' := [(2, .ref (ad r0 6 v1.toNatClampNeg)), (0, .ref (ad r0 0 0)), (1, .int v1)]) hx hb dX8_repairAndClear_16 rfl hl (by decide) rfl (fun ls hl => ?_)
      refine lv_aload_n hx hb dX8_repairAndClear_17 rfl (lv_at hl 1 rfl) ?_
      refine gf_0_0 X hP hr0 wd_106 dX8_repairAndClear_18 ?_
      refine lv_aload_n hx hb dX8_repairAndClear_21 rfl (lv_at hl 0 rfl) ?_
      refine gf_6_3 X hP hr0 (mm_ix_lt h_2) wd_72 dX8_repairAndClear_22 ?_
      obtain ⟨r_3, s_3, e_3, hf⟩ := mm_bd_ok hf
      refine mm_callV X hP hS hl.1 [.int (σ r0 6 v1.toNatClampNeg 3)] [] (cx_X1_kindOn l D ad cA hI r0 (σ r0 6 v1.toNatClampNeg 3) hr0 σ r_3 s_3 e_3) (mm_kr r0 hr0 1 (by decide)) rfl rfl wd_371 wd_372 wd_373 wd_3 wd_374 hd_X1_kindOn ⟨Nat.le_of_ble_eq_true rfl, Nat.le_of_ble_eq_true rfl⟩ rfl (Nat.le_of_ble_eq_true rfl) dX8_repairAndClear_25 (fun H locs hP hS => ?_)
      refine lv_bipush (v := (8 : Int32)) hx hb dX8_repairAndClear_28 (by decide) ?_
      refine lv_icmp_ne (tgt := 38) hx hb dX8_repairAndClear_30 (by decide) (fun c_4 => ?_) (fun c_4 => ?_)
      · replace hf := mm_if c_4 hf
        exact cx_X8_repairAndClear_J38 r0 hr0 rv σ1 (fun z0 z => fx_X8_repairAndClear_L2 r0 fu z0 z) ih X v1 v1.toNatClampNeg s_3 H locs ls (mm_ix_lt h_2) hf hP hS (lv_sub hl [1, 2, 0] rfl)
      · replace hf := mm_it c_4 hf
        refine lv_aload_n hx hb dX8_repairAndClear_33 rfl (lv_at hl 0 rfl) ?_
        refine lv_iconst (v := (-1 : Int32)) hx hb dX8_repairAndClear_34 (by decide) ?_
        obtain ⟨r_5, s_5, e_5, hf⟩ := mm_bd_ok hf
        refine mm_callV X hP hS hl.1 [.int (-1 : Int32)] [] (cx_X3_addDamage l D ad cA hI r0 v1.toNatClampNeg (-1 : Int32) hr0 (mm_ix_lt h_2) s_3 r_5 s_5 e_5) (mm_kc r0 hr0 v1.toNatClampNeg (mm_ix_lt h_2) 0 (by decide)) rfl rfl wd_560 wd_561 wd_562 wd_4 wd_563 hd_X3_addDamage ⟨Nat.le_of_ble_eq_true rfl, Nat.le_of_ble_eq_true rfl⟩ rfl (Nat.le_of_ble_eq_true rfl) dX8_repairAndClear_35 (fun H locs hP hS => ?_)
        exact cx_X8_repairAndClear_J38 r0 hr0 rv σ1 (fun z0 z => fx_X8_repairAndClear_L2 r0 fu z0 z) ih X v1 v1.toNatClampNeg s_5 H locs ls (mm_ix_lt h_2) hf hP hS (lv_sub hl [1, 2, 0] rfl)
def fx_X8_repairAndClear (r0 : Nat) (σ : mm_M) : mm_R := fx_X8_repairAndClear_L2 r0 mm_FU (0 : Int32) σ
set_option maxHeartbeats 4000000 in
set_option maxRecDepth 100000 in
theorem cx_X8_repairAndClear (l : Launch) (D : va_G) (ad : mm_A) (cA : Nat → ClassId) (hI : mm_Inj ad) (r0 : Nat) (hr0 : r0 < 6) (σ : mm_M) (rv : Int32) (σ1 : mm_M) (hf : fx_X8_repairAndClear r0 σ = some (rv, σ1)) : Met l yX8_repairAndClear (Cond.code yX8_repairAndClear cX8_repairAndClear 3 none :: tb) (mm_rm 3 67) (mm_pre D ad cA [.ref (ad r0 0 0)] σ) (mm_Q D ad cA none σ1) 0 0 (mm_AS ad) := by
  refine mm_start (by decide +kernel) hI (Nat.le_of_ble_eq_true rfl) ?_
  intro p e s m args below meth c X hP ls hl
  have hl : lv_has ls 3 [(0, .ref (ad r0 0 0))] := hl
  have hx := X.1
  have hb := X.2.1
  have hS : va_S (mm_AS ad) s.heap s.heap [] := va_S.rf
  have hgen : ∀ (H : Heap) (locs : List Loc), va_P D vwCl (mm_wd ad cA σ) H → va_S (mm_AS ad) s.heap H locs → W p l e (mm_rm 3 67) s m args below meth c H locs 0 0 (MQ below (mm_Q D ad cA none σ1) args s 0 0 (mm_AS ad)) (F0 m 0 ls []) := by
    intro H locs hP hS
    rw [fx_X8_repairAndClear] at hf
    refine lv_iconst (v := (0 : Int32)) hx hb dX8_repairAndClear_0 (by decide) ?_
    refine lv_istore_n (lv' := [(1, .int (0 : Int32)), (0, .ref (ad r0 0 0))]) hx hb dX8_repairAndClear_1 rfl hl (by decide) rfl (fun ls hl => ?_)
    exact cx_X8_repairAndClear_L2 r0 hr0 rv σ1 X mm_FU (0 : Int32) σ H locs ls hf hP hS (lv_sub hl [1, 0] rfl)
  exact hgen _ _ hP hS
def fx_X8_cellToComeBack_L24 (r0 : Nat) (x1 : Int32)  : Nat → Int32 → mm_M → mm_R
  | 0, _, _ => none
  | fu + 1, v2, σ => if (64 : Int32) ≤ v2 then some ((-1 : Int32), σ) else mm_bd (fx_X1_isPit r0 v2 σ) fun r_6 s_6 => (if r_6 = (0 : Int32) then mm_bd (fx_X8_cartOn r0 v2 s_6) fun r_9 s_9 => (if r_9 = (-1 : Int32) then some (v2, s_9) else mm_li (v2 + (1 : Int32)) fun y_11 => (fx_X8_cellToComeBack_L24 r0 x1 fu y_11 s_9)) else mm_li (v2 + (1 : Int32)) fun y_8 => (fx_X8_cellToComeBack_L24 r0 x1 fu y_8 s_6))
set_option maxHeartbeats 4000000 in
set_option maxRecDepth 100000 in
theorem cx_X8_cellToComeBack_L24 {p : Program} {l : Launch} {e : Env} {s : State} {m : MethodId} {args : Array Value} {below : List Frame} {meth : Method} {c : Code} {D : va_G} {ad : mm_A} {cA : Nat → ClassId} (r0 : Nat) (x1 : Int32) (hr0 : r0 < 6) (rv : Int32) (σ1 : mm_M)  (X : mm_X p s m args meth c cX8_cellToComeBack 3 (some .int) RX8 D ad cA) : ∀ (fu : Nat), ∀ (v2 : Int32) (σ : mm_M) (H : Heap) (locs : List Loc) (ls : Array Slot), fx_X8_cellToComeBack_L24 r0 x1 fu v2 σ = some (rv, σ1) → va_P D vwCl (mm_wd ad cA σ) H → va_S (mm_AS ad) s.heap H locs → lv_has ls 3 [(0, .ref (ad r0 0 0)), (2, .int v2)] → W p l e (mm_rm 1 22) s m args below meth c H locs 0 0 (MQ below (mm_Q D ad cA (some (.int rv)) σ1) args s 0 0 (mm_AS ad)) (F0 m 24 ls []) := by
  have hx := X.1
  have hb := X.2.1
  have hI := X.2.2.2.2.2.2.2.2.2
  intro fu
  induction fu with
  | zero =>
    intro v2 σ H locs ls hf
    exact mm_no hf
  | succ fu ih =>
    intro v2 σ H locs ls hf hP hS hl
    rw [fx_X8_cellToComeBack_L24] at hf
    refine lv_iload_n hx hb dX8_cellToComeBack_24 rfl (lv_at hl 1 rfl) ?_
    refine lv_bipush (v := (64 : Int32)) hx hb dX8_cellToComeBack_25 (by decide) ?_
    refine lv_icmp_ge (tgt := 58) hx hb dX8_cellToComeBack_27 (by decide) (fun c_5 => ?_) (fun c_5 => ?_)
    · replace hf := mm_it c_5 hf
      refine lv_iconst (v := (-1 : Int32)) hx hb dX8_cellToComeBack_58 (by decide) ?_
      obtain ⟨rfl, rfl⟩ := mm_ret hf
      exact mm_iret X hP hS dX8_cellToComeBack_59
    · replace hf := mm_if c_5 hf
      refine lv_aload_n hx hb dX8_cellToComeBack_30 rfl (lv_at hl 0 rfl) ?_
      refine gf_0_0 X hP hr0 wd_106 dX8_cellToComeBack_31 ?_
      refine lv_iload_n hx hb dX8_cellToComeBack_34 rfl (lv_at hl 1 rfl) ?_
      obtain ⟨r_6, s_6, e_6, hf⟩ := mm_bd_ok hf
      refine mm_callV X hP hS hl.1 [.int v2] [] (cx_X1_isPit l D ad cA hI r0 v2 hr0 σ r_6 s_6 e_6) (mm_kr r0 hr0 1 (by decide)) rfl rfl wd_455 wd_456 wd_457 wd_3 wd_458 hd_X1_isPit ⟨Nat.le_of_ble_eq_true rfl, Nat.le_of_ble_eq_true rfl⟩ rfl (Nat.le_of_ble_eq_true rfl) dX8_cellToComeBack_35 (fun H locs hP hS => ?_)
      refine lv_if_ne (tgt := 52) hx hb dX8_cellToComeBack_38 (by decide) (fun c_7 => ?_) (fun c_7 => ?_)
      · replace hf := mm_if c_7 hf
        obtain ⟨y_8, e_8, hf⟩ := mm_li_ok hf
        refine lv_iinc (v := y_8) (lv' := [(2, .int y_8), (0, .ref (ad r0 0 0))]) hx hb dX8_cellToComeBack_52 hl (k := 1) rfl (by rw [e_8]; rfl) (by decide) rfl (fun ls hl => ?_)
        refine lv_goto (tgt := 24) hx hb dX8_cellToComeBack_55 (by decide) ?_
        exact ih y_8 s_6 H locs ls  hf hP hS (lv_sub hl [1, 0] rfl)
      · replace hf := mm_it c_7 hf
        refine lv_aload_n hx hb dX8_cellToComeBack_41 rfl (lv_at hl 0 rfl) ?_
        refine lv_iload_n hx hb dX8_cellToComeBack_42 rfl (lv_at hl 1 rfl) ?_
        obtain ⟨r_9, s_9, e_9, hf⟩ := mm_bd_ok hf
        refine mm_callV X hP hS hl.1 [.int v2] [] (cx_X8_cartOn l D ad cA hI r0 v2 hr0 s_6 r_9 s_9 e_9) (mm_kr r0 hr0 0 (by decide)) rfl rfl wd_379 wd_380 wd_381 wd_2 wd_382 hd_X8_cartOn ⟨Nat.le_of_ble_eq_true rfl, Nat.le_of_ble_eq_true rfl⟩ rfl (Nat.le_of_ble_eq_true rfl) dX8_cellToComeBack_43 (fun H locs hP hS => ?_)
        refine lv_iconst (v := (-1 : Int32)) hx hb dX8_cellToComeBack_46 (by decide) ?_
        refine lv_icmp_ne (tgt := 52) hx hb dX8_cellToComeBack_47 (by decide) (fun c_10 => ?_) (fun c_10 => ?_)
        · replace hf := mm_if c_10 hf
          obtain ⟨y_11, e_11, hf⟩ := mm_li_ok hf
          refine lv_iinc (v := y_11) (lv' := [(2, .int y_11), (0, .ref (ad r0 0 0))]) hx hb dX8_cellToComeBack_52 hl (k := 1) rfl (by rw [e_11]; rfl) (by decide) rfl (fun ls hl => ?_)
          refine lv_goto (tgt := 24) hx hb dX8_cellToComeBack_55 (by decide) ?_
          exact ih y_11 s_9 H locs ls  hf hP hS (lv_sub hl [1, 0] rfl)
        · replace hf := mm_it c_10 hf
          refine lv_iload_n hx hb dX8_cellToComeBack_50 rfl (lv_at hl 1 rfl) ?_
          obtain ⟨rfl, rfl⟩ := mm_ret hf
          exact mm_iret X hP hS dX8_cellToComeBack_51
def fx_X8_cellToComeBack (r0 : Nat) (x1 : Int32) (σ : mm_M) : mm_R := mm_bd (fx_X1_isPit r0 x1 σ) fun r_1 s_1 => (if r_1 = (0 : Int32) then mm_bd (fx_X8_cartOn r0 x1 s_1) fun r_3 s_3 => (if r_3 = (-1 : Int32) then some (x1, s_3) else fx_X8_cellToComeBack_L24 r0 x1 mm_FU (0 : Int32) s_3) else fx_X8_cellToComeBack_L24 r0 x1 mm_FU (0 : Int32) s_1)
set_option maxHeartbeats 4000000 in
set_option maxRecDepth 100000 in
theorem cx_X8_cellToComeBack (l : Launch) (D : va_G) (ad : mm_A) (cA : Nat → ClassId) (hI : mm_Inj ad) (r0 : Nat) (x1 : Int32) (hr0 : r0 < 6) (σ : mm_M) (rv : Int32) (σ1 : mm_M) (hf : fx_X8_cellToComeBack r0 x1 σ = some (rv, σ1)) : Met l yX8_cellToComeBack (Cond.code yX8_cellToComeBack cX8_cellToComeBack 3 (some .int) :: tb) (mm_rm 1 22) (mm_pre D ad cA [.ref (ad r0 0 0), .int x1] σ) (mm_Q D ad cA (some (.int rv)) σ1) 0 0 (mm_AS ad) := by
  refine mm_start (by decide +kernel) hI (Nat.le_of_ble_eq_true rfl) ?_
  intro p e s m args below meth c X hP ls hl
  have hl : lv_has ls 3 [(0, .ref (ad r0 0 0)), (1, .int x1)] := hl
  have hx := X.1
  have hb := X.2.1
  have hS : va_S (mm_AS ad) s.heap s.heap [] := va_S.rf
  have hgen : ∀ (H : Heap) (locs : List Loc), va_P D vwCl (mm_wd ad cA σ) H → va_S (mm_AS ad) s.heap H locs → W p l e (mm_rm 1 22) s m args below meth c H locs 0 0 (MQ below (mm_Q D ad cA (some (.int rv)) σ1) args s 0 0 (mm_AS ad)) (F0 m 0 ls []) := by
    intro H locs hP hS
    rw [fx_X8_cellToComeBack] at hf
    refine lv_aload_n hx hb dX8_cellToComeBack_0 rfl (lv_at hl 0 rfl) ?_
    refine gf_0_0 X hP hr0 wd_106 dX8_cellToComeBack_1 ?_
    refine lv_iload_n hx hb dX8_cellToComeBack_4 rfl (lv_at hl 1 rfl) ?_
    obtain ⟨r_1, s_1, e_1, hf⟩ := mm_bd_ok hf
    refine mm_callV X hP hS hl.1 [.int x1] [] (cx_X1_isPit l D ad cA hI r0 x1 hr0 σ r_1 s_1 e_1) (mm_kr r0 hr0 1 (by decide)) rfl rfl wd_455 wd_456 wd_457 wd_3 wd_458 hd_X1_isPit ⟨Nat.le_of_ble_eq_true rfl, Nat.le_of_ble_eq_true rfl⟩ rfl (Nat.le_of_ble_eq_true rfl) dX8_cellToComeBack_5 (fun H locs hP hS => ?_)
    refine lv_if_ne (tgt := 22) hx hb dX8_cellToComeBack_8 (by decide) (fun c_2 => ?_) (fun c_2 => ?_)
    · replace hf := mm_if c_2 hf
      refine lv_iconst (v := (0 : Int32)) hx hb dX8_cellToComeBack_22 (by decide) ?_
      refine lv_istore_n (lv' := [(2, .int (0 : Int32)), (0, .ref (ad r0 0 0)), (1, .int x1)]) hx hb dX8_cellToComeBack_23 rfl hl (by decide) rfl (fun ls hl => ?_)
      exact cx_X8_cellToComeBack_L24 r0 x1 hr0 rv σ1 X mm_FU (0 : Int32) s_1 H locs ls hf hP hS (lv_sub hl [1, 0] rfl)
    · replace hf := mm_it c_2 hf
      refine lv_aload_n hx hb dX8_cellToComeBack_11 rfl (lv_at hl 0 rfl) ?_
      refine lv_iload_n hx hb dX8_cellToComeBack_12 rfl (lv_at hl 1 rfl) ?_
      obtain ⟨r_3, s_3, e_3, hf⟩ := mm_bd_ok hf
      refine mm_callV X hP hS hl.1 [.int x1] [] (cx_X8_cartOn l D ad cA hI r0 x1 hr0 s_1 r_3 s_3 e_3) (mm_kr r0 hr0 0 (by decide)) rfl rfl wd_379 wd_380 wd_381 wd_2 wd_382 hd_X8_cartOn ⟨Nat.le_of_ble_eq_true rfl, Nat.le_of_ble_eq_true rfl⟩ rfl (Nat.le_of_ble_eq_true rfl) dX8_cellToComeBack_13 (fun H locs hP hS => ?_)
      refine lv_iconst (v := (-1 : Int32)) hx hb dX8_cellToComeBack_16 (by decide) ?_
      refine lv_icmp_ne (tgt := 22) hx hb dX8_cellToComeBack_17 (by decide) (fun c_4 => ?_) (fun c_4 => ?_)
      · replace hf := mm_if c_4 hf
        refine lv_iconst (v := (0 : Int32)) hx hb dX8_cellToComeBack_22 (by decide) ?_
        refine lv_istore_n (lv' := [(2, .int (0 : Int32)), (0, .ref (ad r0 0 0)), (1, .int x1)]) hx hb dX8_cellToComeBack_23 rfl hl (by decide) rfl (fun ls hl => ?_)
        exact cx_X8_cellToComeBack_L24 r0 x1 hr0 rv σ1 X mm_FU (0 : Int32) s_3 H locs ls hf hP hS (lv_sub hl [1, 0] rfl)
      · replace hf := mm_it c_4 hf
        refine lv_iload_n hx hb dX8_cellToComeBack_20 rfl (lv_at hl 1 rfl) ?_
        obtain ⟨rfl, rfl⟩ := mm_ret hf
        exact mm_iret X hP hS dX8_cellToComeBack_21
  exact hgen _ _ hP hS
def fx_X8_bringBack_L2 (r0 : Nat)  : Nat → Int32 → mm_M → mm_R
  | 0, _, _ => none
  | fu + 1, v1, σ => if (σ r0 0 0 2) ≤ v1 then some (0, σ) else mm_gd (mm_ix v1 4 = true) (mm_bd (fx_X3_isOut r0 v1.toNatClampNeg σ) fun r_3 s_3 => (if r_3 = (0 : Int32) then mm_li (v1 + (1 : Int32)) fun y_5 => (fx_X8_bringBack_L2 r0 fu y_5 s_3) else mm_bd (fx_X8_cellToComeBack r0 (s_3 r0 6 v1.toNatClampNeg 2) s_3) fun r_6 s_6 => (mm_lt (mm_u s_6 r0 6 v1.toNatClampNeg 3 r_6) fun s_7 => (mm_lt (mm_u s_7 r0 6 v1.toNatClampNeg 4 (0 : Int32)) fun s_8 => (mm_lt (mm_u s_8 r0 6 v1.toNatClampNeg 5 (2 : Int32)) fun s_9 => (mm_bd (fx_X3_emptyRegisters r0 v1.toNatClampNeg (5 : Int32) s_9) fun _ s_10 => (mm_li (v1 + (1 : Int32)) fun y_11 => (fx_X8_bringBack_L2 r0 fu y_11 s_10))))))))
set_option maxHeartbeats 4000000 in
set_option maxRecDepth 100000 in
theorem cx_X8_bringBack_L2 {p : Program} {l : Launch} {e : Env} {s : State} {m : MethodId} {args : Array Value} {below : List Frame} {meth : Method} {c : Code} {D : va_G} {ad : mm_A} {cA : Nat → ClassId} (r0 : Nat) (hr0 : r0 < 6) (rv : Int32) (σ1 : mm_M)  (X : mm_X p s m args meth c cX8_bringBack 3 none RX8 D ad cA) : ∀ (fu : Nat), ∀ (v1 : Int32) (σ : mm_M) (H : Heap) (locs : List Loc) (ls : Array Slot), fx_X8_bringBack_L2 r0 fu v1 σ = some (rv, σ1) → va_P D vwCl (mm_wd ad cA σ) H → va_S (mm_AS ad) s.heap H locs → lv_has ls 3 [(0, .ref (ad r0 0 0)), (1, .int v1)] → W p l e (mm_rm 3 67) s m args below meth c H locs 0 0 (MQ below (mm_Q D ad cA none σ1) args s 0 0 (mm_AS ad)) (F0 m 2 ls []) := by
  have hx := X.1
  have hb := X.2.1
  have hI := X.2.2.2.2.2.2.2.2.2
  intro fu
  induction fu with
  | zero =>
    intro v1 σ H locs ls hf
    exact mm_no hf
  | succ fu ih =>
    intro v1 σ H locs ls hf hP hS hl
    rw [fx_X8_bringBack_L2] at hf
    refine lv_iload_n hx hb dX8_bringBack_2 rfl (lv_at hl 1 rfl) ?_
    refine lv_aload_n hx hb dX8_bringBack_3 rfl (lv_at hl 0 rfl) ?_
    refine gf_0_2 X hP hr0 wd_117 dX8_bringBack_4 ?_
    refine lv_icmp_ge (tgt := 57) hx hb dX8_bringBack_7 (by decide) (fun c_1 => ?_) (fun c_1 => ?_)
    · replace hf := mm_it c_1 hf
      obtain ⟨rfl, rfl⟩ := mm_ret hf
      exact mm_vret X hP hS dX8_bringBack_57
    · replace hf := mm_if c_1 hf
      refine lv_aload_n hx hb dX8_bringBack_10 rfl (lv_at hl 0 rfl) ?_
      refine gf_0_1 X hP hr0 wd_110 dX8_bringBack_11 ?_
      refine lv_iload_n hx hb dX8_bringBack_14 rfl (lv_at hl 1 rfl) ?_
      obtain ⟨h_2, hf⟩ := mm_gd_ok hf
      refine mm_cart X hP hr0 h_2 dX8_bringBack_15 ?_
      refine lv_astore_n (lv' := [(2, .ref (ad r0 6 v1.toNatClampNeg)), (0, .ref (ad r0 0 0)), (1, .int v1)]) hx hb dX8_bringBack_16 rfl hl (by decide) rfl (fun ls hl => ?_)
      refine lv_aload_n hx hb dX8_bringBack_17 rfl (lv_at hl 0 rfl) ?_
      obtain ⟨r_3, s_3, e_3, hf⟩ := mm_bd_ok hf
      refine mm_callV X hP hS hl.1 [] [] (cx_X3_isOut l D ad cA hI r0 v1.toNatClampNeg hr0 (mm_ix_lt h_2) σ r_3 s_3 e_3) (mm_kc r0 hr0 v1.toNatClampNeg (mm_ix_lt h_2) 0 (by decide)) rfl rfl wd_313 wd_314 wd_315 wd_4 wd_316 hd_X3_isOut ⟨Nat.le_of_ble_eq_true rfl, Nat.le_of_ble_eq_true rfl⟩ rfl (Nat.le_of_ble_eq_true rfl) dX8_bringBack_18 (fun H locs hP hS => ?_)
      refine lv_if_eq (tgt := 51) hx hb dX8_bringBack_21 (by decide) (fun c_4 => ?_) (fun c_4 => ?_)
      · replace hf := mm_it c_4 hf
        obtain ⟨y_5, e_5, hf⟩ := mm_li_ok hf
        refine lv_iinc (v := y_5) (lv' := [(1, .int y_5), (2, .ref (ad r0 6 v1.toNatClampNeg)), (0, .ref (ad r0 0 0))]) hx hb dX8_bringBack_51 hl (k := 2) rfl (by rw [e_5]; rfl) (by decide) rfl (fun ls hl => ?_)
        refine lv_goto (tgt := 2) hx hb dX8_bringBack_54 (by decide) ?_
        exact ih y_5 s_3 H locs ls  hf hP hS (lv_sub hl [2, 0] rfl)
      · replace hf := mm_if c_4 hf
        refine lv_aload_n hx hb dX8_bringBack_24 rfl (lv_at hl 0 rfl) ?_
        refine lv_aload_n hx hb dX8_bringBack_25 rfl (lv_at hl 1 rfl) ?_
        refine lv_aload_n hx hb dX8_bringBack_26 rfl (lv_at hl 0 rfl) ?_
        refine gf_6_2 X hP hr0 (mm_ix_lt h_2) wd_69 dX8_bringBack_27 ?_
        obtain ⟨r_6, s_6, e_6, hf⟩ := mm_bd_ok hf
        refine mm_callV X hP hS hl.1 [.int (s_3 r0 6 v1.toNatClampNeg 2)] [.ref (ad r0 6 v1.toNatClampNeg)] (cx_X8_cellToComeBack l D ad cA hI r0 (s_3 r0 6 v1.toNatClampNeg 2) hr0 s_3 r_6 s_6 e_6) (mm_kr r0 hr0 0 (by decide)) rfl rfl wd_668 wd_670 wp_9 wd_2 wd_671 hd_X8_cellToComeBack ⟨Nat.le_of_ble_eq_true rfl, Nat.le_of_ble_eq_true rfl⟩ rfl (Nat.le_of_ble_eq_true rfl) dX8_bringBack_30 (fun H locs hP hS => ?_)
        refine pf_6_3 X hP hS hr0 (mm_ix_lt h_2) wd_72  dX8_bringBack_33 (fun H locs hP hS => ?_)
        obtain ⟨s_7, e_7, hf⟩ := mm_lt_ok hf
        rw [← e_7] at hP
        refine lv_aload_n hx hb dX8_bringBack_36 rfl (lv_at hl 0 rfl) ?_
        refine lv_iconst (v := (0 : Int32)) hx hb dX8_bringBack_37 (by decide) ?_
        refine pf_6_4 X hP hS hr0 (mm_ix_lt h_2) wd_77  dX8_bringBack_38 (fun H locs hP hS => ?_)
        obtain ⟨s_8, e_8, hf⟩ := mm_lt_ok hf
        rw [← e_8] at hP
        refine lv_aload_n hx hb dX8_bringBack_41 rfl (lv_at hl 0 rfl) ?_
        refine lv_iconst (v := (2 : Int32)) hx hb dX8_bringBack_42 (by decide) ?_
        refine pf_6_5 X hP hS hr0 (mm_ix_lt h_2) wd_79  dX8_bringBack_43 (fun H locs hP hS => ?_)
        obtain ⟨s_9, e_9, hf⟩ := mm_lt_ok hf
        rw [← e_9] at hP
        refine lv_aload_n hx hb dX8_bringBack_46 rfl (lv_at hl 0 rfl) ?_
        refine lv_iconst (v := (5 : Int32)) hx hb dX8_bringBack_47 (by decide) ?_
        obtain ⟨r_10, s_10, e_10, hf⟩ := mm_bd_ok hf
        refine mm_callV X hP hS hl.1 [.int (5 : Int32)] [] (cx_X3_emptyRegisters l D ad cA hI r0 v1.toNatClampNeg (5 : Int32) hr0 (mm_ix_lt h_2) s_9 r_10 s_10 e_10) (mm_kc r0 hr0 v1.toNatClampNeg (mm_ix_lt h_2) 0 (by decide)) rfl rfl wd_654 wd_655 wd_656 wd_4 wd_657 hd_X3_emptyRegisters ⟨Nat.le_of_ble_eq_true rfl, Nat.le_of_ble_eq_true rfl⟩ rfl (Nat.le_of_ble_eq_true rfl) dX8_bringBack_48 (fun H locs hP hS => ?_)
        obtain ⟨y_11, e_11, hf⟩ := mm_li_ok hf
        refine lv_iinc (v := y_11) (lv' := [(1, .int y_11), (2, .ref (ad r0 6 v1.toNatClampNeg)), (0, .ref (ad r0 0 0))]) hx hb dX8_bringBack_51 hl (k := 2) rfl (by rw [e_11]; rfl) (by decide) rfl (fun ls hl => ?_)
        refine lv_goto (tgt := 2) hx hb dX8_bringBack_54 (by decide) ?_
        exact ih y_11 s_10 H locs ls  hf hP hS (lv_sub hl [2, 0] rfl)
def fx_X8_bringBack (r0 : Nat) (σ : mm_M) : mm_R := fx_X8_bringBack_L2 r0 mm_FU (0 : Int32) σ
set_option maxHeartbeats 4000000 in
set_option maxRecDepth 100000 in
theorem cx_X8_bringBack (l : Launch) (D : va_G) (ad : mm_A) (cA : Nat → ClassId) (hI : mm_Inj ad) (r0 : Nat) (hr0 : r0 < 6) (σ : mm_M) (rv : Int32) (σ1 : mm_M) (hf : fx_X8_bringBack r0 σ = some (rv, σ1)) : Met l yX8_bringBack (Cond.code yX8_bringBack cX8_bringBack 3 none :: tb) (mm_rm 3 67) (mm_pre D ad cA [.ref (ad r0 0 0)] σ) (mm_Q D ad cA none σ1) 0 0 (mm_AS ad) := by
  refine mm_start (by decide +kernel) hI (Nat.le_of_ble_eq_true rfl) ?_
  intro p e s m args below meth c X hP ls hl
  have hl : lv_has ls 3 [(0, .ref (ad r0 0 0))] := hl
  have hx := X.1
  have hb := X.2.1
  have hS : va_S (mm_AS ad) s.heap s.heap [] := va_S.rf
  have hgen : ∀ (H : Heap) (locs : List Loc), va_P D vwCl (mm_wd ad cA σ) H → va_S (mm_AS ad) s.heap H locs → W p l e (mm_rm 3 67) s m args below meth c H locs 0 0 (MQ below (mm_Q D ad cA none σ1) args s 0 0 (mm_AS ad)) (F0 m 0 ls []) := by
    intro H locs hP hS
    rw [fx_X8_bringBack] at hf
    refine lv_iconst (v := (0 : Int32)) hx hb dX8_bringBack_0 (by decide) ?_
    refine lv_istore_n (lv' := [(1, .int (0 : Int32)), (0, .ref (ad r0 0 0))]) hx hb dX8_bringBack_1 rfl hl (by decide) rfl (fun ls hl => ?_)
    exact cx_X8_bringBack_L2 r0 hr0 rv σ1 X mm_FU (0 : Int32) σ H locs ls hf hP hS (lv_sub hl [1, 0] rfl)
  exact hgen _ _ hP hS
def fx_X2_step_L75 (r1 : Nat) (x2 : Int32) (x3 : Int32)  : Nat → Int32 → Int32 → mm_M → mm_R
  | 0, _, _, _ => none
  | fu + 1, v4, v6, σ => if v4 ≤ v6 then mm_lt (mm_u σ r1 0 0 6 ((σ r1 0 0 6) + (v4 - (1 : Int32)))) fun s_13 => (some ((1 : Int32), s_13)) else mm_gd (mm_ix v6 4 = true) (mm_gd (mm_ix (σ 7 15 0 v6.toNatClampNeg) 4 = true) (mm_bd (fx_X1_neighbour (σ r1 6 ((σ 7 15 0 v6.toNatClampNeg).toNatClampNeg) 3) x3 σ) fun r_16 s_16 => (mm_bd (fx_X8_enter r1 r1 ((σ 7 15 0 v6.toNatClampNeg).toNatClampNeg) r_16 s_16) fun _ s_17 => (mm_li (v6 + (1 : Int32)) fun y_18 => (fx_X2_step_L75 r1 x2 x3 fu v4 y_18 s_17)))))
set_option maxHeartbeats 4000000 in
set_option maxRecDepth 100000 in
theorem cx_X2_step_L75 {p : Program} {l : Launch} {e : Env} {s : State} {m : MethodId} {args : Array Value} {below : List Frame} {meth : Method} {c : Code} {D : va_G} {ad : mm_A} {cA : Nat → ClassId} (r1 : Nat) (x2 : Int32) (x3 : Int32) (hr1 : r1 < 6) (rv : Int32) (σ1 : mm_M)  (X : mm_X p s m args meth c cX2_step 8 (some .boolean) RX2 D ad cA) : ∀ (fu : Nat), ∀ (v4 : Int32) (v6 : Int32) (σ : mm_M) (H : Heap) (locs : List Loc) (ls : Array Slot), fx_X2_step_L75 r1 x2 x3 fu v4 v6 σ = some (rv, σ1) → va_P D vwCl (mm_wd ad cA σ) H → va_S (mm_AS ad) s.heap H locs → lv_has ls 8 [(0, .ref (ad 7 13 0)), (1, .ref (ad r1 0 0)), (3, .int x3), (4, .int v4), (6, .int v6)] → W p l e (mm_rm 1 22) s m args below meth c H locs 0 0 (MQ below (mm_Q D ad cA (some (.int rv)) σ1) args s 0 0 (mm_AS ad)) (F0 m 75 ls []) := by
  have hx := X.1
  have hb := X.2.1
  have hI := X.2.2.2.2.2.2.2.2.2
  intro fu
  induction fu with
  | zero =>
    intro v4 v6 σ H locs ls hf
    exact mm_no hf
  | succ fu ih =>
    intro v4 v6 σ H locs ls hf hP hS hl
    rw [fx_X2_step_L75] at hf
    refine lv_iload hx hb dX2_step_75 (lv_at hl 4 rfl) ?_
    refine lv_iload hx hb dX2_step_77 (lv_at hl 3 rfl) ?_
    refine lv_icmp_ge (tgt := 117) hx hb dX2_step_79 (by decide) (fun c_12 => ?_) (fun c_12 => ?_)
    · replace hf := mm_it c_12 hf
      refine lv_aload_n hx hb dX2_step_117 rfl (lv_at hl 1 rfl) ?_
      refine lv_dup hx hb dX2_step_118 rfl ?_
      refine gf_0_6 X hP hr1 wd_128 dX2_step_119 ?_
      refine lv_iload hx hb dX2_step_122 (lv_at hl 3 rfl) ?_
      refine lv_iconst (v := (1 : Int32)) hx hb dX2_step_124 (by decide) ?_
      refine lv_isub hx hb dX2_step_125 ?_
      refine lv_iadd hx hb dX2_step_126 ?_
      refine pf_0_6 X hP hS hr1 wd_128  dX2_step_127 (fun H locs hP hS => ?_)
      obtain ⟨s_13, e_13, hf⟩ := mm_lt_ok hf
      rw [← e_13] at hP
      refine lv_iconst (v := (1 : Int32)) hx hb dX2_step_130 (by decide) ?_
      obtain ⟨rfl, rfl⟩ := mm_ret hf
      exact mm_zret (Or.inr rfl) X hP hS dX2_step_131
    · replace hf := mm_if c_12 hf
      refine lv_aload_n hx hb dX2_step_82 rfl (lv_at hl 1 rfl) ?_
      refine gf_0_1 X hP hr1 wd_111 dX2_step_83 ?_
      refine lv_aload_n hx hb dX2_step_86 rfl (lv_at hl 0 rfl) ?_
      refine gf_13_1 X hP  wd_180 dX2_step_87 ?_
      refine lv_iload hx hb dX2_step_90 (lv_at hl 4 rfl) ?_
      obtain ⟨h_14, hf⟩ := mm_gd_ok hf
      refine al_15 X hP  h_14 dX2_step_92 ?_
      obtain ⟨h_15, hf⟩ := mm_gd_ok hf
      refine mm_cart X hP hr1 h_15 dX2_step_93 ?_
      refine lv_astore (lv' := [(7, .ref (ad r1 6 ((σ 7 15 0 v6.toNatClampNeg).toNatClampNeg))), (0, .ref (ad 7 13 0)), (1, .ref (ad r1 0 0)), (3, .int x3), (4, .int v4), (6, .int v6)]) hx hb dX2_step_94 hl (by decide) rfl (fun ls hl => ?_)
      refine lv_aload_n hx hb dX2_step_96 rfl (lv_at hl 2 rfl) ?_
      refine lv_aload hx hb dX2_step_97 (lv_at hl 0 rfl) ?_
      refine lv_aload hx hb dX2_step_99 (lv_at hl 0 rfl) ?_
      refine gf_6_3 X hP hr1 (mm_ix_lt h_15) wd_73 dX2_step_101 ?_
      refine lv_iload_n hx hb dX2_step_104 rfl (lv_at hl 3 rfl) ?_
      obtain ⟨r_16, s_16, e_16, hf⟩ := mm_bd_ok hf
      refine mm_callS X hP hS hl.1 [.int (σ r1 6 ((σ 7 15 0 v6.toNatClampNeg).toNatClampNeg) 3), .int x3] [.ref (ad r1 6 ((σ 7 15 0 v6.toNatClampNeg).toNatClampNeg)), .ref (ad r1 0 0)] (cx_X1_neighbour l D ad cA hI (σ r1 6 ((σ 7 15 0 v6.toNatClampNeg).toNatClampNeg) 3) x3 σ r_16 s_16 e_16) wd_604 wd_509 wd_3 wd_510 hd_X1_neighbour ⟨Nat.le_of_ble_eq_true rfl, Nat.le_of_ble_eq_true rfl⟩ rfl (Nat.le_of_ble_eq_true rfl) dX2_step_105 (fun H locs hP hS => ?_)
      obtain ⟨r_17, s_17, e_17, hf⟩ := mm_bd_ok hf
      refine mm_callV X hP hS hl.1 [.ref (ad r1 6 ((σ 7 15 0 v6.toNatClampNeg).toNatClampNeg)), .int r_16] [] (cx_X8_enter l D ad cA hI r1 r1 ((σ 7 15 0 v6.toNatClampNeg).toNatClampNeg) r_16 hr1 hr1 (mm_ix_lt h_15) s_16 r_17 s_17 e_17) (mm_kr r1 hr1 0 (by decide)) rfl rfl wd_606 wd_607 wd_608 wd_2 wd_609 hd_X8_enter ⟨Nat.le_of_ble_eq_true rfl, Nat.le_of_ble_eq_true rfl⟩ rfl (Nat.le_of_ble_eq_true rfl) dX2_step_108 (fun H locs hP hS => ?_)
      obtain ⟨y_18, e_18, hf⟩ := mm_li_ok hf
      refine lv_iinc (v := y_18) (lv' := [(6, .int y_18), (7, .ref (ad r1 6 ((σ 7 15 0 v6.toNatClampNeg).toNatClampNeg))), (0, .ref (ad 7 13 0)), (1, .ref (ad r1 0 0)), (3, .int x3), (4, .int v4)]) hx hb dX2_step_111 hl (k := 5) rfl (by rw [e_18]; rfl) (by decide) rfl (fun ls hl => ?_)
      refine lv_goto (tgt := 75) hx hb dX2_step_114 (by decide) ?_
      exact ih v4 y_18 s_17 H locs ls  hf hP hS (lv_sub hl [2, 3, 4, 5, 0] rfl)
def fx_X2_step_L6 (r1 : Nat) (x2 : Int32) (x3 : Int32)  : Nat → Int32 → Int32 → mm_M → mm_R
  | 0, _, _, _ => none
  | fu + 1, v4, v5, σ => if v5 = (-1 : Int32) then fx_X2_step_L75 r1 x2 x3 mm_FU v4 (0 : Int32) σ else if (4 : Int32) ≤ v4 then fx_X2_step_L75 r1 x2 x3 mm_FU v4 (0 : Int32) σ else mm_gd (mm_ix v5 4 = true) (mm_li (σ r1 6 v5.toNatClampNeg 3) fun y_4 => (mm_bd (fx_X1_hasWall r1 y_4 x3 σ) fun r_5 s_5 => (if r_5 = (0 : Int32) then mm_gd (mm_ix v4 4 = true) (mm_lt (mm_u s_5 7 15 0 v4.toNatClampNeg v5) fun s_8 => (mm_li (v4 + (1 : Int32)) fun y_9 => (mm_bd (fx_X1_neighbour y_4 x3 s_8) fun r_10 s_10 => (mm_bd (fx_X8_cartOn r1 r_10 s_10) fun r_11 s_11 => (fx_X2_step_L6 r1 x2 x3 fu y_9 r_11 s_11))))) else some ((0 : Int32), s_5))))
set_option maxHeartbeats 4000000 in
set_option maxRecDepth 100000 in
theorem cx_X2_step_L6 {p : Program} {l : Launch} {e : Env} {s : State} {m : MethodId} {args : Array Value} {below : List Frame} {meth : Method} {c : Code} {D : va_G} {ad : mm_A} {cA : Nat → ClassId} (r1 : Nat) (x2 : Int32) (x3 : Int32) (hr1 : r1 < 6) (rv : Int32) (σ1 : mm_M)  (X : mm_X p s m args meth c cX2_step 8 (some .boolean) RX2 D ad cA) : ∀ (fu : Nat), ∀ (v4 : Int32) (v5 : Int32) (σ : mm_M) (H : Heap) (locs : List Loc) (ls : Array Slot), fx_X2_step_L6 r1 x2 x3 fu v4 v5 σ = some (rv, σ1) → va_P D vwCl (mm_wd ad cA σ) H → va_S (mm_AS ad) s.heap H locs → lv_has ls 8 [(0, .ref (ad 7 13 0)), (1, .ref (ad r1 0 0)), (3, .int x3), (4, .int v4), (5, .int v5)] → W p l e (mm_rm 1 22) s m args below meth c H locs 0 0 (MQ below (mm_Q D ad cA (some (.int rv)) σ1) args s 0 0 (mm_AS ad)) (F0 m 6 ls []) := by
  have hx := X.1
  have hb := X.2.1
  have hI := X.2.2.2.2.2.2.2.2.2
  intro fu
  induction fu with
  | zero =>
    intro v4 v5 σ H locs ls hf
    exact mm_no hf
  | succ fu ih =>
    intro v4 v5 σ H locs ls hf hP hS hl
    rw [fx_X2_step_L6] at hf
    refine lv_iload hx hb dX2_step_6 (lv_at hl 4 rfl) ?_
    refine lv_iconst (v := (-1 : Int32)) hx hb dX2_step_8 (by decide) ?_
    refine lv_icmp_eq (tgt := 72) hx hb dX2_step_9 (by decide) (fun c_1 => ?_) (fun c_1 => ?_)
    · replace hf := mm_it c_1 hf
      refine lv_iconst (v := (0 : Int32)) hx hb dX2_step_72 (by decide) ?_
      refine lv_istore (lv' := [(6, .int (0 : Int32)), (0, .ref (ad 7 13 0)), (1, .ref (ad r1 0 0)), (3, .int x3), (4, .int v4), (5, .int v5)]) hx hb dX2_step_73 hl (by decide) rfl (fun ls hl => ?_)
      exact cx_X2_step_L75 r1 x2 x3 hr1 rv σ1 X mm_FU v4 (0 : Int32) σ H locs ls hf hP hS (lv_sub hl [1, 2, 3, 4, 0] rfl)
    · replace hf := mm_if c_1 hf
      refine lv_iload hx hb dX2_step_12 (lv_at hl 3 rfl) ?_
      refine lv_iconst (v := (4 : Int32)) hx hb dX2_step_14 (by decide) ?_
      refine lv_icmp_ge (tgt := 72) hx hb dX2_step_15 (by decide) (fun c_2 => ?_) (fun c_2 => ?_)
      · replace hf := mm_it c_2 hf
        refine lv_iconst (v := (0 : Int32)) hx hb dX2_step_72 (by decide) ?_
        refine lv_istore (lv' := [(6, .int (0 : Int32)), (0, .ref (ad 7 13 0)), (1, .ref (ad r1 0 0)), (3, .int x3), (4, .int v4), (5, .int v5)]) hx hb dX2_step_73 hl (by decide) rfl (fun ls hl => ?_)
        exact cx_X2_step_L75 r1 x2 x3 hr1 rv σ1 X mm_FU v4 (0 : Int32) σ H locs ls hf hP hS (lv_sub hl [1, 2, 3, 4, 0] rfl)
      · replace hf := mm_if c_2 hf
        refine lv_aload_n hx hb dX2_step_18 rfl (lv_at hl 1 rfl) ?_
        refine gf_0_1 X hP hr1 wd_111 dX2_step_19 ?_
        refine lv_iload hx hb dX2_step_22 (lv_at hl 4 rfl) ?_
        obtain ⟨h_3, hf⟩ := mm_gd_ok hf
        refine mm_cart X hP hr1 h_3 dX2_step_24 ?_
        refine gf_6_3 X hP hr1 (mm_ix_lt h_3) wd_73 dX2_step_25 ?_
        obtain ⟨y_4, e_4, hf⟩ := mm_li_ok hf
        rw [← e_4]
        refine lv_istore (lv' := [(6, .int y_4), (0, .ref (ad 7 13 0)), (1, .ref (ad r1 0 0)), (3, .int x3), (4, .int v4), (5, .int v5)]) hx hb dX2_step_28 hl (by decide) rfl (fun ls hl => ?_)
        refine lv_aload_n hx hb dX2_step_30 rfl (lv_at hl 2 rfl) ?_
        refine gf_0_0 X hP hr1 wd_108 dX2_step_31 ?_
        refine lv_iload hx hb dX2_step_34 (lv_at hl 0 rfl) ?_
        refine lv_iload_n hx hb dX2_step_36 rfl (lv_at hl 3 rfl) ?_
        obtain ⟨r_5, s_5, e_5, hf⟩ := mm_bd_ok hf
        refine mm_callV X hP hS hl.1 [.int y_4, .int x3] [] (cx_X1_hasWall l D ad cA hI r1 y_4 x3 hr1 σ r_5 s_5 e_5) (mm_kr r1 hr1 1 (by decide)) rfl rfl wd_603 wd_515 wd_516 wd_3 wd_517 hd_X1_hasWall ⟨Nat.le_of_ble_eq_true rfl, Nat.le_of_ble_eq_true rfl⟩ rfl (Nat.le_of_ble_eq_true rfl) dX2_step_37 (fun H locs hP hS => ?_)
        refine lv_if_eq (tgt := 45) hx hb dX2_step_40 (by decide) (fun c_6 => ?_) (fun c_6 => ?_)
        · replace hf := mm_it c_6 hf
          refine lv_aload_n hx hb dX2_step_45 rfl (lv_at hl 1 rfl) ?_
          refine gf_13_1 X hP  wd_180 dX2_step_46 ?_
          refine lv_iload hx hb dX2_step_49 (lv_at hl 4 rfl) ?_
          refine lv_iload hx hb dX2_step_51 (lv_at hl 5 rfl) ?_
          obtain ⟨h_7, hf⟩ := mm_gd_ok hf
          refine as_15 X hP hS  h_7  dX2_step_53 (fun H locs hP hS => ?_)
          obtain ⟨s_8, e_8, hf⟩ := mm_lt_ok hf
          rw [← e_8] at hP
          obtain ⟨y_9, e_9, hf⟩ := mm_li_ok hf
          refine lv_iinc (v := y_9) (lv' := [(4, .int y_9), (6, .int y_4), (0, .ref (ad 7 13 0)), (1, .ref (ad r1 0 0)), (3, .int x3), (5, .int v5)]) hx hb dX2_step_54 hl (k := 4) rfl (by rw [e_9]; rfl) (by decide) rfl (fun ls hl => ?_)
          refine lv_aload_n hx hb dX2_step_57 rfl (lv_at hl 3 rfl) ?_
          refine lv_iload hx hb dX2_step_58 (lv_at hl 1 rfl) ?_
          refine lv_iload_n hx hb dX2_step_60 rfl (lv_at hl 4 rfl) ?_
          obtain ⟨r_10, s_10, e_10, hf⟩ := mm_bd_ok hf
          refine mm_callS X hP hS hl.1 [.int y_4, .int x3] [.ref (ad r1 0 0)] (cx_X1_neighbour l D ad cA hI y_4 x3 s_8 r_10 s_10 e_10) wd_604 wd_509 wd_3 wd_510 hd_X1_neighbour ⟨Nat.le_of_ble_eq_true rfl, Nat.le_of_ble_eq_true rfl⟩ rfl (Nat.le_of_ble_eq_true rfl) dX2_step_61 (fun H locs hP hS => ?_)
          obtain ⟨r_11, s_11, e_11, hf⟩ := mm_bd_ok hf
          refine mm_callV X hP hS hl.1 [.int r_10] [] (cx_X8_cartOn l D ad cA hI r1 r_10 hr1 s_10 r_11 s_11 e_11) (mm_kr r1 hr1 0 (by decide)) rfl rfl wd_605 wd_380 wd_381 wd_2 wd_382 hd_X8_cartOn ⟨Nat.le_of_ble_eq_true rfl, Nat.le_of_ble_eq_true rfl⟩ rfl (Nat.le_of_ble_eq_true rfl) dX2_step_64 (fun H locs hP hS => ?_)
          refine lv_istore (lv' := [(5, .int r_11), (4, .int y_9), (6, .int y_4), (0, .ref (ad 7 13 0)), (1, .ref (ad r1 0 0)), (3, .int x3)]) hx hb dX2_step_67 hl (by decide) rfl (fun ls hl => ?_)
          refine lv_goto (tgt := 6) hx hb dX2_step_69 (by decide) ?_
          exact ih y_9 r_11 s_11 H locs ls  hf hP hS (lv_sub hl [3, 4, 5, 1, 0] rfl)
        · replace hf := mm_if c_6 hf
          refine lv_iconst (v := (0 : Int32)) hx hb dX2_step_43 (by decide) ?_
          obtain ⟨rfl, rfl⟩ := mm_ret hf
          exact mm_zret (Or.inl rfl) X hP hS dX2_step_44
def fx_X2_step (r1 : Nat) (x2 : Int32) (x3 : Int32) (σ : mm_M) : mm_R := fx_X2_step_L6 r1 x2 x3 mm_FU (0 : Int32) x2 σ
set_option maxHeartbeats 4000000 in
set_option maxRecDepth 100000 in
theorem cx_X2_step (l : Launch) (D : va_G) (ad : mm_A) (cA : Nat → ClassId) (hI : mm_Inj ad) (r1 : Nat) (x2 : Int32) (x3 : Int32) (hr1 : r1 < 6) (σ : mm_M) (rv : Int32) (σ1 : mm_M) (hf : fx_X2_step r1 x2 x3 σ = some (rv, σ1)) : Met l yX2_step (Cond.code yX2_step cX2_step 8 (some .boolean) :: tb) (mm_rm 1 22) (mm_pre D ad cA [.ref (ad 7 13 0), .ref (ad r1 0 0), .int x2, .int x3] σ) (mm_Q D ad cA (some (.int rv)) σ1) 0 0 (mm_AS ad) := by
  refine mm_start (by decide +kernel) hI (Nat.le_of_ble_eq_true rfl) ?_
  intro p e s m args below meth c X hP ls hl
  have hl : lv_has ls 8 [(0, .ref (ad 7 13 0)), (1, .ref (ad r1 0 0)), (2, .int x2), (3, .int x3)] := hl
  have hx := X.1
  have hb := X.2.1
  have hS : va_S (mm_AS ad) s.heap s.heap [] := va_S.rf
  have hgen : ∀ (H : Heap) (locs : List Loc), va_P D vwCl (mm_wd ad cA σ) H → va_S (mm_AS ad) s.heap H locs → W p l e (mm_rm 1 22) s m args below meth c H locs 0 0 (MQ below (mm_Q D ad cA (some (.int rv)) σ1) args s 0 0 (mm_AS ad)) (F0 m 0 ls []) := by
    intro H locs hP hS
    rw [fx_X2_step] at hf
    refine lv_iconst (v := (0 : Int32)) hx hb dX2_step_0 (by decide) ?_
    refine lv_istore (lv' := [(4, .int (0 : Int32)), (0, .ref (ad 7 13 0)), (1, .ref (ad r1 0 0)), (2, .int x2), (3, .int x3)]) hx hb dX2_step_1 hl (by decide) rfl (fun ls hl => ?_)
    refine lv_iload_n hx hb dX2_step_3 rfl (lv_at hl 3 rfl) ?_
    refine lv_istore (lv' := [(5, .int x2), (4, .int (0 : Int32)), (0, .ref (ad 7 13 0)), (1, .ref (ad r1 0 0)), (2, .int x2), (3, .int x3)]) hx hb dX2_step_4 hl (by decide) rfl (fun ls hl => ?_)
    exact cx_X2_step_L6 r1 x2 x3 hr1 rv σ1 X mm_FU (0 : Int32) x2 σ H locs ls hf hP hS (lv_sub hl [2, 3, 5, 1, 0] rfl)
  exact hgen _ _ hP hS
