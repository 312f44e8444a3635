def fx_X3_bump (r0 : Nat) (n0 : Nat) (σ : mm_M) : mm_R := mm_lt (mm_u σ r0 6 n0 8 ((σ r0 6 n0 8) + (1 : Int32))) fun s_1 => (mm_bd (fx_X3_addDamage r0 n0 (1 : Int32) s_1) fun _ s_2 => (some (0, s_2)))
set_option maxHeartbeats 4000000 in
set_option maxRecDepth 100000 in
theorem cx_X3_bump (l : Launch) (D : va_G) (ad : mm_A) (cA : Nat → ClassId) (hI : mm_Inj ad) (r0 : Nat) (n0 : Nat) (hr0 : r0 < 6) (hn0 : n0 < 4) (σ : mm_M) (rv : Int32) (σ1 : mm_M) (hf : fx_X3_bump r0 n0 σ = some (rv, σ1)) : Met l yX3_bump (Cond.code yX3_bump cX3_bump 1 none :: tb) (mm_rm 2 42) (mm_pre D ad cA [.ref (ad r0 6 n0)] σ) (mm_Q D ad cA none σ1) 0 0 (mm_AS ad) := by
  refine mm_start (by decide +kernel) hI (Nat.le_of_ble_eq_true rfl) ?_
  intro p e s m args below meth c X hP ls hl
  have hl : lv_has ls 1 [(0, .ref (ad r0 6 n0))] := hl
  have hx := X.1
  have hb := X.2.1
  have hS : va_S (mm_AS ad) s.heap s.heap [] := va_S.rf
  have hgen : ∀ (H : Heap) (locs : List Loc), va_P D vwCl (mm_wd ad cA σ) H → va_S (mm_AS ad) s.heap H locs → W p l e (mm_rm 2 42) s m args below meth c H locs 0 0 (MQ below (mm_Q D ad cA none σ1) args s 0 0 (mm_AS ad)) (F0 m 0 ls []) := by
    intro H locs hP hS
    rw [fx_X3_bump] at hf
    refine lv_aload_n hx hb dX3_bump_0 rfl (lv_at hl 0 rfl) ?_
    refine lv_dup hx hb dX3_bump_1 rfl ?_
    refine gf_6_8 X hP hr0 hn0 wd_86 dX3_bump_2 ?_
    refine lv_iconst (v := (1 : Int32)) hx hb dX3_bump_5 (by decide) ?_
    refine lv_iadd hx hb dX3_bump_6 ?_
    refine pf_6_8 X hP hS hr0 hn0 wd_86  dX3_bump_7 (fun H locs hP hS => ?_)
    obtain ⟨s_1, e_1, hf⟩ := mm_lt_ok hf
    rw [← e_1] at hP
    refine lv_aload_n hx hb dX3_bump_10 rfl (lv_at hl 0 rfl) ?_
    refine lv_iconst (v := (1 : Int32)) hx hb dX3_bump_11 (by decide) ?_
    obtain ⟨r_2, s_2, e_2, hf⟩ := mm_bd_ok hf
    refine mm_callV X hP hS hl.1 [.int (1 : Int32)] [] (cx_X3_addDamage l D ad cA hI r0 n0 (1 : Int32) hr0 hn0 s_1 r_2 s_2 e_2) (mm_kc r0 hr0 n0 hn0 0 (by decide)) rfl rfl wd_614 wd_561 wd_562 wd_4 wd_563 hd_X3_addDamage ⟨Nat.le_of_ble_eq_true rfl, Nat.le_of_ble_eq_true rfl⟩ rfl (Nat.le_of_ble_eq_true rfl) dX3_bump_12 (fun H locs hP hS => ?_)
    obtain ⟨rfl, rfl⟩ := mm_ret hf
    exact mm_vret X hP hS dX3_bump_15
  exact hgen _ _ hP hS
def fx_X2_follow_J176 (r1 : Nat) (x2 : Int32) (k141 : Int32 → Int32 → Int32 → Int32 → mm_M → mm_R) (v5 : Int32) (v6 : Int32) (v8 : Int32) (w0 : Int32) (σ : mm_M) : mm_R := mm_li (v8 + (1 : Int32)) fun y_27 => (k141 v5 v6 w0 y_27 σ)
set_option maxHeartbeats 4000000 in
set_option maxRecDepth 100000 in
theorem cx_X2_follow_J176 {p : Program} {l : Launch} {e : Env} {s : State} {m : MethodId} {args : Array Value} {below : List Frame} {meth : Method} {c : Code} {D : va_G} {ad : mm_A} {cA : Nat → ClassId} (r1 : Nat) (x2 : Int32) (hr1 : r1 < 6) (rv : Int32) (σ1 : mm_M) (k141 : Int32 → Int32 → Int32 → Int32 → mm_M → mm_R) (hk141 : ∀ (v5 : Int32) (v6 : Int32) (v7 : Int32) (v8 : Int32) (σ : mm_M) (H : Heap) (locs : List Loc) (ls : Array Slot), x2.toNatClampNeg < 4 → k141 v5 v6 v7 v8 σ = some (rv, σ1) → va_P D vwCl (mm_wd ad cA σ) H → va_S (mm_AS ad) s.heap H locs → lv_has ls 9 [(0, .ref (ad 7 13 0)), (1, .ref (ad r1 0 0)), (2, .int x2), (3, .ref (ad r1 6 x2.toNatClampNeg)), (5, .int v5), (6, .int v6), (7, .int v7), (8, .int v8)] → W p l e (mm_rm 3 62) s m args below meth c H locs 0 0 (MQ below (mm_Q D ad cA none σ1) args s 0 0 (mm_AS ad)) (F0 m 141 ls [])) (X : mm_X p s m args meth c cX2_follow 9 none RX2 D ad cA) : ∀ (v5 : Int32) (v6 : Int32) (v8 : Int32) (w0 : Int32) (σ : mm_M) (H : Heap) (locs : List Loc) (ls : Array Slot), x2.toNatClampNeg < 4 → fx_X2_follow_J176 r1 x2 k141 v5 v6 v8 w0 σ = some (rv, σ1) → va_P D vwCl (mm_wd ad cA σ) H → va_S (mm_AS ad) s.heap H locs → lv_has ls 9 [(0, .ref (ad 7 13 0)), (1, .ref (ad r1 0 0)), (2, .int x2), (3, .ref (ad r1 6 x2.toNatClampNeg)), (5, .int v5), (6, .int v6), (8, .int v8)] → W p l e (mm_rm 3 62) s m args below meth c H locs 0 0 (MQ below (mm_Q D ad cA none σ1) args s 0 0 (mm_AS ad)) (F0 m 176 ls [.int w0]) := by
  have hx := X.1
  have hb := X.2.1
  have hI := X.2.2.2.2.2.2.2.2.2
  intro v5 v6 v8 w0 σ H locs ls hb_x2_toNatClampNeg hf hP hS hl
  rw [fx_X2_follow_J176] at hf
  refine lv_istore (lv' := [(7, .int w0), (0, .ref (ad 7 13 0)), (1, .ref (ad r1 0 0)), (2, .int x2), (3, .ref (ad r1 6 x2.toNatClampNeg)), (5, .int v5), (6, .int v6), (8, .int v8)]) hx hb dX2_follow_176 hl (by decide) rfl (fun ls hl => ?_)
  obtain ⟨y_27, e_27, hf⟩ := mm_li_ok hf
  refine lv_iinc (v := y_27) (lv' := [(8, .int y_27), (7, .int w0), (0, .ref (ad 7 13 0)), (1, .ref (ad r1 0 0)), (2, .int x2), (3, .ref (ad r1 6 x2.toNatClampNeg)), (5, .int v5), (6, .int v6)]) hx hb dX2_follow_178 hl (k := 7) rfl (by rw [e_27]; rfl) (by decide) rfl (fun ls hl => ?_)
  refine lv_goto (tgt := 141) hx hb dX2_follow_181 (by decide) ?_
  exact hk141 v5 v6 w0 y_27 σ H locs ls hb_x2_toNatClampNeg hf hP hS (lv_sub hl [2, 3, 4, 5, 6, 7, 1, 0] rfl)
def fx_X2_follow_J184 (r1 : Nat) (x2 : Int32)  (v7 : Int32) (σ : mm_M) : mm_R := if v7 = (0 : Int32) then some (0, σ) else mm_bd (fx_X3_bump r1 x2.toNatClampNeg σ) fun _ s_26 => (some (0, s_26))
set_option maxHeartbeats 4000000 in
set_option maxRecDepth 100000 in
theorem cx_X2_follow_J184 {p : Program} {l : Launch} {e : Env} {s : State} {m : MethodId} {args : Array Value} {below : List Frame} {meth : Method} {c : Code} {D : va_G} {ad : mm_A} {cA : Nat → ClassId} (r1 : Nat) (x2 : Int32) (hr1 : r1 < 6) (rv : Int32) (σ1 : mm_M)  (X : mm_X p s m args meth c cX2_follow 9 none RX2 D ad cA) : ∀ (v7 : Int32) (σ : mm_M) (H : Heap) (locs : List Loc) (ls : Array Slot), x2.toNatClampNeg < 4 → fx_X2_follow_J184 r1 x2 v7 σ = some (rv, σ1) → va_P D vwCl (mm_wd ad cA σ) H → va_S (mm_AS ad) s.heap H locs → lv_has ls 9 [(3, .ref (ad r1 6 x2.toNatClampNeg)), (7, .int v7)] → W p l e (mm_rm 3 62) s m args below meth c H locs 0 0 (MQ below (mm_Q D ad cA none σ1) args s 0 0 (mm_AS ad)) (F0 m 184 ls []) := by
  have hx := X.1
  have hb := X.2.1
  have hI := X.2.2.2.2.2.2.2.2.2
  intro v7 σ H locs ls hb_x2_toNatClampNeg hf hP hS hl
  rw [fx_X2_follow_J184] at hf
  refine lv_iload hx hb dX2_follow_184 (lv_at hl 1 rfl) ?_
  refine lv_if_eq (tgt := 193) hx hb dX2_follow_186 (by decide) (fun c_25 => ?_) (fun c_25 => ?_)
  · replace hf := mm_it c_25 hf
    obtain ⟨rfl, rfl⟩ := mm_ret hf
    exact mm_vret X hP hS dX2_follow_193
  · replace hf := mm_if c_25 hf
    refine lv_aload_n hx hb dX2_follow_189 rfl (lv_at hl 0 rfl) ?_
    obtain ⟨r_26, s_26, e_26, hf⟩ := mm_bd_ok hf
    refine mm_callV X hP hS hl.1 [] [] (cx_X3_bump l D ad cA hI r1 x2.toNatClampNeg hr1 hb_x2_toNatClampNeg σ r_26 s_26 e_26) (mm_kc r1 hr1 x2.toNatClampNeg hb_x2_toNatClampNeg 0 (by decide)) rfl rfl wd_610 wd_611 wd_612 wd_4 wd_613 hd_X3_bump ⟨Nat.le_of_ble_eq_true rfl, Nat.le_of_ble_eq_true rfl⟩ rfl (Nat.le_of_ble_eq_true rfl) dX2_follow_190 (fun H locs hP hS => ?_)
    obtain ⟨rfl, rfl⟩ := mm_ret hf
    exact mm_vret X hP hS dX2_follow_193
def fx_X2_follow_L141 (r1 : Nat) (x2 : Int32)  : Nat → Int32 → Int32 → Int32 → Int32 → mm_M → mm_R
  | 0, _, _, _, _, _ => none
  | fu + 1, v5, v6, v7, v8, σ => if v6 ≤ v8 then fx_X2_follow_J184 r1 x2 v7 σ else if v7 = (0 : Int32) then mm_bd (fx_X3_isOut r1 x2.toNatClampNeg σ) fun r_21 s_21 => (if r_21 = (0 : Int32) then mm_bd (fx_X2_step r1 x2 v5 s_21) fun r_23 s_23 => (if r_23 = (0 : Int32) then fx_X2_follow_J176 r1 x2 (fun z0 z1 z2 z3 z => fx_X2_follow_L141 r1 x2 fu z0 z1 z2 z3 z) v5 v6 v8 (1 : Int32) s_23 else fx_X2_follow_J176 r1 x2 (fun z0 z1 z2 z3 z => fx_X2_follow_L141 r1 x2 fu z0 z1 z2 z3 z) v5 v6 v8 (0 : Int32) s_23) else fx_X2_follow_J184 r1 x2 v7 s_21) else fx_X2_follow_J184 r1 x2 v7 σ
set_option maxHeartbeats 4000000 in
set_option maxRecDepth 100000 in
theorem cx_X2_follow_L141 {p : Program} {l : Launch} {e : Env} {s : State} {m : MethodId} {args : Array Value} {below : List Frame} {meth : Method} {c : Code} {D : va_G} {ad : mm_A} {cA : Nat → ClassId} (r1 : Nat) (x2 : Int32) (hr1 : r1 < 6) (rv : Int32) (σ1 : mm_M)  (X : mm_X p s m args meth c cX2_follow 9 none RX2 D ad cA) : ∀ (fu : Nat), ∀ (v5 : Int32) (v6 : Int32) (v7 : Int32) (v8 : Int32) (σ : mm_M) (H : Heap) (locs : List Loc) (ls : Array Slot), x2.toNatClampNeg < 4 → fx_X2_follow_L141 r1 x2 fu v5 v6 v7 v8 σ = some (rv, σ1) → va_P D vwCl (mm_wd ad cA σ) H → va_S (mm_AS ad) s.heap H locs → lv_has ls 9 [(0, .ref (ad 7 13 0)), (1, .ref (ad r1 0 0)), (2, .int x2), (3, .ref (ad r1 6 x2.toNatClampNeg)), (5, .int v5), (6, .int v6), (7, .int v7), (8, .int v8)] → W p l e (mm_rm 3 62) s m args below meth c H locs 0 0 (MQ below (mm_Q D ad cA none σ1) args s 0 0 (mm_AS ad)) (F0 m 141 ls []) := by
  have hx := X.1
  have hb := X.2.1
  have hI := X.2.2.2.2.2.2.2.2.2
  intro fu
  induction fu with
  | zero =>
    intro v5 v6 v7 v8 σ H locs ls hb_x2_toNatClampNeg hf
    exact mm_no hf
  | succ fu ih =>
    intro v5 v6 v7 v8 σ H locs ls hb_x2_toNatClampNeg hf hP hS hl
    rw [fx_X2_follow_L141] at hf
    refine lv_iload hx hb dX2_follow_141 (lv_at hl 7 rfl) ?_
    refine lv_iload hx hb dX2_follow_143 (lv_at hl 5 rfl) ?_
    refine lv_icmp_ge (tgt := 184) hx hb dX2_follow_145 (by decide) (fun c_19 => ?_) (fun c_19 => ?_)
    · replace hf := mm_it c_19 hf
      exact cx_X2_follow_J184 r1 x2 hr1 rv σ1 X v7 σ H locs ls hb_x2_toNatClampNeg hf hP hS (lv_sub hl [3, 6] rfl)
    · replace hf := mm_if c_19 hf
      refine lv_iload hx hb dX2_follow_148 (lv_at hl 6 rfl) ?_
      refine lv_if_ne (tgt := 184) hx hb dX2_follow_150 (by decide) (fun c_20 => ?_) (fun c_20 => ?_)
      · replace hf := mm_if c_20 hf
        exact cx_X2_follow_J184 r1 x2 hr1 rv σ1 X v7 σ H locs ls hb_x2_toNatClampNeg hf hP hS (lv_sub hl [3, 6] rfl)
      · replace hf := mm_it c_20 hf
        refine lv_aload_n hx hb dX2_follow_153 rfl (lv_at hl 3 rfl) ?_
        obtain ⟨r_21, s_21, e_21, hf⟩ := mm_bd_ok hf
        refine mm_callV X hP hS hl.1 [] [] (cx_X3_isOut l D ad cA hI r1 x2.toNatClampNeg hr1 hb_x2_toNatClampNeg σ r_21 s_21 e_21) (mm_kc r1 hr1 x2.toNatClampNeg hb_x2_toNatClampNeg 0 (by decide)) rfl rfl wd_588 wd_314 wd_315 wd_4 wd_316 hd_X3_isOut ⟨Nat.le_of_ble_eq_true rfl, Nat.le_of_ble_eq_true rfl⟩ rfl (Nat.le_of_ble_eq_true rfl) dX2_follow_154 (fun H locs hP hS => ?_)
        refine lv_if_ne (tgt := 184) hx hb dX2_follow_157 (by decide) (fun c_22 => ?_) (fun c_22 => ?_)
        · replace hf := mm_if c_22 hf
          exact cx_X2_follow_J184 r1 x2 hr1 rv σ1 X v7 s_21 H locs ls hb_x2_toNatClampNeg hf hP hS (lv_sub hl [3, 6] rfl)
        · replace hf := mm_it c_22 hf
          refine lv_aload_n hx hb dX2_follow_160 rfl (lv_at hl 0 rfl) ?_
          refine lv_aload_n hx hb dX2_follow_161 rfl (lv_at hl 1 rfl) ?_
          refine lv_iload_n hx hb dX2_follow_162 rfl (lv_at hl 2 rfl) ?_
          refine lv_iload hx hb dX2_follow_163 (lv_at hl 4 rfl) ?_
          obtain ⟨r_23, s_23, e_23, hf⟩ := mm_bd_ok hf
          refine mm_callV X hP hS hl.1 [.ref (ad r1 0 0), .int x2, .int v5] [] (cx_X2_step l D ad cA hI r1 x2 v5 hr1 s_21 r_23 s_23 e_23) kp_13 rfl rfl wd_599 wd_601 wp_5 wd_7 wd_602 hd_X2_step ⟨Nat.le_of_ble_eq_true rfl, Nat.le_of_ble_eq_true rfl⟩ rfl (Nat.le_of_ble_eq_true rfl) dX2_follow_165 (fun H locs hP hS => ?_)
          refine lv_if_ne (tgt := 175) hx hb dX2_follow_168 (by decide) (fun c_24 => ?_) (fun c_24 => ?_)
          · replace hf := mm_if c_24 hf
            refine lv_iconst (v := (0 : Int32)) hx hb dX2_follow_175 (by decide) ?_
            exact cx_X2_follow_J176 r1 x2 hr1 rv σ1 (fun z0 z1 z2 z3 z => fx_X2_follow_L141 r1 x2 fu z0 z1 z2 z3 z) ih X v5 v6 v8 (0 : Int32) s_23 H locs ls hb_x2_toNatClampNeg hf hP hS (lv_sub hl [0, 1, 2, 3, 4, 5, 7] rfl)
          · replace hf := mm_it c_24 hf
            refine lv_iconst (v := (1 : Int32)) hx hb dX2_follow_171 (by decide) ?_
            refine lv_goto (tgt := 176) hx hb dX2_follow_172 (by decide) ?_
            exact cx_X2_follow_J176 r1 x2 hr1 rv σ1 (fun z0 z1 z2 z3 z => fx_X2_follow_L141 r1 x2 fu z0 z1 z2 z3 z) ih X v5 v6 v8 (1 : Int32) s_23 H locs ls hb_x2_toNatClampNeg hf hP hS (lv_sub hl [0, 1, 2, 3, 4, 5, 7] rfl)
def fx_X2_follow_J135 (r1 : Nat) (x2 : Int32)  (v5 : Int32) (v6 : Int32) (σ : mm_M) : mm_R := fx_X2_follow_L141 r1 x2 mm_FU v5 v6 (0 : Int32) (0 : Int32) σ
set_option maxHeartbeats 4000000 in
set_option maxRecDepth 100000 in
theorem cx_X2_follow_J135 {p : Program} {l : Launch} {e : Env} {s : State} {m : MethodId} {args : Array Value} {below : List Frame} {meth : Method} {c : Code} {D : va_G} {ad : mm_A} {cA : Nat → ClassId} (r1 : Nat) (x2 : Int32) (hr1 : r1 < 6) (rv : Int32) (σ1 : mm_M)  (X : mm_X p s m args meth c cX2_follow 9 none RX2 D ad cA) : ∀ (v5 : Int32) (v6 : Int32) (σ : mm_M) (H : Heap) (locs : List Loc) (ls : Array Slot), x2.toNatClampNeg < 4 → fx_X2_follow_J135 r1 x2 v5 v6 σ = some (rv, σ1) → va_P D vwCl (mm_wd ad cA σ) H → va_S (mm_AS ad) s.heap H locs → lv_has ls 9 [(0, .ref (ad 7 13 0)), (1, .ref (ad r1 0 0)), (2, .int x2), (3, .ref (ad r1 6 x2.toNatClampNeg)), (5, .int v5), (6, .int v6)] → W p l e (mm_rm 3 62) s m args below meth c H locs 0 0 (MQ below (mm_Q D ad cA none σ1) args s 0 0 (mm_AS ad)) (F0 m 135 ls []) := by
  have hx := X.1
  have hb := X.2.1
  have hI := X.2.2.2.2.2.2.2.2.2
  intro v5 v6 σ H locs ls hb_x2_toNatClampNeg hf hP hS hl
  rw [fx_X2_follow_J135] at hf
  refine lv_iconst (v := (0 : Int32)) hx hb dX2_follow_135 (by decide) ?_
  refine lv_istore (lv' := [(7, .int (0 : Int32)), (0, .ref (ad 7 13 0)), (1, .ref (ad r1 0 0)), (2, .int x2), (3, .ref (ad r1 6 x2.toNatClampNeg)), (5, .int v5), (6, .int v6)]) hx hb dX2_follow_136 hl (by decide) rfl (fun ls hl => ?_)
  refine lv_iconst (v := (0 : Int32)) hx hb dX2_follow_138 (by decide) ?_
  refine lv_istore (lv' := [(8, .int (0 : Int32)), (7, .int (0 : Int32)), (0, .ref (ad 7 13 0)), (1, .ref (ad r1 0 0)), (2, .int x2), (3, .ref (ad r1 6 x2.toNatClampNeg)), (5, .int v5), (6, .int v6)]) hx hb dX2_follow_139 hl (by decide) rfl (fun ls hl => ?_)
  exact cx_X2_follow_L141 r1 x2 hr1 rv σ1 X mm_FU v5 v6 (0 : Int32) (0 : Int32) σ H locs ls hb_x2_toNatClampNeg hf hP hS (lv_sub hl [2, 3, 4, 5, 6, 7, 1, 0] rfl)
def fx_X2_follow (r1 : Nat) (x2 : Int32) (σ : mm_M) : mm_R := mm_gd (mm_ix x2 4 = true) (mm_bd (fx_X3_isOut r1 x2.toNatClampNeg σ) fun r_2 s_2 => (if r_2 = (0 : Int32) then mm_gd (mm_ix (s_2 r1 0 0 3) 5 = true) (mm_li (s_2 r1 7 x2.toNatClampNeg (s_2 r1 0 0 3).toNatClampNeg) fun y_5 => (mm_li (s_2 r1 6 x2.toNatClampNeg 4) fun y_6 => (if y_5 = (3 : Int32) then mm_bd (fx_X10_turned (s_2 r1 6 x2.toNatClampNeg 4) (2 : Int32) s_2) fun r_8 s_8 => (fx_X2_follow_J135 r1 x2 r_8 (1 : Int32) s_8) else if y_5 = (4 : Int32) then mm_bd (fx_X10_turned (s_2 r1 6 x2.toNatClampNeg 4) (3 : Int32) s_2) fun r_10 s_10 => (mm_lt (mm_u s_10 r1 6 x2.toNatClampNeg 4 r_10) fun s_11 => (fx_X2_follow_J135 r1 x2 y_6 (0 : Int32) s_11)) else if y_5 = (5 : Int32) then mm_bd (fx_X10_turned (s_2 r1 6 x2.toNatClampNeg 4) (1 : Int32) s_2) fun r_13 s_13 => (mm_lt (mm_u s_13 r1 6 x2.toNatClampNeg 4 r_13) fun s_14 => (fx_X2_follow_J135 r1 x2 y_6 (0 : Int32) s_14)) else if y_5 = (6 : Int32) then mm_bd (fx_X10_turned (s_2 r1 6 x2.toNatClampNeg 4) (2 : Int32) s_2) fun r_16 s_16 => (mm_lt (mm_u s_16 r1 6 x2.toNatClampNeg 4 r_16) fun s_17 => (fx_X2_follow_J135 r1 x2 y_6 (0 : Int32) s_17)) else mm_li (y_5 + (1 : Int32)) fun y_18 => (fx_X2_follow_J135 r1 x2 y_6 y_18 s_2)))) else some (0, s_2)))
set_option maxHeartbeats 4000000 in
set_option maxRecDepth 100000 in
theorem cx_X2_follow (l : Launch) (D : va_G) (ad : mm_A) (cA : Nat → ClassId) (hI : mm_Inj ad) (r1 : Nat) (x2 : Int32) (hr1 : r1 < 6) (σ : mm_M) (rv : Int32) (σ1 : mm_M) (hf : fx_X2_follow r1 x2 σ = some (rv, σ1)) : Met l yX2_follow (Cond.code yX2_follow cX2_follow 9 none :: tb) (mm_rm 3 62) (mm_pre D ad cA [.ref (ad 7 13 0), .ref (ad r1 0 0), .int x2] σ) (mm_Q D ad cA none σ1) 0 0 (mm_AS ad) := by
  refine mm_start (by decide +kernel) hI (Nat.le_of_ble_eq_true rfl) ?_
  intro p e s m args below meth c X hP ls hl
  have hl : lv_has ls 9 [(0, .ref (ad 7 13 0)), (1, .ref (ad r1 0 0)), (2, .int x2)] := hl
  have hx := X.1
  have hb := X.2.1
  have hS : va_S (mm_AS ad) s.heap s.heap [] := va_S.rf
  have hgen : ∀ (H : Heap) (locs : List Loc), va_P D vwCl (mm_wd ad cA σ) H → va_S (mm_AS ad) s.heap H locs → W p l e (mm_rm 3 62) s m args below meth c H locs 0 0 (MQ below (mm_Q D ad cA none σ1) args s 0 0 (mm_AS ad)) (F0 m 0 ls []) := by
    intro H locs hP hS
    rw [fx_X2_follow] at hf
    refine lv_aload_n hx hb dX2_follow_0 rfl (lv_at hl 1 rfl) ?_
    refine gf_0_1 X hP hr1 wd_111 dX2_follow_1 ?_
    refine lv_iload_n hx hb dX2_follow_4 rfl (lv_at hl 2 rfl) ?_
    obtain ⟨h_1, hf⟩ := mm_gd_ok hf
    refine mm_cart X hP hr1 h_1 dX2_follow_5 ?_
    refine lv_astore_n (lv' := [(3, .ref (ad r1 6 x2.toNatClampNeg)), (0, .ref (ad 7 13 0)), (1, .ref (ad r1 0 0)), (2, .int x2)]) hx hb dX2_follow_6 rfl hl (by decide) rfl (fun ls hl => ?_)
    refine lv_aload_n hx hb dX2_follow_7 rfl (lv_at hl 0 rfl) ?_
    obtain ⟨r_2, s_2, e_2, hf⟩ := mm_bd_ok hf
    refine mm_callV X hP hS hl.1 [] [] (cx_X3_isOut l D ad cA hI r1 x2.toNatClampNeg hr1 (mm_ix_lt h_1) σ r_2 s_2 e_2) (mm_kc r1 hr1 x2.toNatClampNeg (mm_ix_lt h_1) 0 (by decide)) rfl rfl wd_588 wd_314 wd_315 wd_4 wd_316 hd_X3_isOut ⟨Nat.le_of_ble_eq_true rfl, Nat.le_of_ble_eq_true rfl⟩ rfl (Nat.le_of_ble_eq_true rfl) dX2_follow_8 (fun H locs hP hS => ?_)
    refine lv_if_eq (tgt := 15) hx hb dX2_follow_11 (by decide) (fun c_3 => ?_) (fun c_3 => ?_)
    · replace hf := mm_it c_3 hf
      refine lv_aload_n hx hb dX2_follow_15 rfl (lv_at hl 0 rfl) ?_
      refine gf_6_0 X hP hr1 (mm_ix_lt h_1) wd_63 dX2_follow_16 ?_
      refine lv_aload_n hx hb dX2_follow_19 rfl (lv_at hl 2 rfl) ?_
      refine gf_0_3 X hP hr1 wd_119 dX2_follow_20 ?_
      obtain ⟨h_4, hf⟩ := mm_gd_ok hf
      refine al_7 X hP hr1 (mm_ix_lt h_1) h_4 dX2_follow_23 ?_
      obtain ⟨y_5, e_5, hf⟩ := mm_li_ok hf
      rw [← e_5]
      refine lv_istore (lv' := [(4, .int y_5), (3, .ref (ad r1 6 x2.toNatClampNeg)), (0, .ref (ad 7 13 0)), (1, .ref (ad r1 0 0)), (2, .int x2)]) hx hb dX2_follow_24 hl (by decide) rfl (fun ls hl => ?_)
      refine lv_aload_n hx hb dX2_follow_26 rfl (lv_at hl 1 rfl) ?_
      refine gf_6_4 X hP hr1 (mm_ix_lt h_1) wd_76 dX2_follow_27 ?_
      obtain ⟨y_6, e_6, hf⟩ := mm_li_ok hf
      rw [← e_6]
      refine lv_istore (lv' := [(5, .int y_6), (4, .int y_5), (3, .ref (ad r1 6 x2.toNatClampNeg)), (0, .ref (ad 7 13 0)), (1, .ref (ad r1 0 0)), (2, .int x2)]) hx hb dX2_follow_30 hl (by decide) rfl (fun ls hl => ?_)
      refine lv_iconst (v := (0 : Int32)) hx hb dX2_follow_32 (by decide) ?_
      refine lv_istore (lv' := [(6, .int (0 : Int32)), (5, .int y_6), (4, .int y_5), (3, .ref (ad r1 6 x2.toNatClampNeg)), (0, .ref (ad 7 13 0)), (1, .ref (ad r1 0 0)), (2, .int x2)]) hx hb dX2_follow_33 hl (by decide) rfl (fun ls hl => ?_)
      refine lv_iload hx hb dX2_follow_35 (lv_at hl 2 rfl) ?_
      by_cases c_7 : y_5 = (3 : Int32)
      · replace hf := mm_it c_7 hf
        refine mm_tabIn (off := 76) (tgt := 113) X (3 : Int32) c_7 dX2_follow_37 (by decide +kernel) (by decide +kernel) (by decide) ?_
        refine lv_aload_n hx hb dX2_follow_113 rfl (lv_at hl 3 rfl) ?_
        refine gf_6_4 X hP hr1 (mm_ix_lt h_1) wd_76 dX2_follow_114 ?_
        refine lv_iconst (v := (2 : Int32)) hx hb dX2_follow_117 (by decide) ?_
        obtain ⟨r_8, s_8, e_8, hf⟩ := mm_bd_ok hf
        refine mm_callN (host := "LockedCarts") X hP hS hl.1 [.int (s_2 r1 6 x2.toNatClampNeg 4), .int (2 : Int32)] [] (cx_X10_turned l D ad cA hI (s_2 r1 6 x2.toNatClampNeg 4) (2 : Int32) s_2 r_8 s_8 e_8) nw_15 wd_512 wd_1 wd_513 hd_X10_turned ⟨Nat.le_of_ble_eq_true rfl, Nat.le_of_ble_eq_true rfl⟩ rfl (Nat.le_of_ble_eq_true rfl) dX2_follow_118 (fun H locs hP hS => ?_)
        refine lv_istore (lv' := [(5, .int r_8), (6, .int (0 : Int32)), (4, .int y_5), (3, .ref (ad r1 6 x2.toNatClampNeg)), (0, .ref (ad 7 13 0)), (1, .ref (ad r1 0 0)), (2, .int x2)]) hx hb dX2_follow_121 hl (by decide) rfl (fun ls hl => ?_)
        refine lv_iconst (v := (1 : Int32)) hx hb dX2_follow_123 (by decide) ?_
        refine lv_istore (lv' := [(6, .int (1 : Int32)), (5, .int r_8), (4, .int y_5), (3, .ref (ad r1 6 x2.toNatClampNeg)), (0, .ref (ad 7 13 0)), (1, .ref (ad r1 0 0)), (2, .int x2)]) hx hb dX2_follow_124 hl (by decide) rfl (fun ls hl => ?_)
        refine lv_goto (tgt := 135) hx hb dX2_follow_126 (by decide) ?_
        exact cx_X2_follow_J135 r1 x2 hr1 rv σ1 X r_8 (1 : Int32) s_8 H locs ls (mm_ix_lt h_1) hf hP hS (lv_sub hl [4, 5, 6, 3, 1, 0] rfl)
      replace hf := mm_if c_7 hf
      by_cases c_9 : y_5 = (4 : Int32)
      · replace hf := mm_it c_9 hf
        refine mm_tabIn (off := 31) (tgt := 68) X (4 : Int32) c_9 dX2_follow_37 (by decide +kernel) (by decide +kernel) (by decide) ?_
        refine lv_aload_n hx hb dX2_follow_68 rfl (lv_at hl 3 rfl) ?_
        refine lv_aload_n hx hb dX2_follow_69 rfl (lv_at hl 3 rfl) ?_
        refine gf_6_4 X hP hr1 (mm_ix_lt h_1) wd_76 dX2_follow_70 ?_
        refine lv_iconst (v := (3 : Int32)) hx hb dX2_follow_73 (by decide) ?_
        obtain ⟨r_10, s_10, e_10, hf⟩ := mm_bd_ok hf
        refine mm_callN (host := "LockedCarts") X hP hS hl.1 [.int (s_2 r1 6 x2.toNatClampNeg 4), .int (3 : Int32)] [.ref (ad r1 6 x2.toNatClampNeg)] (cx_X10_turned l D ad cA hI (s_2 r1 6 x2.toNatClampNeg 4) (3 : Int32) s_2 r_10 s_10 e_10) nw_15 wd_512 wd_1 wd_513 hd_X10_turned ⟨Nat.le_of_ble_eq_true rfl, Nat.le_of_ble_eq_true rfl⟩ rfl (Nat.le_of_ble_eq_true rfl) dX2_follow_74 (fun H locs hP hS => ?_)
        refine pf_6_4 X hP hS hr1 (mm_ix_lt h_1) wd_76  dX2_follow_77 (fun H locs hP hS => ?_)
        obtain ⟨s_11, e_11, hf⟩ := mm_lt_ok hf
        rw [← e_11] at hP
        refine lv_goto (tgt := 135) hx hb dX2_follow_80 (by decide) ?_
        exact cx_X2_follow_J135 r1 x2 hr1 rv σ1 X y_6 (0 : Int32) s_11 H locs ls (mm_ix_lt h_1) hf hP hS (lv_sub hl [4, 5, 6, 3, 1, 0] rfl)
      replace hf := mm_if c_9 hf
      by_cases c_12 : y_5 = (5 : Int32)
      · replace hf := mm_it c_12 hf
        refine mm_tabIn (off := 46) (tgt := 83) X (5 : Int32) c_12 dX2_follow_37 (by decide +kernel) (by decide +kernel) (by decide) ?_
        refine lv_aload_n hx hb dX2_follow_83 rfl (lv_at hl 3 rfl) ?_
        refine lv_aload_n hx hb dX2_follow_84 rfl (lv_at hl 3 rfl) ?_
        refine gf_6_4 X hP hr1 (mm_ix_lt h_1) wd_76 dX2_follow_85 ?_
        refine lv_iconst (v := (1 : Int32)) hx hb dX2_follow_88 (by decide) ?_
        obtain ⟨r_13, s_13, e_13, hf⟩ := mm_bd_ok hf
        refine mm_callN (host := "LockedCarts") X hP hS hl.1 [.int (s_2 r1 6 x2.toNatClampNeg 4), .int (1 : Int32)] [.ref (ad r1 6 x2.toNatClampNeg)] (cx_X10_turned l D ad cA hI (s_2 r1 6 x2.toNatClampNeg 4) (1 : Int32) s_2 r_13 s_13 e_13) nw_15 wd_512 wd_1 wd_513 hd_X10_turned ⟨Nat.le_of_ble_eq_true rfl, Nat.le_of_ble_eq_true rfl⟩ rfl (Nat.le_of_ble_eq_true rfl) dX2_follow_89 (fun H locs hP hS => ?_)
        refine pf_6_4 X hP hS hr1 (mm_ix_lt h_1) wd_76  dX2_follow_92 (fun H locs hP hS => ?_)
        obtain ⟨s_14, e_14, hf⟩ := mm_lt_ok hf
        rw [← e_14] at hP
        refine lv_goto (tgt := 135) hx hb dX2_follow_95 (by decide) ?_
        exact cx_X2_follow_J135 r1 x2 hr1 rv σ1 X y_6 (0 : Int32) s_14 H locs ls (mm_ix_lt h_1) hf hP hS (lv_sub hl [4, 5, 6, 3, 1, 0] rfl)
      replace hf := mm_if c_12 hf
      by_cases c_15 : y_5 = (6 : Int32)
      · replace hf := mm_it c_15 hf
        refine mm_tabIn (off := 61) (tgt := 98) X (6 : Int32) c_15 dX2_follow_37 (by decide +kernel) (by decide +kernel) (by decide) ?_
        refine lv_aload_n hx hb dX2_follow_98 rfl (lv_at hl 3 rfl) ?_
        refine lv_aload_n hx hb dX2_follow_99 rfl (lv_at hl 3 rfl) ?_
        refine gf_6_4 X hP hr1 (mm_ix_lt h_1) wd_76 dX2_follow_100 ?_
        refine lv_iconst (v := (2 : Int32)) hx hb dX2_follow_103 (by decide) ?_
        obtain ⟨r_16, s_16, e_16, hf⟩ := mm_bd_ok hf
        refine mm_callN (host := "LockedCarts") X hP hS hl.1 [.int (s_2 r1 6 x2.toNatClampNeg 4), .int (2 : Int32)] [.ref (ad r1 6 x2.toNatClampNeg)] (cx_X10_turned l D ad cA hI (s_2 r1 6 x2.toNatClampNeg 4) (2 : Int32) s_2 r_16 s_16 e_16) nw_15 wd_512 wd_1 wd_513 hd_X10_turned ⟨Nat.le_of_ble_eq_true rfl, Nat.le_of_ble_eq_true rfl⟩ rfl (Nat.le_of_ble_eq_true rfl) dX2_follow_104 (fun H locs hP hS => ?_)
        refine pf_6_4 X hP hS hr1 (mm_ix_lt h_1) wd_76  dX2_follow_107 (fun H locs hP hS => ?_)
        obtain ⟨s_17, e_17, hf⟩ := mm_lt_ok hf
        rw [← e_17] at hP
        refine lv_goto (tgt := 135) hx hb dX2_follow_110 (by decide) ?_
        exact cx_X2_follow_J135 r1 x2 hr1 rv σ1 X y_6 (0 : Int32) s_17 H locs ls (mm_ix_lt h_1) hf hP hS (lv_sub hl [4, 5, 6, 3, 1, 0] rfl)
      replace hf := mm_if c_15 hf
      refine lv_tableOut (tgt := 129) hx hb dX2_follow_37 (by have q_7 := lv_neT c_7 (a := 3) (by decide); have q_9 := lv_neT c_9 (a := 4) (by decide); have q_12 := lv_neT c_12 (a := 5) (by decide); have q_15 := lv_neT c_15 (a := 6) (by decide); omega) (by decide) ?_
      refine lv_iload hx hb dX2_follow_129 (lv_at hl 2 rfl) ?_
      refine lv_iconst (v := (1 : Int32)) hx hb dX2_follow_131 (by decide) ?_
      refine lv_iadd hx hb dX2_follow_132 ?_
      obtain ⟨y_18, e_18, hf⟩ := mm_li_ok hf
      rw [← e_18]
      refine lv_istore (lv' := [(6, .int y_18), (5, .int y_6), (4, .int y_5), (3, .ref (ad r1 6 x2.toNatClampNeg)), (0, .ref (ad 7 13 0)), (1, .ref (ad r1 0 0)), (2, .int x2)]) hx hb dX2_follow_133 hl (by decide) rfl (fun ls hl => ?_)
      exact cx_X2_follow_J135 r1 x2 hr1 rv σ1 X y_6 y_18 s_2 H locs ls (mm_ix_lt h_1) hf hP hS (lv_sub hl [4, 5, 6, 3, 1, 0] rfl)
    · replace hf := mm_if c_3 hf
      obtain ⟨rfl, rfl⟩ := mm_ret hf
      exact mm_vret X hP hS dX2_follow_14
  exact hgen _ _ hP hS
def fx_X7_runNext_J92 (r1 : Nat)  (v2 : Int32) (σ : mm_M) : mm_R := mm_bd (fx_X8_timesOut r1 σ) fun r_15 s_15 => (some (r_15 - v2, s_15))
set_option maxHeartbeats 4000000 in
set_option maxRecDepth 100000 in
theorem cx_X7_runNext_J92 {p : Program} {l : Launch} {e : Env} {s : State} {m : MethodId} {args : Array Value} {below : List Frame} {meth : Method} {c : Code} {D : va_G} {ad : mm_A} {cA : Nat → ClassId} (r1 : Nat) (hr1 : r1 < 6) (rv : Int32) (σ1 : mm_M)  (X : mm_X p s m args meth c cX7_runNext 5 (some .int) RX7 D ad cA) : ∀ (v2 : Int32) (σ : mm_M) (H : Heap) (locs : List Loc) (ls : Array Slot), fx_X7_runNext_J92 r1 v2 σ = some (rv, σ1) → va_P D vwCl (mm_wd ad cA σ) H → va_S (mm_AS ad) s.heap H locs → lv_has ls 5 [(1, .ref (ad r1 0 0)), (2, .int v2)] → W p l e (mm_rm 4 90) s m args below meth c H locs 0 0 (MQ below (mm_Q D ad cA (some (.int rv)) σ1) args s 0 0 (mm_AS ad)) (F0 m 92 ls []) := by
  have hx := X.1
  have hb := X.2.1
  have hI := X.2.2.2.2.2.2.2.2.2
  intro v2 σ H locs ls hf hP hS hl
  rw [fx_X7_runNext_J92] at hf
  refine lv_aload_n hx hb dX7_runNext_92 rfl (lv_at hl 0 rfl) ?_
  obtain ⟨r_15, s_15, e_15, hf⟩ := mm_bd_ok hf
  refine mm_callV X hP hS hl.1 [] [] (cx_X8_timesOut l D ad cA hI r1 hr1 σ r_15 s_15 e_15) (mm_kr r1 hr1 0 (by decide)) rfl rfl wd_580 wd_581 wd_582 wd_2 wd_583 hd_X8_timesOut ⟨Nat.le_of_ble_eq_true rfl, Nat.le_of_ble_eq_true rfl⟩ rfl (Nat.le_of_ble_eq_true rfl) dX7_runNext_93 (fun H locs hP hS => ?_)
  refine lv_iload_n hx hb dX7_runNext_96 rfl (lv_at hl 1 rfl) ?_
  refine lv_isub hx hb dX7_runNext_97 ?_
  obtain ⟨rfl, rfl⟩ := mm_ret hf
  exact mm_iret X hP hS dX7_runNext_98
def fx_X7_runNext_L27 (r1 : Nat)  : Nat → Int32 → Int32 → Int32 → mm_M → mm_R
  | 0, _, _, _, _ => none
  | fu + 1, v2, v3, v4, σ => if v3 ≤ v4 then mm_bd (fx_X0_carry r1 σ) fun _ s_5 => (mm_bd (fx_X8_turnOnGears r1 s_5) fun _ s_6 => (mm_bd (fx_X8_touchFlags r1 s_6) fun _ s_7 => (mm_bd (fx_X8_countPhase r1 s_7) fun _ s_8 => (if (s_8 r1 0 0 3) = (0 : Int32) then mm_bd (fx_X8_repairAndClear r1 s_8) fun _ s_10 => (mm_bd (fx_X8_bringBack r1 s_10) fun _ s_11 => (fx_X7_runNext_J92 r1 v2 s_11)) else fx_X7_runNext_J92 r1 v2 s_8)))) else mm_gd (mm_ix v4 4 = true) (mm_bd (fx_X2_follow r1 (σ 7 14 0 v4.toNatClampNeg) σ) fun _ s_13 => (mm_li (v4 + (1 : Int32)) fun y_14 => (fx_X7_runNext_L27 r1 fu v2 v3 y_14 s_13)))
set_option maxHeartbeats 4000000 in
set_option maxRecDepth 100000 in
theorem cx_X7_runNext_L27 {p : Program} {l : Launch} {e : Env} {s : State} {m : MethodId} {args : Array Value} {below : List Frame} {meth : Method} {c : Code} {D : va_G} {ad : mm_A} {cA : Nat → ClassId} (r1 : Nat) (hr1 : r1 < 6) (rv : Int32) (σ1 : mm_M)  (X : mm_X p s m args meth c cX7_runNext 5 (some .int) RX7 D ad cA) : ∀ (fu : Nat), ∀ (v2 : Int32) (v3 : Int32) (v4 : Int32) (σ : mm_M) (H : Heap) (locs : List Loc) (ls : Array Slot), fx_X7_runNext_L27 r1 fu v2 v3 v4 σ = some (rv, σ1) → va_P D vwCl (mm_wd ad cA σ) H → va_S (mm_AS ad) s.heap H locs → lv_has ls 5 [(0, .ref (ad 7 12 0)), (1, .ref (ad r1 0 0)), (2, .int v2), (3, .int v3), (4, .int v4)] → W p l e (mm_rm 4 90) s m args below meth c H locs 0 0 (MQ below (mm_Q D ad cA (some (.int rv)) σ1) args s 0 0 (mm_AS ad)) (F0 m 27 ls []) := by
  have hx := X.1
  have hb := X.2.1
  have hI := X.2.2.2.2.2.2.2.2.2
  intro fu
  induction fu with
  | zero =>
    intro v2 v3 v4 σ H locs ls hf
    exact mm_no hf
  | succ fu ih =>
    intro v2 v3 v4 σ H locs ls hf hP hS hl
    rw [fx_X7_runNext_L27] at hf
    refine lv_iload hx hb dX7_runNext_27 (lv_at hl 4 rfl) ?_
    refine lv_iload_n hx hb dX7_runNext_29 rfl (lv_at hl 3 rfl) ?_
    refine lv_icmp_ge (tgt := 57) hx hb dX7_runNext_30 (by decide) (fun c_4 => ?_) (fun c_4 => ?_)
    · replace hf := mm_it c_4 hf
      refine lv_aload_n hx hb dX7_runNext_57 rfl (lv_at hl 0 rfl) ?_
      refine gf_12_1 X hP  wd_204 dX7_runNext_58 ?_
      refine lv_aload_n hx hb dX7_runNext_61 rfl (lv_at hl 1 rfl) ?_
      obtain ⟨r_5, s_5, e_5, hf⟩ := mm_bd_ok hf
      refine mm_callV X hP hS hl.1 [.ref (ad r1 0 0)] [] (cx_X0_carry l D ad cA hI r1 hr1 σ r_5 s_5 e_5) kp_16 rfl rfl wd_615 wd_616 wd_617 wd_8 wd_618 hd_X0_carry ⟨Nat.le_of_ble_eq_true rfl, Nat.le_of_ble_eq_true rfl⟩ rfl (Nat.le_of_ble_eq_true rfl) dX7_runNext_62 (fun H locs hP hS => ?_)
      refine lv_aload_n hx hb dX7_runNext_65 rfl (lv_at hl 1 rfl) ?_
      obtain ⟨r_6, s_6, e_6, hf⟩ := mm_bd_ok hf
      refine mm_callV X hP hS hl.1 [] [] (cx_X8_turnOnGears l D ad cA hI r1 hr1 s_5 r_6 s_6 e_6) (mm_kr r1 hr1 0 (by decide)) rfl rfl wd_636 wd_637 wd_638 wd_2 wd_639 hd_X8_turnOnGears ⟨Nat.le_of_ble_eq_true rfl, Nat.le_of_ble_eq_true rfl⟩ rfl (Nat.le_of_ble_eq_true rfl) dX7_runNext_66 (fun H locs hP hS => ?_)
      refine lv_aload_n hx hb dX7_runNext_69 rfl (lv_at hl 1 rfl) ?_
      obtain ⟨r_7, s_7, e_7, hf⟩ := mm_bd_ok hf
      refine mm_callV X hP hS hl.1 [] [] (cx_X8_touchFlags l D ad cA hI r1 hr1 s_6 r_7 s_7 e_7) (mm_kr r1 hr1 0 (by decide)) rfl rfl wd_641 wd_642 wd_643 wd_2 wd_644 hd_X8_touchFlags ⟨Nat.le_of_ble_eq_true rfl, Nat.le_of_ble_eq_true rfl⟩ rfl (Nat.le_of_ble_eq_true rfl) dX7_runNext_70 (fun H locs hP hS => ?_)
      refine lv_aload_n hx hb dX7_runNext_73 rfl (lv_at hl 1 rfl) ?_
      obtain ⟨r_8, s_8, e_8, hf⟩ := mm_bd_ok hf
      refine mm_callV X hP hS hl.1 [] [] (cx_X8_countPhase l D ad cA hI r1 hr1 s_7 r_8 s_8 e_8) (mm_kr r1 hr1 0 (by decide)) rfl rfl wd_645 wd_646 wd_647 wd_2 wd_648 hd_X8_countPhase ⟨Nat.le_of_ble_eq_true rfl, Nat.le_of_ble_eq_true rfl⟩ rfl (Nat.le_of_ble_eq_true rfl) dX7_runNext_74 (fun H locs hP hS => ?_)
      refine lv_aload_n hx hb dX7_runNext_77 rfl (lv_at hl 1 rfl) ?_
      refine gf_0_3 X hP hr1 wd_121 dX7_runNext_78 ?_
      refine lv_if_ne (tgt := 92) hx hb dX7_runNext_81 (by decide) (fun c_9 => ?_) (fun c_9 => ?_)
      · replace hf := mm_if c_9 hf
        exact cx_X7_runNext_J92 r1 hr1 rv σ1 X v2 s_8 H locs ls hf hP hS (lv_sub hl [1, 2] rfl)
      · replace hf := mm_it c_9 hf
        refine lv_aload_n hx hb dX7_runNext_84 rfl (lv_at hl 1 rfl) ?_
        obtain ⟨r_10, s_10, e_10, hf⟩ := mm_bd_ok hf
        refine mm_callV X hP hS hl.1 [] [] (cx_X8_repairAndClear l D ad cA hI r1 hr1 s_8 r_10 s_10 e_10) (mm_kr r1 hr1 0 (by decide)) rfl rfl wd_649 wd_650 wd_651 wd_2 wd_652 hd_X8_repairAndClear ⟨Nat.le_of_ble_eq_true rfl, Nat.le_of_ble_eq_true rfl⟩ rfl (Nat.le_of_ble_eq_true rfl) dX7_runNext_85 (fun H locs hP hS => ?_)
        refine lv_aload_n hx hb dX7_runNext_88 rfl (lv_at hl 1 rfl) ?_
        obtain ⟨r_11, s_11, e_11, hf⟩ := mm_bd_ok hf
        refine mm_callV X hP hS hl.1 [] [] (cx_X8_bringBack l D ad cA hI r1 hr1 s_10 r_11 s_11 e_11) (mm_kr r1 hr1 0 (by decide)) rfl rfl wd_664 wd_665 wd_666 wd_2 wd_667 hd_X8_bringBack ⟨Nat.le_of_ble_eq_true rfl, Nat.le_of_ble_eq_true rfl⟩ rfl (Nat.le_of_ble_eq_true rfl) dX7_runNext_89 (fun H locs hP hS => ?_)
        exact cx_X7_runNext_J92 r1 hr1 rv σ1 X v2 s_11 H locs ls hf hP hS (lv_sub hl [1, 2] rfl)
    · replace hf := mm_if c_4 hf
      refine lv_aload_n hx hb dX7_runNext_33 rfl (lv_at hl 0 rfl) ?_
      refine gf_12_0 X hP  wd_203 dX7_runNext_34 ?_
      refine lv_aload_n hx hb dX7_runNext_37 rfl (lv_at hl 1 rfl) ?_
      refine lv_aload_n hx hb dX7_runNext_38 rfl (lv_at hl 0 rfl) ?_
      refine gf_12_0 X hP  wd_203 dX7_runNext_39 ?_
      refine gf_13_0 X hP  wd_179 dX7_runNext_42 ?_
      refine lv_iload hx hb dX7_runNext_45 (lv_at hl 4 rfl) ?_
      obtain ⟨h_12, hf⟩ := mm_gd_ok hf
      refine al_14 X hP  h_12 dX7_runNext_47 ?_
      obtain ⟨r_13, s_13, e_13, hf⟩ := mm_bd_ok hf
      refine mm_callV X hP hS hl.1 [.ref (ad r1 0 0), .int (σ 7 14 0 v4.toNatClampNeg)] [] (cx_X2_follow l D ad cA hI r1 (σ 7 14 0 v4.toNatClampNeg) hr1 σ r_13 s_13 e_13) kp_13 rfl rfl wd_594 wd_595 wd_596 wd_7 wd_597 hd_X2_follow ⟨Nat.le_of_ble_eq_true rfl, Nat.le_of_ble_eq_true rfl⟩ rfl (Nat.le_of_ble_eq_true rfl) dX7_runNext_48 (fun H locs hP hS => ?_)
      obtain ⟨y_14, e_14, hf⟩ := mm_li_ok hf
      refine lv_iinc (v := y_14) (lv' := [(4, .int y_14), (0, .ref (ad 7 12 0)), (1, .ref (ad r1 0 0)), (2, .int v2), (3, .int v3)]) hx hb dX7_runNext_51 hl (k := 4) rfl (by rw [e_14]; rfl) (by decide) rfl (fun ls hl => ?_)
      refine lv_goto (tgt := 27) hx hb dX7_runNext_54 (by decide) ?_
      exact ih v2 v3 y_14 s_13 H locs ls  hf hP hS (lv_sub hl [1, 2, 3, 4, 0] rfl)
def fx_X7_runNext (r1 : Nat) (σ : mm_M) : mm_R := if (σ r1 0 0 2) = (0 : Int32) then some ((-1000002 : Int32), σ) else mm_bd (fx_X8_timesOut r1 σ) fun r_2 s_2 => (mm_bd (fx_X2_arrange r1 s_2) fun r_3 s_3 => (fx_X7_runNext_L27 r1 mm_FU r_2 r_3 (0 : Int32) s_3))
set_option maxHeartbeats 4000000 in
set_option maxRecDepth 100000 in
theorem cx_X7_runNext (l : Launch) (D : va_G) (ad : mm_A) (cA : Nat → ClassId) (hI : mm_Inj ad) (r1 : Nat) (hr1 : r1 < 6) (σ : mm_M) (rv : Int32) (σ1 : mm_M) (hf : fx_X7_runNext r1 σ = some (rv, σ1)) : Met l yX7_runNext (Cond.code yX7_runNext cX7_runNext 5 (some .int) :: tb) (mm_rm 4 90) (mm_pre D ad cA [.ref (ad 7 12 0), .ref (ad r1 0 0)] σ) (mm_Q D ad cA (some (.int rv)) σ1) 0 0 (mm_AS ad) := by
  refine mm_start (by decide +kernel) hI (Nat.le_of_ble_eq_true rfl) ?_
  intro p e s m args below meth c X hP ls hl
  have hl : lv_has ls 5 [(0, .ref (ad 7 12 0)), (1, .ref (ad r1 0 0))] := hl
  have hx := X.1
  have hb := X.2.1
  have hS : va_S (mm_AS ad) s.heap s.heap [] := va_S.rf
  have hgen : ∀ (H : Heap) (locs : List Loc), va_P D vwCl (mm_wd ad cA σ) H → va_S (mm_AS ad) s.heap H locs → W p l e (mm_rm 4 90) s m args below meth c H locs 0 0 (MQ below (mm_Q D ad cA (some (.int rv)) σ1) args s 0 0 (mm_AS ad)) (F0 m 0 ls []) := by
    intro H locs hP hS
    rw [fx_X7_runNext] at hf
    refine lv_aload_n hx hb dX7_runNext_0 rfl (lv_at hl 1 rfl) ?_
    refine gf_0_2 X hP hr1 wd_114 dX7_runNext_1 ?_
    refine lv_if_ne (tgt := 10) hx hb dX7_runNext_4 (by decide) (fun c_1 => ?_) (fun c_1 => ?_)
    · replace hf := mm_if c_1 hf
      refine lv_aload_n hx hb dX7_runNext_10 rfl (lv_at hl 1 rfl) ?_
      obtain ⟨r_2, s_2, e_2, hf⟩ := mm_bd_ok hf
      refine mm_callV X hP hS hl.1 [] [] (cx_X8_timesOut l D ad cA hI r1 hr1 σ r_2 s_2 e_2) (mm_kr r1 hr1 0 (by decide)) rfl rfl wd_580 wd_581 wd_582 wd_2 wd_583 hd_X8_timesOut ⟨Nat.le_of_ble_eq_true rfl, Nat.le_of_ble_eq_true rfl⟩ rfl (Nat.le_of_ble_eq_true rfl) dX7_runNext_11 (fun H locs hP hS => ?_)
      refine lv_istore_n (lv' := [(2, .int r_2), (0, .ref (ad 7 12 0)), (1, .ref (ad r1 0 0))]) hx hb dX7_runNext_14 rfl hl (by decide) rfl (fun ls hl => ?_)
      refine lv_aload_n hx hb dX7_runNext_15 rfl (lv_at hl 1 rfl) ?_
      refine gf_12_0 X hP  wd_203 dX7_runNext_16 ?_
      refine lv_aload_n hx hb dX7_runNext_19 rfl (lv_at hl 2 rfl) ?_
      obtain ⟨r_3, s_3, e_3, hf⟩ := mm_bd_ok hf
      refine mm_callV X hP hS hl.1 [.ref (ad r1 0 0)] [] (cx_X2_arrange l D ad cA hI r1 hr1 s_2 r_3 s_3 e_3) kp_13 rfl rfl wd_584 wd_585 wd_586 wd_7 wd_587 hd_X2_arrange ⟨Nat.le_of_ble_eq_true rfl, Nat.le_of_ble_eq_true rfl⟩ rfl (Nat.le_of_ble_eq_true rfl) dX7_runNext_20 (fun H locs hP hS => ?_)
      refine lv_istore_n (lv' := [(3, .int r_3), (2, .int r_2), (0, .ref (ad 7 12 0)), (1, .ref (ad r1 0 0))]) hx hb dX7_runNext_23 rfl hl (by decide) rfl (fun ls hl => ?_)
      refine lv_iconst (v := (0 : Int32)) hx hb dX7_runNext_24 (by decide) ?_
      refine lv_istore (lv' := [(4, .int (0 : Int32)), (3, .int r_3), (2, .int r_2), (0, .ref (ad 7 12 0)), (1, .ref (ad r1 0 0))]) hx hb dX7_runNext_25 hl (by decide) rfl (fun ls hl => ?_)
      exact cx_X7_runNext_L27 r1 hr1 rv σ1 X mm_FU r_2 r_3 (0 : Int32) s_3 H locs ls hf hP hS (lv_sub hl [3, 4, 2, 1, 0] rfl)
    · replace hf := mm_it c_1 hf
      refine lv_ldc (v := (-1000002 : Int32)) hx hb X.2.2.2.2.2.1 (X.2.2.2.2.2.2.1 _ wd_575) dX7_runNext_7 ?_
      obtain ⟨rfl, rfl⟩ := mm_ret hf
      exact mm_iret X hP hS dX7_runNext_9
  exact hgen _ _ hP hS
def fx_X10_phase  (σ : mm_M) : mm_R := mm_bd (fx_X10_freshTrial  σ) fun _ s_1 => (mm_bd (fx_X7_runNext 1 s_1) fun r_2 s_2 => (mm_bd (fx_X10_keep r_2 s_2) fun r_3 s_3 => (some (r_3, s_3))))
set_option maxHeartbeats 4000000 in
set_option maxRecDepth 100000 in
theorem cx_X10_phase (l : Launch) (D : va_G) (ad : mm_A) (cA : Nat → ClassId) (hI : mm_Inj ad)   (σ : mm_M) (rv : Int32) (σ1 : mm_M) (hf : fx_X10_phase  σ = some (rv, σ1)) : Met l yX10_phase (Cond.code yX10_phase cX10_phase 1 (some .int) :: tb) (mm_rm 5 114) (mm_pre D ad cA [.ref (ad 6 9 0)] σ) (mm_Q D ad cA (some (.int rv)) σ1) 0 0 (mm_AS ad) := by
  refine mm_start (by decide +kernel) hI (Nat.le_of_ble_eq_true rfl) ?_
  intro p e s m args below meth c X hP ls hl
  have hl : lv_has ls 1 [(0, .ref (ad 6 9 0))] := hl
  have hx := X.1
  have hb := X.2.1
  have hS : va_S (mm_AS ad) s.heap s.heap [] := va_S.rf
  have hgen : ∀ (H : Heap) (locs : List Loc), va_P D vwCl (mm_wd ad cA σ) H → va_S (mm_AS ad) s.heap H locs → W p l e (mm_rm 5 114) s m args below meth c H locs 0 0 (MQ below (mm_Q D ad cA (some (.int rv)) σ1) args s 0 0 (mm_AS ad)) (F0 m 0 ls []) := by
    intro H locs hP hS
    rw [fx_X10_phase] at hf
    refine lv_aload_n hx hb dX10_phase_0 rfl (lv_at hl 0 rfl) ?_
    refine lv_aload_n hx hb dX10_phase_1 rfl (lv_at hl 0 rfl) ?_
    refine gf_9_3 X hP  wd_286 dX10_phase_2 ?_
    refine lv_aload_n hx hb dX10_phase_5 rfl (lv_at hl 0 rfl) ?_
    obtain ⟨r_1, s_1, e_1, hf⟩ := mm_bd_ok hf
    refine mm_callV X hP hS hl.1 [] [.ref (ad 7 12 0), .ref (ad 6 9 0)] (cx_X10_freshTrial l D ad cA hI  σ r_1 s_1 e_1) kp_9 rfl rfl wd_441 wd_443 wp_0 wd_1 wd_444 hd_X10_freshTrial ⟨Nat.le_of_ble_eq_true rfl, Nat.le_of_ble_eq_true rfl⟩ rfl (Nat.le_of_ble_eq_true rfl) dX10_phase_6 (fun H locs hP hS => ?_)
    obtain ⟨r_2, s_2, e_2, hf⟩ := mm_bd_ok hf
    refine mm_callV X hP hS hl.1 [.ref (ad 1 0 0)] [.ref (ad 6 9 0)] (cx_X7_runNext l D ad cA hI 1 (by decide) s_1 r_2 s_2 e_2) kp_12 rfl rfl wd_676 wd_577 wd_578 wd_6 wd_579 hd_X7_runNext ⟨Nat.le_of_ble_eq_true rfl, Nat.le_of_ble_eq_true rfl⟩ rfl (Nat.le_of_ble_eq_true rfl) dX10_phase_9 (fun H locs hP hS => ?_)
    obtain ⟨r_3, s_3, e_3, hf⟩ := mm_bd_ok hf
    refine mm_callV X hP hS hl.1 [.int r_2] [] (cx_X10_keep l D ad cA hI r_2 s_2 r_3 s_3 e_3) kp_9 rfl rfl wd_465 wd_467 wp_1 wd_1 wd_468 hd_X10_keep ⟨Nat.le_of_ble_eq_true rfl, Nat.le_of_ble_eq_true rfl⟩ rfl (Nat.le_of_ble_eq_true rfl) dX10_phase_12 (fun H locs hP hS => ?_)
    obtain ⟨rfl, rfl⟩ := mm_ret hf
    exact mm_iret X hP hS dX10_phase_15
  exact hgen _ _ hP hS
def fx_X7_runToRoundEnd_L17 (r1 : Nat)  : Nat → Int32 → Int32 → mm_M → mm_R
  | 0, _, _, _ => none
  | fu + 1, v2, v3, σ => if (5 : Int32) ≤ v3 then some (v2, σ) else mm_bd (fx_X7_runNext r1 σ) fun r_4 s_4 => (mm_li (v2 + r_4) fun y_5 => (mm_li (v3 + (1 : Int32)) fun y_6 => (fx_X7_runToRoundEnd_L17 r1 fu y_5 y_6 s_4)))
set_option maxHeartbeats 4000000 in
set_option maxRecDepth 100000 in
theorem cx_X7_runToRoundEnd_L17 {p : Program} {l : Launch} {e : Env} {s : State} {m : MethodId} {args : Array Value} {below : List Frame} {meth : Method} {c : Code} {D : va_G} {ad : mm_A} {cA : Nat → ClassId} (r1 : Nat) (hr1 : r1 < 6) (rv : Int32) (σ1 : mm_M)  (X : mm_X p s m args meth c cX7_runToRoundEnd 4 (some .int) RX7 D ad cA) : ∀ (fu : Nat), ∀ (v2 : Int32) (v3 : Int32) (σ : mm_M) (H : Heap) (locs : List Loc) (ls : Array Slot), fx_X7_runToRoundEnd_L17 r1 fu v2 v3 σ = some (rv, σ1) → va_P D vwCl (mm_wd ad cA σ) H → va_S (mm_AS ad) s.heap H locs → lv_has ls 4 [(0, .ref (ad 7 12 0)), (1, .ref (ad r1 0 0)), (2, .int v2), (3, .int v3)] → W p l e (mm_rm 5 114) s m args below meth c H locs 0 0 (MQ below (mm_Q D ad cA (some (.int rv)) σ1) args s 0 0 (mm_AS ad)) (F0 m 17 ls []) := by
  have hx := X.1
  have hb := X.2.1
  have hI := X.2.2.2.2.2.2.2.2.2
  intro fu
  induction fu with
  | zero =>
    intro v2 v3 σ H locs ls hf
    exact mm_no hf
  | succ fu ih =>
    intro v2 v3 σ H locs ls hf hP hS hl
    rw [fx_X7_runToRoundEnd_L17] at hf
    refine lv_iload_n hx hb dX7_runToRoundEnd_17 rfl (lv_at hl 3 rfl) ?_
    refine lv_iconst (v := (5 : Int32)) hx hb dX7_runToRoundEnd_18 (by decide) ?_
    refine lv_icmp_ge (tgt := 36) hx hb dX7_runToRoundEnd_19 (by decide) (fun c_3 => ?_) (fun c_3 => ?_)
    · replace hf := mm_it c_3 hf
      refine lv_iload_n hx hb dX7_runToRoundEnd_36 rfl (lv_at hl 2 rfl) ?_
      obtain ⟨rfl, rfl⟩ := mm_ret hf
      exact mm_iret X hP hS dX7_runToRoundEnd_37
    · replace hf := mm_if c_3 hf
      refine lv_iload_n hx hb dX7_runToRoundEnd_22 rfl (lv_at hl 2 rfl) ?_
      refine lv_aload_n hx hb dX7_runToRoundEnd_23 rfl (lv_at hl 0 rfl) ?_
      refine lv_aload_n hx hb dX7_runToRoundEnd_24 rfl (lv_at hl 1 rfl) ?_
      obtain ⟨r_4, s_4, e_4, hf⟩ := mm_bd_ok hf
      refine mm_callV X hP hS hl.1 [.ref (ad r1 0 0)] [.int v2] (cx_X7_runNext l D ad cA hI r1 hr1 σ r_4 s_4 e_4) kp_12 rfl rfl wd_576 wd_577 wd_578 wd_6 wd_579 hd_X7_runNext ⟨Nat.le_of_ble_eq_true rfl, Nat.le_of_ble_eq_true rfl⟩ rfl (Nat.le_of_ble_eq_true rfl) dX7_runToRoundEnd_25 (fun H locs hP hS => ?_)
      refine lv_iadd hx hb dX7_runToRoundEnd_28 ?_
      obtain ⟨y_5, e_5, hf⟩ := mm_li_ok hf
      rw [← e_5]
      refine lv_istore_n (lv' := [(2, .int y_5), (0, .ref (ad 7 12 0)), (1, .ref (ad r1 0 0)), (3, .int v3)]) hx hb dX7_runToRoundEnd_29 rfl hl (by decide) rfl (fun ls hl => ?_)
      obtain ⟨y_6, e_6, hf⟩ := mm_li_ok hf
      refine lv_iinc (v := y_6) (lv' := [(3, .int y_6), (2, .int y_5), (0, .ref (ad 7 12 0)), (1, .ref (ad r1 0 0))]) hx hb dX7_runToRoundEnd_30 hl (k := 3) rfl (by rw [e_6]; rfl) (by decide) rfl (fun ls hl => ?_)
      refine lv_goto (tgt := 17) hx hb dX7_runToRoundEnd_33 (by decide) ?_
      exact ih y_5 y_6 s_4 H locs ls  hf hP hS (lv_sub hl [2, 3, 1, 0] rfl)
def fx_X7_runToRoundEnd (r1 : Nat) (σ : mm_M) : mm_R := if (σ r1 0 0 2) = (0 : Int32) then some ((-1000002 : Int32), σ) else mm_li (σ r1 0 0 3) fun y_2 => (fx_X7_runToRoundEnd_L17 r1 mm_FU (0 : Int32) y_2 σ)
set_option maxHeartbeats 4000000 in
set_option maxRecDepth 100000 in
theorem cx_X7_runToRoundEnd (l : Launch) (D : va_G) (ad : mm_A) (cA : Nat → ClassId) (hI : mm_Inj ad) (r1 : Nat) (hr1 : r1 < 6) (σ : mm_M) (rv : Int32) (σ1 : mm_M) (hf : fx_X7_runToRoundEnd r1 σ = some (rv, σ1)) : Met l yX7_runToRoundEnd (Cond.code yX7_runToRoundEnd cX7_runToRoundEnd 4 (some .int) :: tb) (mm_rm 5 114) (mm_pre D ad cA [.ref (ad 7 12 0), .ref (ad r1 0 0)] σ) (mm_Q D ad cA (some (.int rv)) σ1) 0 0 (mm_AS ad) := by
  refine mm_start (by decide +kernel) hI (Nat.le_of_ble_eq_true rfl) ?_
  intro p e s m args below meth c X hP ls hl
  have hl : lv_has ls 4 [(0, .ref (ad 7 12 0)), (1, .ref (ad r1 0 0))] := hl
  have hx := X.1
  have hb := X.2.1
  have hS : va_S (mm_AS ad) s.heap s.heap [] := va_S.rf
  have hgen : ∀ (H : Heap) (locs : List Loc), va_P D vwCl (mm_wd ad cA σ) H → va_S (mm_AS ad) s.heap H locs → W p l e (mm_rm 5 114) s m args below meth c H locs 0 0 (MQ below (mm_Q D ad cA (some (.int rv)) σ1) args s 0 0 (mm_AS ad)) (F0 m 0 ls []) := by
    intro H locs hP hS
    rw [fx_X7_runToRoundEnd] at hf
    refine lv_aload_n hx hb dX7_runToRoundEnd_0 rfl (lv_at hl 1 rfl) ?_
    refine gf_0_2 X hP hr1 wd_114 dX7_runToRoundEnd_1 ?_
    refine lv_if_ne (tgt := 10) hx hb dX7_runToRoundEnd_4 (by decide) (fun c_1 => ?_) (fun c_1 => ?_)
    · replace hf := mm_if c_1 hf
      refine lv_iconst (v := (0 : Int32)) hx hb dX7_runToRoundEnd_10 (by decide) ?_
      refine lv_istore_n (lv' := [(2, .int (0 : Int32)), (0, .ref (ad 7 12 0)), (1, .ref (ad r1 0 0))]) hx hb dX7_runToRoundEnd_11 rfl hl (by decide) rfl (fun ls hl => ?_)
      refine lv_aload_n hx hb dX7_runToRoundEnd_12 rfl (lv_at hl 2 rfl) ?_
      refine gf_0_3 X hP hr1 wd_121 dX7_runToRoundEnd_13 ?_
      obtain ⟨y_2, e_2, hf⟩ := mm_li_ok hf
      rw [← e_2]
      refine lv_istore_n (lv' := [(3, .int y_2), (2, .int (0 : Int32)), (0, .ref (ad 7 12 0)), (1, .ref (ad r1 0 0))]) hx hb dX7_runToRoundEnd_16 rfl hl (by decide) rfl (fun ls hl => ?_)
      exact cx_X7_runToRoundEnd_L17 r1 hr1 rv σ1 X mm_FU (0 : Int32) y_2 σ H locs ls hf hP hS (lv_sub hl [2, 3, 1, 0] rfl)
    · replace hf := mm_it c_1 hf
      refine lv_ldc (v := (-1000002 : Int32)) hx hb X.2.2.2.2.2.1 (X.2.2.2.2.2.2.1 _ wd_575) dX7_runToRoundEnd_7 ?_
      obtain ⟨rfl, rfl⟩ := mm_ret hf
      exact mm_iret X hP hS dX7_runToRoundEnd_9
  exact hgen _ _ hP hS
def fx_X10_round  (σ : mm_M) : mm_R := mm_bd (fx_X10_freshTrial  σ) fun _ s_1 => (mm_bd (fx_X7_runToRoundEnd 1 s_1) fun r_2 s_2 => (mm_bd (fx_X10_keep r_2 s_2) fun r_3 s_3 => (some (r_3, s_3))))
set_option maxHeartbeats 4000000 in
set_option maxRecDepth 100000 in
theorem cx_X10_round (l : Launch) (D : va_G) (ad : mm_A) (cA : Nat → ClassId) (hI : mm_Inj ad)   (σ : mm_M) (rv : Int32) (σ1 : mm_M) (hf : fx_X10_round  σ = some (rv, σ1)) : Met l yX10_round (Cond.code yX10_round cX10_round 1 (some .int) :: tb) (mm_rm 6 137) (mm_pre D ad cA [.ref (ad 6 9 0)] σ) (mm_Q D ad cA (some (.int rv)) σ1) 0 0 (mm_AS ad) := by
  refine mm_start (by decide +kernel) hI (Nat.le_of_ble_eq_true rfl) ?_
  intro p e s m args below meth c X hP ls hl
  have hl : lv_has ls 1 [(0, .ref (ad 6 9 0))] := hl
  have hx := X.1
  have hb := X.2.1
  have hS : va_S (mm_AS ad) s.heap s.heap [] := va_S.rf
  have hgen : ∀ (H : Heap) (locs : List Loc), va_P D vwCl (mm_wd ad cA σ) H → va_S (mm_AS ad) s.heap H locs → W p l e (mm_rm 6 137) s m args below meth c H locs 0 0 (MQ below (mm_Q D ad cA (some (.int rv)) σ1) args s 0 0 (mm_AS ad)) (F0 m 0 ls []) := by
    intro H locs hP hS
    rw [fx_X10_round] at hf
    refine lv_aload_n hx hb dX10_round_0 rfl (lv_at hl 0 rfl) ?_
    refine lv_aload_n hx hb dX10_round_1 rfl (lv_at hl 0 rfl) ?_
    refine gf_9_3 X hP  wd_286 dX10_round_2 ?_
    refine lv_aload_n hx hb dX10_round_5 rfl (lv_at hl 0 rfl) ?_
    obtain ⟨r_1, s_1, e_1, hf⟩ := mm_bd_ok hf
    refine mm_callV X hP hS hl.1 [] [.ref (ad 7 12 0), .ref (ad 6 9 0)] (cx_X10_freshTrial l D ad cA hI  σ r_1 s_1 e_1) kp_9 rfl rfl wd_441 wd_443 wp_0 wd_1 wd_444 hd_X10_freshTrial ⟨Nat.le_of_ble_eq_true rfl, Nat.le_of_ble_eq_true rfl⟩ rfl (Nat.le_of_ble_eq_true rfl) dX10_round_6 (fun H locs hP hS => ?_)
    obtain ⟨r_2, s_2, e_2, hf⟩ := mm_bd_ok hf
    refine mm_callV X hP hS hl.1 [.ref (ad 1 0 0)] [.ref (ad 6 9 0)] (cx_X7_runToRoundEnd l D ad cA hI 1 (by decide) s_1 r_2 s_2 e_2) kp_12 rfl rfl wd_571 wd_572 wd_573 wd_6 wd_574 hd_X7_runToRoundEnd ⟨Nat.le_of_ble_eq_true rfl, Nat.le_of_ble_eq_true rfl⟩ rfl (Nat.le_of_ble_eq_true rfl) dX10_round_9 (fun H locs hP hS => ?_)
    obtain ⟨r_3, s_3, e_3, hf⟩ := mm_bd_ok hf
    refine mm_callV X hP hS hl.1 [.int r_2] [] (cx_X10_keep l D ad cA hI r_2 s_2 r_3 s_3 e_3) kp_9 rfl rfl wd_465 wd_467 wp_1 wd_1 wd_468 hd_X10_keep ⟨Nat.le_of_ble_eq_true rfl, Nat.le_of_ble_eq_true rfl⟩ rfl (Nat.le_of_ble_eq_true rfl) dX10_round_12 (fun H locs hP hS => ?_)
    obtain ⟨rfl, rfl⟩ := mm_ret hf
    exact mm_iret X hP hS dX10_round_15
  exact hgen _ _ hP hS
def fx_X1_wallsOf (r0 : Nat) (x1 : Int32) (σ : mm_M) : mm_R := if x1 < (0 : Int32) then some ((0 : Int32), σ) else if (64 : Int32) ≤ x1 then some ((0 : Int32), σ) else mm_gd (mm_ix x1 64 = true) (some (σ r0 3 0 x1.toNatClampNeg, σ))
set_option maxHeartbeats 4000000 in
set_option maxRecDepth 100000 in
theorem cx_X1_wallsOf (l : Launch) (D : va_G) (ad : mm_A) (cA : Nat → ClassId) (hI : mm_Inj ad) (r0 : Nat) (x1 : Int32) (hr0 : r0 < 6) (σ : mm_M) (rv : Int32) (σ1 : mm_M) (hf : fx_X1_wallsOf r0 x1 σ = some (rv, σ1)) : Met l yX1_wallsOf (Cond.code yX1_wallsOf cX1_wallsOf 2 (some .int) :: tb) (mm_rm 0 0) (mm_pre D ad cA [.ref (ad r0 1 0), .int x1] σ) (mm_Q D ad cA (some (.int rv)) σ1) 0 0 (mm_AS ad) := by
  refine mm_start (by decide +kernel) hI (Nat.le_of_ble_eq_true rfl) ?_
  intro p e s m args below meth c X hP ls hl
  have hl : lv_has ls 2 [(0, .ref (ad r0 1 0)), (1, .int x1)] := hl
  have hx := X.1
  have hb := X.2.1
  have hS : va_S (mm_AS ad) s.heap s.heap [] := va_S.rf
  have hgen : ∀ (H : Heap) (locs : List Loc), va_P D vwCl (mm_wd ad cA σ) H → va_S (mm_AS ad) s.heap H locs → W p l e (mm_rm 0 0) s m args below meth c H locs 0 0 (MQ below (mm_Q D ad cA (some (.int rv)) σ1) args s 0 0 (mm_AS ad)) (F0 m 0 ls []) := by
    intro H locs hP hS
    rw [fx_X1_wallsOf] at hf
    refine lv_iload_n hx hb dX1_wallsOf_0 rfl (lv_at hl 1 rfl) ?_
    refine lv_if_lt (tgt := 19) hx hb dX1_wallsOf_1 (by decide) (fun c_1 => ?_) (fun c_1 => ?_)
    · replace hf := mm_it c_1 hf
      refine lv_iconst (v := (0 : Int32)) hx hb dX1_wallsOf_19 (by decide) ?_
      obtain ⟨rfl, rfl⟩ := mm_ret hf
      exact mm_iret X hP hS dX1_wallsOf_20
    · replace hf := mm_if c_1 hf
      refine lv_iload_n hx hb dX1_wallsOf_4 rfl (lv_at hl 1 rfl) ?_
      refine lv_bipush (v := (64 : Int32)) hx hb dX1_wallsOf_5 (by decide) ?_
      refine lv_icmp_ge (tgt := 19) hx hb dX1_wallsOf_7 (by decide) (fun c_2 => ?_) (fun c_2 => ?_)
      · replace hf := mm_it c_2 hf
        refine lv_iconst (v := (0 : Int32)) hx hb dX1_wallsOf_19 (by decide) ?_
        obtain ⟨rfl, rfl⟩ := mm_ret hf
        exact mm_iret X hP hS dX1_wallsOf_20
      · replace hf := mm_if c_2 hf
        refine lv_aload_n hx hb dX1_wallsOf_10 rfl (lv_at hl 0 rfl) ?_
        refine gf_1_1 X hP hr0 wd_38 dX1_wallsOf_11 ?_
        refine lv_iload_n hx hb dX1_wallsOf_14 rfl (lv_at hl 1 rfl) ?_
        obtain ⟨h_3, hf⟩ := mm_gd_ok hf
        refine al_3 X hP hr0 h_3 dX1_wallsOf_15 ?_
        refine lv_goto (tgt := 20) hx hb dX1_wallsOf_16 (by decide) ?_
        obtain ⟨rfl, rfl⟩ := mm_ret hf
        exact mm_iret X hP hS dX1_wallsOf_20
  exact hgen _ _ hP hS
def fx_X1_lowestFlagOn_L2 (r0 : Nat) (x1 : Int32)  : Nat → Int32 → mm_M → mm_R
  | 0, _, _ => none
  | fu + 1, v2, σ => if (σ r0 1 0 3) ≤ v2 then some ((-1000004 : Int32), σ) else mm_gd (mm_ix v2 4 = true) (if (σ r0 4 0 v2.toNatClampNeg) = x1 then some (v2, σ) else mm_li (v2 + (1 : Int32)) fun y_4 => (fx_X1_lowestFlagOn_L2 r0 x1 fu y_4 σ))
set_option maxHeartbeats 4000000 in
set_option maxRecDepth 100000 in
theorem cx_X1_lowestFlagOn_L2 {p : Program} {l : Launch} {e : Env} {s : State} {m : MethodId} {args : Array Value} {below : List Frame} {meth : Method} {c : Code} {D : va_G} {ad : mm_A} {cA : Nat → ClassId} (r0 : Nat) (x1 : Int32) (hr0 : r0 < 6) (rv : Int32) (σ1 : mm_M)  (X : mm_X p s m args meth c cX1_lowestFlagOn 3 (some .int) RX1 D ad cA) : ∀ (fu : Nat), ∀ (v2 : Int32) (σ : mm_M) (H : Heap) (locs : List Loc) (ls : Array Slot), fx_X1_lowestFlagOn_L2 r0 x1 fu v2 σ = some (rv, σ1) → va_P D vwCl (mm_wd ad cA σ) H → va_S (mm_AS ad) s.heap H locs → lv_has ls 3 [(0, .ref (ad r0 1 0)), (1, .int x1), (2, .int v2)] → W p l e (mm_rm 0 0) s m args below meth c H locs 0 0 (MQ below (mm_Q D ad cA (some (.int rv)) σ1) args s 0 0 (mm_AS ad)) (F0 m 2 ls []) := by
  have hx := X.1
  have hb := X.2.1
  have hI := X.2.2.2.2.2.2.2.2.2
  intro fu
  induction fu with
  | zero =>
    intro v2 σ H locs ls hf
    exact mm_no hf
  | succ fu ih =>
    intro v2 σ H locs ls hf hP hS hl
    rw [fx_X1_lowestFlagOn_L2] at hf
    refine lv_iload_n hx hb dX1_lowestFlagOn_2 rfl (lv_at hl 2 rfl) ?_
    refine lv_aload_n hx hb dX1_lowestFlagOn_3 rfl (lv_at hl 0 rfl) ?_
    refine gf_1_3 X hP hr0 wd_42 dX1_lowestFlagOn_4 ?_
    refine lv_icmp_ge (tgt := 28) hx hb dX1_lowestFlagOn_7 (by decide) (fun c_1 => ?_) (fun c_1 => ?_)
    · replace hf := mm_it c_1 hf
      refine lv_ldc (v := (-1000004 : Int32)) hx hb X.2.2.2.2.2.1 (X.2.2.2.2.2.2.1 _ wd_388) dX1_lowestFlagOn_28 ?_
      obtain ⟨rfl, rfl⟩ := mm_ret hf
      exact mm_iret X hP hS dX1_lowestFlagOn_30
    · replace hf := mm_if c_1 hf
      refine lv_aload_n hx hb dX1_lowestFlagOn_10 rfl (lv_at hl 0 rfl) ?_
      refine gf_1_2 X hP hr0 wd_39 dX1_lowestFlagOn_11 ?_
      refine lv_iload_n hx hb dX1_lowestFlagOn_14 rfl (lv_at hl 2 rfl) ?_
      obtain ⟨h_2, hf⟩ := mm_gd_ok hf
      refine al_4 X hP hr0 h_2 dX1_lowestFlagOn_15 ?_
      refine lv_iload_n hx hb dX1_lowestFlagOn_16 rfl (lv_at hl 1 rfl) ?_
      refine lv_icmp_ne (tgt := 22) hx hb dX1_lowestFlagOn_17 (by decide) (fun c_3 => ?_) (fun c_3 => ?_)
      · replace hf := mm_if c_3 hf
        obtain ⟨y_4, e_4, hf⟩ := mm_li_ok hf
        refine lv_iinc (v := y_4) (lv' := [(2, .int y_4), (0, .ref (ad r0 1 0)), (1, .int x1)]) hx hb dX1_lowestFlagOn_22 hl (k := 2) rfl (by rw [e_4]; rfl) (by decide) rfl (fun ls hl => ?_)
        refine lv_goto (tgt := 2) hx hb dX1_lowestFlagOn_25 (by decide) ?_
        exact ih y_4 σ H locs ls  hf hP hS (lv_sub hl [1, 2, 0] rfl)
      · replace hf := mm_it c_3 hf
        refine lv_iload_n hx hb dX1_lowestFlagOn_20 rfl (lv_at hl 2 rfl) ?_
        obtain ⟨rfl, rfl⟩ := mm_ret hf
        exact mm_iret X hP hS dX1_lowestFlagOn_21
def fx_X1_lowestFlagOn (r0 : Nat) (x1 : Int32) (σ : mm_M) : mm_R := fx_X1_lowestFlagOn_L2 r0 x1 mm_FU (0 : Int32) σ
set_option maxHeartbeats 4000000 in
set_option maxRecDepth 100000 in
theorem cx_X1_lowestFlagOn (l : Launch) (D : va_G) (ad : mm_A) (cA : Nat → ClassId) (hI : mm_Inj ad) (r0 : Nat) (x1 : Int32) (hr0 : r0 < 6) (σ : mm_M) (rv : Int32) (σ1 : mm_M) (hf : fx_X1_lowestFlagOn r0 x1 σ = some (rv, σ1)) : Met l yX1_lowestFlagOn (Cond.code yX1_lowestFlagOn cX1_lowestFlagOn 3 (some .int) :: tb) (mm_rm 0 0) (mm_pre D ad cA [.ref (ad r0 1 0), .int x1] σ) (mm_Q D ad cA (some (.int rv)) σ1) 0 0 (mm_AS ad) := by
  refine mm_start (by decide +kernel) hI (Nat.le_of_ble_eq_true rfl) ?_
  intro p e s m args below meth c X hP ls hl
  have hl : lv_has ls 3 [(0, .ref (ad r0 1 0)), (1, .int x1)] := hl
  have hx := X.1
  have hb := X.2.1
  have hS : va_S (mm_AS ad) s.heap s.heap [] := va_S.rf
  have hgen : ∀ (H : Heap) (locs : List Loc), va_P D vwCl (mm_wd ad cA σ) H → va_S (mm_AS ad) s.heap H locs → W p l e (mm_rm 0 0) s m args below meth c H locs 0 0 (MQ below (mm_Q D ad cA (some (.int rv)) σ1) args s 0 0 (mm_AS ad)) (F0 m 0 ls []) := by
    intro H locs hP hS
    rw [fx_X1_lowestFlagOn] at hf
    refine lv_iconst (v := (0 : Int32)) hx hb dX1_lowestFlagOn_0 (by decide) ?_
    refine lv_istore_n (lv' := [(2, .int (0 : Int32)), (0, .ref (ad r0 1 0)), (1, .int x1)]) hx hb dX1_lowestFlagOn_1 rfl hl (by decide) rfl (fun ls hl => ?_)
    exact cx_X1_lowestFlagOn_L2 r0 x1 hr0 rv σ1 X mm_FU (0 : Int32) σ H locs ls hf hP hS (lv_sub hl [1, 2, 0] rfl)
  exact hgen _ _ hP hS
def fx_X8_cellValue (r0 : Nat) (x1 : Int32) (x2 : Int32) (σ : mm_M) : mm_R := if x2 = (0 : Int32) then mm_bd (fx_X1_kindOn r0 x1 σ) fun r_2 s_2 => (some (r_2, s_2)) else if x2 = (1 : Int32) then mm_bd (fx_X1_wallsOf r0 x1 σ) fun r_4 s_4 => (some (r_4, s_4)) else if x2 = (2 : Int32) then mm_bd (fx_X8_cartOn r0 x1 σ) fun r_6 s_6 => (if r_6 = (-1 : Int32) then some ((-1000004 : Int32), s_6) else mm_bd (fx_X8_cartOn r0 x1 s_6) fun r_8 s_8 => (some (r_8, s_8))) else mm_bd (fx_X1_lowestFlagOn r0 x1 σ) fun r_9 s_9 => (some (r_9, s_9))
set_option maxHeartbeats 4000000 in
set_option maxRecDepth 100000 in
theorem cx_X8_cellValue (l : Launch) (D : va_G) (ad : mm_A) (cA : Nat → ClassId) (hI : mm_Inj ad) (r0 : Nat) (x1 : Int32) (x2 : Int32) (hr0 : r0 < 6) (σ : mm_M) (rv : Int32) (σ1 : mm_M) (hf : fx_X8_cellValue r0 x1 x2 σ = some (rv, σ1)) : Met l yX8_cellValue (Cond.code yX8_cellValue cX8_cellValue 3 (some .int) :: tb) (mm_rm 1 22) (mm_pre D ad cA [.ref (ad r0 0 0), .int x1, .int x2] σ) (mm_Q D ad cA (some (.int rv)) σ1) 0 0 (mm_AS ad) := by
  refine mm_start (by decide +kernel) hI (Nat.le_of_ble_eq_true rfl) ?_
  intro p e s m args below meth c X hP ls hl
  have hl : lv_has ls 3 [(0, .ref (ad r0 0 0)), (1, .int x1), (2, .int x2)] := hl
  have hx := X.1
  have hb := X.2.1
  have hS : va_S (mm_AS ad) s.heap s.heap [] := va_S.rf
  have hgen : ∀ (H : Heap) (locs : List Loc), va_P D vwCl (mm_wd ad cA σ) H → va_S (mm_AS ad) s.heap H locs → W p l e (mm_rm 1 22) s m args below meth c H locs 0 0 (MQ below (mm_Q D ad cA (some (.int rv)) σ1) args s 0 0 (mm_AS ad)) (F0 m 0 ls []) := by
    intro H locs hP hS
    rw [fx_X8_cellValue] at hf
    refine lv_iload_n hx hb dX8_cellValue_0 rfl (lv_at hl 2 rfl) ?_
    by_cases c_1 : x2 = (0 : Int32)
    · replace hf := mm_it c_1 hf
      refine mm_tabIn (off := 27) (tgt := 28) X (0 : Int32) c_1 dX8_cellValue_1 (by decide +kernel) (by decide +kernel) (by decide) ?_
      refine lv_aload_n hx hb dX8_cellValue_28 rfl (lv_at hl 0 rfl) ?_
      refine gf_0_0 X hP hr0 wd_106 dX8_cellValue_29 ?_
      refine lv_iload_n hx hb dX8_cellValue_32 rfl (lv_at hl 1 rfl) ?_
      obtain ⟨r_2, s_2, e_2, hf⟩ := mm_bd_ok hf
      refine mm_callV X hP hS hl.1 [.int x1] [] (cx_X1_kindOn l D ad cA hI r0 x1 hr0 σ r_2 s_2 e_2) (mm_kr r0 hr0 1 (by decide)) rfl rfl wd_371 wd_372 wd_373 wd_3 wd_374 hd_X1_kindOn ⟨Nat.le_of_ble_eq_true rfl, Nat.le_of_ble_eq_true rfl⟩ rfl (Nat.le_of_ble_eq_true rfl) dX8_cellValue_33 (fun H locs hP hS => ?_)
      obtain ⟨rfl, rfl⟩ := mm_ret hf
      exact mm_iret X hP hS dX8_cellValue_36
    replace hf := mm_if c_1 hf
    by_cases c_3 : x2 = (1 : Int32)
    · replace hf := mm_it c_3 hf
      refine mm_tabIn (off := 36) (tgt := 37) X (1 : Int32) c_3 dX8_cellValue_1 (by decide +kernel) (by decide +kernel) (by decide) ?_
      refine lv_aload_n hx hb dX8_cellValue_37 rfl (lv_at hl 0 rfl) ?_
      refine gf_0_0 X hP hr0 wd_106 dX8_cellValue_38 ?_
      refine lv_iload_n hx hb dX8_cellValue_41 rfl (lv_at hl 1 rfl) ?_
      obtain ⟨r_4, s_4, e_4, hf⟩ := mm_bd_ok hf
      refine mm_callV X hP hS hl.1 [.int x1] [] (cx_X1_wallsOf l D ad cA hI r0 x1 hr0 σ r_4 s_4 e_4) (mm_kr r0 hr0 1 (by decide)) rfl rfl wd_375 wd_376 wd_377 wd_3 wd_378 hd_X1_wallsOf ⟨Nat.le_of_ble_eq_true rfl, Nat.le_of_ble_eq_true rfl⟩ rfl (Nat.le_of_ble_eq_true rfl) dX8_cellValue_42 (fun H locs hP hS => ?_)
      obtain ⟨rfl, rfl⟩ := mm_ret hf
      exact mm_iret X hP hS dX8_cellValue_45
    replace hf := mm_if c_3 hf
    by_cases c_5 : x2 = (2 : Int32)
    · replace hf := mm_it c_5 hf
      refine mm_tabIn (off := 45) (tgt := 46) X (2 : Int32) c_5 dX8_cellValue_1 (by decide +kernel) (by decide +kernel) (by decide) ?_
      refine lv_aload_n hx hb dX8_cellValue_46 rfl (lv_at hl 0 rfl) ?_
      refine lv_iload_n hx hb dX8_cellValue_47 rfl (lv_at hl 1 rfl) ?_
      obtain ⟨r_6, s_6, e_6, hf⟩ := mm_bd_ok hf
      refine mm_callV X hP hS hl.1 [.int x1] [] (cx_X8_cartOn l D ad cA hI r0 x1 hr0 σ r_6 s_6 e_6) (mm_kr r0 hr0 0 (by decide)) rfl rfl wd_379 wd_380 wd_381 wd_2 wd_382 hd_X8_cartOn ⟨Nat.le_of_ble_eq_true rfl, Nat.le_of_ble_eq_true rfl⟩ rfl (Nat.le_of_ble_eq_true rfl) dX8_cellValue_48 (fun H locs hP hS => ?_)
      refine lv_iconst (v := (-1 : Int32)) hx hb dX8_cellValue_51 (by decide) ?_
      refine lv_icmp_ne (tgt := 60) hx hb dX8_cellValue_52 (by decide) (fun c_7 => ?_) (fun c_7 => ?_)
      · replace hf := mm_if c_7 hf
        refine lv_aload_n hx hb dX8_cellValue_60 rfl (lv_at hl 0 rfl) ?_
        refine lv_iload_n hx hb dX8_cellValue_61 rfl (lv_at hl 1 rfl) ?_
        obtain ⟨r_8, s_8, e_8, hf⟩ := mm_bd_ok hf
        refine mm_callV X hP hS hl.1 [.int x1] [] (cx_X8_cartOn l D ad cA hI r0 x1 hr0 s_6 r_8 s_8 e_8) (mm_kr r0 hr0 0 (by decide)) rfl rfl wd_379 wd_380 wd_381 wd_2 wd_382 hd_X8_cartOn ⟨Nat.le_of_ble_eq_true rfl, Nat.le_of_ble_eq_true rfl⟩ rfl (Nat.le_of_ble_eq_true rfl) dX8_cellValue_62 (fun H locs hP hS => ?_)
        obtain ⟨rfl, rfl⟩ := mm_ret hf
        exact mm_iret X hP hS dX8_cellValue_65
      · replace hf := mm_it c_7 hf
        refine lv_ldc (v := (-1000004 : Int32)) hx hb X.2.2.2.2.2.1 (X.2.2.2.2.2.2.1 _ wd_383) dX8_cellValue_55 ?_
        refine lv_goto (tgt := 65) hx hb dX8_cellValue_57 (by decide) ?_
        obtain ⟨rfl, rfl⟩ := mm_ret hf
        exact mm_iret X hP hS dX8_cellValue_65
    replace hf := mm_if c_5 hf
    refine lv_tableOut (tgt := 66) hx hb dX8_cellValue_1 (by have q_1 := lv_neT c_1 (a := 0) (by decide); have q_3 := lv_neT c_3 (a := 1) (by decide); have q_5 := lv_neT c_5 (a := 2) (by decide); omega) (by decide) ?_
    refine lv_aload_n hx hb dX8_cellValue_66 rfl (lv_at hl 0 rfl) ?_
    refine gf_0_0 X hP hr0 wd_106 dX8_cellValue_67 ?_
    refine lv_iload_n hx hb dX8_cellValue_70 rfl (lv_at hl 1 rfl) ?_
    obtain ⟨r_9, s_9, e_9, hf⟩ := mm_bd_ok hf
    refine mm_callV X hP hS hl.1 [.int x1] [] (cx_X1_lowestFlagOn l D ad cA hI r0 x1 hr0 σ r_9 s_9 e_9) (mm_kr r0 hr0 1 (by decide)) rfl rfl wd_384 wd_385 wd_386 wd_3 wd_387 hd_X1_lowestFlagOn ⟨Nat.le_of_ble_eq_true rfl, Nat.le_of_ble_eq_true rfl⟩ rfl (Nat.le_of_ble_eq_true rfl) dX8_cellValue_71 (fun H locs hP hS => ?_)
    obtain ⟨rfl, rfl⟩ := mm_ret hf
    exact mm_iret X hP hS dX8_cellValue_74
  exact hgen _ _ hP hS
def fx_X10_cellOf (x1 : Int32) (x2 : Int32) (σ : mm_M) : mm_R := mm_bd (fx_X10_isCell x1 σ) fun r_1 s_1 => (if r_1 = (0 : Int32) then some ((-1000001 : Int32), s_1) else mm_bd (fx_X10_isWithin x2 (0 : Int32) (3 : Int32) s_1) fun r_3 s_3 => (if r_3 = (0 : Int32) then some ((-1000001 : Int32), s_3) else mm_bd (fx_X8_cellValue 0 x1 x2 s_3) fun r_5 s_5 => (some (r_5, s_5))))
set_option maxHeartbeats 4000000 in
set_option maxRecDepth 100000 in
theorem cx_X10_cellOf (l : Launch) (D : va_G) (ad : mm_A) (cA : Nat → ClassId) (hI : mm_Inj ad) (x1 : Int32) (x2 : Int32)  (σ : mm_M) (rv : Int32) (σ1 : mm_M) (hf : fx_X10_cellOf x1 x2 σ = some (rv, σ1)) : Met l yX10_cellOf (Cond.code yX10_cellOf cX10_cellOf 3 (some .int) :: tb) (mm_rm 2 44) (mm_pre D ad cA [.ref (ad 6 9 0), .int x1, .int x2] σ) (mm_Q D ad cA (some (.int rv)) σ1) 0 0 (mm_AS ad) := by
  refine mm_start (by decide +kernel) hI (Nat.le_of_ble_eq_true rfl) ?_
  intro p e s m args below meth c X hP ls hl
  have hl : lv_has ls 3 [(0, .ref (ad 6 9 0)), (1, .int x1), (2, .int x2)] := hl
  have hx := X.1
  have hb := X.2.1
  have hS : va_S (mm_AS ad) s.heap s.heap [] := va_S.rf
  have hgen : ∀ (H : Heap) (locs : List Loc), va_P D vwCl (mm_wd ad cA σ) H → va_S (mm_AS ad) s.heap H locs → W p l e (mm_rm 2 44) s m args below meth c H locs 0 0 (MQ below (mm_Q D ad cA (some (.int rv)) σ1) args s 0 0 (mm_AS ad)) (F0 m 0 ls []) := by
    intro H locs hP hS
    rw [fx_X10_cellOf] at hf
    refine lv_iload_n hx hb dX10_cellOf_0 rfl (lv_at hl 1 rfl) ?_
    obtain ⟨r_1, s_1, e_1, hf⟩ := mm_bd_ok hf
    refine mm_callS X hP hS hl.1 [.int x1] [] (cx_X10_isCell l D ad cA hI x1 σ r_1 s_1 e_1) wd_361 wd_362 wd_1 wd_363 hd_X10_isCell ⟨Nat.le_of_ble_eq_true rfl, Nat.le_of_ble_eq_true rfl⟩ rfl (Nat.le_of_ble_eq_true rfl) dX10_cellOf_1 (fun H locs hP hS => ?_)
    refine lv_if_eq (tgt := 16) hx hb dX10_cellOf_4 (by decide) (fun c_2 => ?_) (fun c_2 => ?_)
    · replace hf := mm_it c_2 hf
      refine lv_ldc (v := (-1000001 : Int32)) hx hb X.2.2.2.2.2.1 (X.2.2.2.2.2.2.1 _ wd_318) dX10_cellOf_16 ?_
      obtain ⟨rfl, rfl⟩ := mm_ret hf
      exact mm_iret X hP hS dX10_cellOf_18
    · replace hf := mm_if c_2 hf
      refine lv_iload_n hx hb dX10_cellOf_7 rfl (lv_at hl 2 rfl) ?_
      refine lv_iconst (v := (0 : Int32)) hx hb dX10_cellOf_8 (by decide) ?_
      refine lv_iconst (v := (3 : Int32)) hx hb dX10_cellOf_9 (by decide) ?_
      obtain ⟨r_3, s_3, e_3, hf⟩ := mm_bd_ok hf
      refine mm_callS X hP hS hl.1 [.int x2, .int (0 : Int32), .int (3 : Int32)] [] (cx_X10_isWithin l D ad cA hI x2 (0 : Int32) (3 : Int32) s_1 r_3 s_3 e_3) wd_364 wd_365 wd_1 wd_366 hd_X10_isWithin ⟨Nat.le_of_ble_eq_true rfl, Nat.le_of_ble_eq_true rfl⟩ rfl (Nat.le_of_ble_eq_true rfl) dX10_cellOf_10 (fun H locs hP hS => ?_)
      refine lv_if_ne (tgt := 19) hx hb dX10_cellOf_13 (by decide) (fun c_4 => ?_) (fun c_4 => ?_)
      · replace hf := mm_if c_4 hf
        refine lv_aload_n hx hb dX10_cellOf_19 rfl (lv_at hl 0 rfl) ?_
        refine gf_9_0 X hP  wd_283 dX10_cellOf_20 ?_
        refine lv_iload_n hx hb dX10_cellOf_23 rfl (lv_at hl 1 rfl) ?_
        refine lv_iload_n hx hb dX10_cellOf_24 rfl (lv_at hl 2 rfl) ?_
        obtain ⟨r_5, s_5, e_5, hf⟩ := mm_bd_ok hf
        refine mm_callV X hP hS hl.1 [.int x1, .int x2] [] (cx_X8_cellValue l D ad cA hI 0 x1 x2 (by decide) s_3 r_5 s_5 e_5) (mm_kr 0 (by decide) 0 (by decide)) rfl rfl wd_367 wd_368 wd_369 wd_2 wd_370 hd_X8_cellValue ⟨Nat.le_of_ble_eq_true rfl, Nat.le_of_ble_eq_true rfl⟩ rfl (Nat.le_of_ble_eq_true rfl) dX10_cellOf_25 (fun H locs hP hS => ?_)
        obtain ⟨rfl, rfl⟩ := mm_ret hf
        exact mm_iret X hP hS dX10_cellOf_28
      · replace hf := mm_it c_4 hf
        refine lv_ldc (v := (-1000001 : Int32)) hx hb X.2.2.2.2.2.1 (X.2.2.2.2.2.2.1 _ wd_318) dX10_cellOf_16 ?_
        obtain ⟨rfl, rfl⟩ := mm_ret hf
        exact mm_iret X hP hS dX10_cellOf_18
  exact hgen _ _ hP hS
def fx_X3_lockedSet_L7 (r0 : Nat) (n0 : Nat)  : Nat → Int32 → Int32 → mm_M → mm_R
  | 0, _, _, _ => none
  | fu + 1, v1, v2, σ => if (5 : Int32) ≤ v2 then some (v1, σ) else mm_li (v1 ||| ((1 : Int32) <<< (v2 &&& 31))) fun y_3 => (mm_li (v2 + (1 : Int32)) fun y_4 => (fx_X3_lockedSet_L7 r0 n0 fu y_3 y_4 σ))
set_option maxHeartbeats 4000000 in
set_option maxRecDepth 100000 in
theorem cx_X3_lockedSet_L7 {p : Program} {l : Launch} {e : Env} {s : State} {m : MethodId} {args : Array Value} {below : List Frame} {meth : Method} {c : Code} {D : va_G} {ad : mm_A} {cA : Nat → ClassId} (r0 : Nat) (n0 : Nat) (hr0 : r0 < 6) (hn0 : n0 < 4) (rv : Int32) (σ1 : mm_M)  (X : mm_X p s m args meth c cX3_lockedSet 3 (some .int) RX3 D ad cA) : ∀ (fu : Nat), ∀ (v1 : Int32) (v2 : Int32) (σ : mm_M) (H : Heap) (locs : List Loc) (ls : Array Slot), fx_X3_lockedSet_L7 r0 n0 fu v1 v2 σ = some (rv, σ1) → va_P D vwCl (mm_wd ad cA σ) H → va_S (mm_AS ad) s.heap H locs → lv_has ls 3 [(1, .int v1), (2, .int v2)] → W p l e (mm_rm 2 41) s m args below meth c H locs 0 0 (MQ below (mm_Q D ad cA (some (.int rv)) σ1) args s 0 0 (mm_AS ad)) (F0 m 7 ls []) := by
  have hx := X.1
  have hb := X.2.1
  have hI := X.2.2.2.2.2.2.2.2.2
  intro fu
  induction fu with
  | zero =>
    intro v1 v2 σ H locs ls hf
    exact mm_no hf
  | succ fu ih =>
    intro v1 v2 σ H locs ls hf hP hS hl
    rw [fx_X3_lockedSet_L7] at hf
    refine lv_iload_n hx hb dX3_lockedSet_7 rfl (lv_at hl 1 rfl) ?_
    refine lv_iconst (v := (5 : Int32)) hx hb dX3_lockedSet_8 (by decide) ?_
    refine lv_icmp_ge (tgt := 24) hx hb dX3_lockedSet_9 (by decide) (fun c_2 => ?_) (fun c_2 => ?_)
    · replace hf := mm_it c_2 hf
      refine lv_iload_n hx hb dX3_lockedSet_24 rfl (lv_at hl 0 rfl) ?_
      obtain ⟨rfl, rfl⟩ := mm_ret hf
      exact mm_iret X hP hS dX3_lockedSet_25
    · replace hf := mm_if c_2 hf
      refine lv_iload_n hx hb dX3_lockedSet_12 rfl (lv_at hl 0 rfl) ?_
      refine lv_iconst (v := (1 : Int32)) hx hb dX3_lockedSet_13 (by decide) ?_
      refine lv_iload_n hx hb dX3_lockedSet_14 rfl (lv_at hl 1 rfl) ?_
      refine lv_ishl hx hb dX3_lockedSet_15 ?_
      refine lv_ior hx hb dX3_lockedSet_16 ?_
      obtain ⟨y_3, e_3, hf⟩ := mm_li_ok hf
      rw [← e_3]
      refine lv_istore_n (lv' := [(1, .int y_3), (2, .int v2)]) hx hb dX3_lockedSet_17 rfl hl (by decide) rfl (fun ls hl => ?_)
      obtain ⟨y_4, e_4, hf⟩ := mm_li_ok hf
      refine lv_iinc (v := y_4) (lv' := [(2, .int y_4), (1, .int y_3)]) hx hb dX3_lockedSet_18 hl (k := 1) rfl (by rw [e_4]; rfl) (by decide) rfl (fun ls hl => ?_)
      refine lv_goto (tgt := 7) hx hb dX3_lockedSet_21 (by decide) ?_
      exact ih y_3 y_4 σ H locs ls  hf hP hS (lv_sub hl [1, 0] rfl)
def fx_X3_lockedSet (r0 : Nat) (n0 : Nat) (σ : mm_M) : mm_R := mm_bd (fx_X3_unlockedRegisters r0 n0 σ) fun r_1 s_1 => (fx_X3_lockedSet_L7 r0 n0 mm_FU (0 : Int32) r_1 s_1)
set_option maxHeartbeats 4000000 in
set_option maxRecDepth 100000 in
theorem cx_X3_lockedSet (l : Launch) (D : va_G) (ad : mm_A) (cA : Nat → ClassId) (hI : mm_Inj ad) (r0 : Nat) (n0 : Nat) (hr0 : r0 < 6) (hn0 : n0 < 4) (σ : mm_M) (rv : Int32) (σ1 : mm_M) (hf : fx_X3_lockedSet r0 n0 σ = some (rv, σ1)) : Met l yX3_lockedSet (Cond.code yX3_lockedSet cX3_lockedSet 3 (some .int) :: tb) (mm_rm 2 41) (mm_pre D ad cA [.ref (ad r0 6 n0)] σ) (mm_Q D ad cA (some (.int rv)) σ1) 0 0 (mm_AS ad) := by
  refine mm_start (by decide +kernel) hI (Nat.le_of_ble_eq_true rfl) ?_
  intro p e s m args below meth c X hP ls hl
  have hl : lv_has ls 3 [(0, .ref (ad r0 6 n0))] := hl
  have hx := X.1
  have hb := X.2.1
  have hS : va_S (mm_AS ad) s.heap s.heap [] := va_S.rf
  have hgen : ∀ (H : Heap) (locs : List Loc), va_P D vwCl (mm_wd ad cA σ) H → va_S (mm_AS ad) s.heap H locs → W p l e (mm_rm 2 41) s m args below meth c H locs 0 0 (MQ below (mm_Q D ad cA (some (.int rv)) σ1) args s 0 0 (mm_AS ad)) (F0 m 0 ls []) := by
    intro H locs hP hS
    rw [fx_X3_lockedSet] at hf
    refine lv_iconst (v := (0 : Int32)) hx hb dX3_lockedSet_0 (by decide) ?_
    refine lv_istore_n (lv' := [(1, .int (0 : Int32)), (0, .ref (ad r0 6 n0))]) hx hb dX3_lockedSet_1 rfl hl (by decide) rfl (fun ls hl => ?_)
    refine lv_aload_n hx hb dX3_lockedSet_2 rfl (lv_at hl 1 rfl) ?_
    obtain ⟨r_1, s_1, e_1, hf⟩ := mm_bd_ok hf
    refine mm_callV X hP hS hl.1 [] [] (cx_X3_unlockedRegisters l D ad cA hI r0 n0 hr0 hn0 σ r_1 s_1 e_1) (mm_kc r0 hr0 n0 hn0 0 (by decide)) rfl rfl wd_407 wd_408 wd_409 wd_4 wd_410 hd_X3_unlockedRegisters ⟨Nat.le_of_ble_eq_true rfl, Nat.le_of_ble_eq_true rfl⟩ rfl (Nat.le_of_ble_eq_true rfl) dX3_lockedSet_3 (fun H locs hP hS => ?_)
    refine lv_istore_n (lv' := [(2, .int r_1), (1, .int (0 : Int32)), (0, .ref (ad r0 6 n0))]) hx hb dX3_lockedSet_6 rfl hl (by decide) rfl (fun ls hl => ?_)
    exact cx_X3_lockedSet_L7 r0 n0 hr0 hn0 rv σ1 X mm_FU (0 : Int32) r_1 s_1 H locs ls hf hP hS (lv_sub hl [1, 0] rfl)
  exact hgen _ _ hP hS
def fx_X3_value (r0 : Nat) (n0 : Nat) (x1 : Int32) (σ : mm_M) : mm_R := if x1 = (0 : Int32) then mm_bd (fx_X3_isOut r0 n0 σ) fun r_2 s_2 => (if r_2 = (0 : Int32) then some (s_2 r0 6 n0 3, s_2) else some ((-1000004 : Int32), s_2)) else if x1 = (1 : Int32) then mm_bd (fx_X3_isOut r0 n0 σ) fun r_5 s_5 => (if r_5 = (0 : Int32) then some (s_5 r0 6 n0 4, s_5) else some ((-1000004 : Int32), s_5)) else if x1 = (2 : Int32) then some (σ r0 6 n0 5, σ) else if x1 = (3 : Int32) then some (σ r0 6 n0 6, σ) else if x1 = (4 : Int32) then some (σ r0 6 n0 2, σ) else if x1 = (5 : Int32) then mm_bd (fx_X3_lockedSet r0 n0 σ) fun r_11 s_11 => (some (r_11, s_11)) else if x1 = (6 : Int32) then mm_bd (fx_X3_cardSet r0 n0 σ) fun r_13 s_13 => (some (r_13, s_13)) else if x1 = (7 : Int32) then some (σ r0 6 n0 7, σ) else if x1 = (8 : Int32) then some (σ r0 6 n0 8, σ) else some ((-1000001 : Int32), σ)
set_option maxHeartbeats 4000000 in
set_option maxRecDepth 100000 in
theorem cx_X3_value (l : Launch) (D : va_G) (ad : mm_A) (cA : Nat → ClassId) (hI : mm_Inj ad) (r0 : Nat) (n0 : Nat) (x1 : Int32) (hr0 : r0 < 6) (hn0 : n0 < 4) (σ : mm_M) (rv : Int32) (σ1 : mm_M) (hf : fx_X3_value r0 n0 x1 σ = some (rv, σ1)) : Met l yX3_value (Cond.code yX3_value cX3_value 2 (some .int) :: tb) (mm_rm 3 63) (mm_pre D ad cA [.ref (ad r0 6 n0), .int x1] σ) (mm_Q D ad cA (some (.int rv)) σ1) 0 0 (mm_AS ad) := by
  refine mm_start (by decide +kernel) hI (Nat.le_of_ble_eq_true rfl) ?_
  intro p e s m args below meth c X hP ls hl
  have hl : lv_has ls 2 [(0, .ref (ad r0 6 n0)), (1, .int x1)] := hl
  have hx := X.1
  have hb := X.2.1
  have hS : va_S (mm_AS ad) s.heap s.heap [] := va_S.rf
  have hgen : ∀ (H : Heap) (locs : List Loc), va_P D vwCl (mm_wd ad cA σ) H → va_S (mm_AS ad) s.heap H locs → W p l e (mm_rm 3 63) s m args below meth c H locs 0 0 (MQ below (mm_Q D ad cA (some (.int rv)) σ1) args s 0 0 (mm_AS ad)) (F0 m 0 ls []) := by
    intro H locs hP hS
    rw [fx_X3_value] at hf
    refine lv_iload_n hx hb dX3_value_0 rfl (lv_at hl 1 rfl) ?_
    by_cases c_1 : x1 = (0 : Int32)
    · replace hf := mm_it c_1 hf
      refine mm_tabIn (off := 51) (tgt := 52) X (0 : Int32) c_1 dX3_value_1 (by decide +kernel) (by decide +kernel) (by decide) ?_
      refine lv_aload_n hx hb dX3_value_52 rfl (lv_at hl 0 rfl) ?_
      obtain ⟨r_2, s_2, e_2, hf⟩ := mm_bd_ok hf
      refine mm_callV X hP hS hl.1 [] [] (cx_X3_isOut l D ad cA hI r0 n0 hr0 hn0 σ r_2 s_2 e_2) (mm_kc r0 hr0 n0 hn0 0 (by decide)) rfl rfl wd_401 wd_314 wd_315 wd_4 wd_316 hd_X3_isOut ⟨Nat.le_of_ble_eq_true rfl, Nat.le_of_ble_eq_true rfl⟩ rfl (Nat.le_of_ble_eq_true rfl) dX3_value_53 (fun H locs hP hS => ?_)
      refine lv_if_eq (tgt := 64) hx hb dX3_value_56 (by decide) (fun c_3 => ?_) (fun c_3 => ?_)
      · replace hf := mm_it c_3 hf
        refine lv_aload_n hx hb dX3_value_64 rfl (lv_at hl 0 rfl) ?_
        refine gf_6_3 X hP hr0 hn0 wd_70 dX3_value_65 ?_
        obtain ⟨rfl, rfl⟩ := mm_ret hf
        exact mm_iret X hP hS dX3_value_68
      · replace hf := mm_if c_3 hf
        refine lv_ldc (v := (-1000004 : Int32)) hx hb X.2.2.2.2.2.1 (X.2.2.2.2.2.2.1 _ wd_402) dX3_value_59 ?_
        refine lv_goto (tgt := 68) hx hb dX3_value_61 (by decide) ?_
        obtain ⟨rfl, rfl⟩ := mm_ret hf
        exact mm_iret X hP hS dX3_value_68
    replace hf := mm_if c_1 hf
    by_cases c_4 : x1 = (1 : Int32)
    · replace hf := mm_it c_4 hf
      refine mm_tabIn (off := 68) (tgt := 69) X (1 : Int32) c_4 dX3_value_1 (by decide +kernel) (by decide +kernel) (by decide) ?_
      refine lv_aload_n hx hb dX3_value_69 rfl (lv_at hl 0 rfl) ?_
      obtain ⟨r_5, s_5, e_5, hf⟩ := mm_bd_ok hf
      refine mm_callV X hP hS hl.1 [] [] (cx_X3_isOut l D ad cA hI r0 n0 hr0 hn0 σ r_5 s_5 e_5) (mm_kc r0 hr0 n0 hn0 0 (by decide)) rfl rfl wd_401 wd_314 wd_315 wd_4 wd_316 hd_X3_isOut ⟨Nat.le_of_ble_eq_true rfl, Nat.le_of_ble_eq_true rfl⟩ rfl (Nat.le_of_ble_eq_true rfl) dX3_value_70 (fun H locs hP hS => ?_)
      refine lv_if_eq (tgt := 81) hx hb dX3_value_73 (by decide) (fun c_6 => ?_) (fun c_6 => ?_)
      · replace hf := mm_it c_6 hf
        refine lv_aload_n hx hb dX3_value_81 rfl (lv_at hl 0 rfl) ?_
        refine gf_6_4 X hP hr0 hn0 wd_75 dX3_value_82 ?_
        obtain ⟨rfl, rfl⟩ := mm_ret hf
        exact mm_iret X hP hS dX3_value_85
      · replace hf := mm_if c_6 hf
        refine lv_ldc (v := (-1000004 : Int32)) hx hb X.2.2.2.2.2.1 (X.2.2.2.2.2.2.1 _ wd_402) dX3_value_76 ?_
        refine lv_goto (tgt := 85) hx hb dX3_value_78 (by decide) ?_
        obtain ⟨rfl, rfl⟩ := mm_ret hf
        exact mm_iret X hP hS dX3_value_85
    replace hf := mm_if c_4 hf
    by_cases c_7 : x1 = (2 : Int32)
    · replace hf := mm_it c_7 hf
      refine mm_tabIn (off := 85) (tgt := 86) X (2 : Int32) c_7 dX3_value_1 (by decide +kernel) (by decide +kernel) (by decide) ?_
      refine lv_aload_n hx hb dX3_value_86 rfl (lv_at hl 0 rfl) ?_
      refine gf_6_5 X hP hr0 hn0 wd_78 dX3_value_87 ?_
      obtain ⟨rfl, rfl⟩ := mm_ret hf
      exact mm_iret X hP hS dX3_value_90
    replace hf := mm_if c_7 hf
    by_cases c_8 : x1 = (3 : Int32)
    · replace hf := mm_it c_8 hf
      refine mm_tabIn (off := 90) (tgt := 91) X (3 : Int32) c_8 dX3_value_1 (by decide +kernel) (by decide +kernel) (by decide) ?_
      refine lv_aload_n hx hb dX3_value_91 rfl (lv_at hl 0 rfl) ?_
      refine gf_6_6 X hP hr0 hn0 wd_80 dX3_value_92 ?_
      obtain ⟨rfl, rfl⟩ := mm_ret hf
      exact mm_iret X hP hS dX3_value_95
    replace hf := mm_if c_8 hf
    by_cases c_9 : x1 = (4 : Int32)
    · replace hf := mm_it c_9 hf
      refine mm_tabIn (off := 95) (tgt := 96) X (4 : Int32) c_9 dX3_value_1 (by decide +kernel) (by decide +kernel) (by decide) ?_
      refine lv_aload_n hx hb dX3_value_96 rfl (lv_at hl 0 rfl) ?_
      refine gf_6_2 X hP hr0 hn0 wd_68 dX3_value_97 ?_
      obtain ⟨rfl, rfl⟩ := mm_ret hf
      exact mm_iret X hP hS dX3_value_100
    replace hf := mm_if c_9 hf
    by_cases c_10 : x1 = (5 : Int32)
    · replace hf := mm_it c_10 hf
      refine mm_tabIn (off := 100) (tgt := 101) X (5 : Int32) c_10 dX3_value_1 (by decide +kernel) (by decide +kernel) (by decide) ?_
      refine lv_aload_n hx hb dX3_value_101 rfl (lv_at hl 0 rfl) ?_
      obtain ⟨r_11, s_11, e_11, hf⟩ := mm_bd_ok hf
      refine mm_callV X hP hS hl.1 [] [] (cx_X3_lockedSet l D ad cA hI r0 n0 hr0 hn0 σ r_11 s_11 e_11) (mm_kc r0 hr0 n0 hn0 0 (by decide)) rfl rfl wd_403 wd_404 wd_405 wd_4 wd_406 hd_X3_lockedSet ⟨Nat.le_of_ble_eq_true rfl, Nat.le_of_ble_eq_true rfl⟩ rfl (Nat.le_of_ble_eq_true rfl) dX3_value_102 (fun H locs hP hS => ?_)
      obtain ⟨rfl, rfl⟩ := mm_ret hf
      exact mm_iret X hP hS dX3_value_105
    replace hf := mm_if c_10 hf
    by_cases c_12 : x1 = (6 : Int32)
    · replace hf := mm_it c_12 hf
      refine mm_tabIn (off := 105) (tgt := 106) X (6 : Int32) c_12 dX3_value_1 (by decide +kernel) (by decide +kernel) (by decide) ?_
      refine lv_aload_n hx hb dX3_value_106 rfl (lv_at hl 0 rfl) ?_
      obtain ⟨r_13, s_13, e_13, hf⟩ := mm_bd_ok hf
      refine mm_callV X hP hS hl.1 [] [] (cx_X3_cardSet l D ad cA hI r0 n0 hr0 hn0 σ r_13 s_13 e_13) (mm_kc r0 hr0 n0 hn0 0 (by decide)) rfl rfl wd_414 wd_415 wd_416 wd_4 wd_417 hd_X3_cardSet ⟨Nat.le_of_ble_eq_true rfl, Nat.le_of_ble_eq_true rfl⟩ rfl (Nat.le_of_ble_eq_true rfl) dX3_value_107 (fun H locs hP hS => ?_)
      obtain ⟨rfl, rfl⟩ := mm_ret hf
      exact mm_iret X hP hS dX3_value_110
    replace hf := mm_if c_12 hf
    by_cases c_14 : x1 = (7 : Int32)
    · replace hf := mm_it c_14 hf
      refine mm_tabIn (off := 110) (tgt := 111) X (7 : Int32) c_14 dX3_value_1 (by decide +kernel) (by decide +kernel) (by decide) ?_
      refine lv_aload_n hx hb dX3_value_111 rfl (lv_at hl 0 rfl) ?_
      refine gf_6_7 X hP hr0 hn0 wd_83 dX3_value_112 ?_
      obtain ⟨rfl, rfl⟩ := mm_ret hf
      exact mm_iret X hP hS dX3_value_115
    replace hf := mm_if c_14 hf
    by_cases c_15 : x1 = (8 : Int32)
    · replace hf := mm_it c_15 hf
      refine mm_tabIn (off := 115) (tgt := 116) X (8 : Int32) c_15 dX3_value_1 (by decide +kernel) (by decide +kernel) (by decide) ?_
      refine lv_aload_n hx hb dX3_value_116 rfl (lv_at hl 0 rfl) ?_
      refine gf_6_8 X hP hr0 hn0 wd_86 dX3_value_117 ?_
      obtain ⟨rfl, rfl⟩ := mm_ret hf
      exact mm_iret X hP hS dX3_value_120
    replace hf := mm_if c_15 hf
    refine lv_tableOut (tgt := 121) hx hb dX3_value_1 (by have q_1 := lv_neT c_1 (a := 0) (by decide); have q_4 := lv_neT c_4 (a := 1) (by decide); have q_7 := lv_neT c_7 (a := 2) (by decide); have q_8 := lv_neT c_8 (a := 3) (by decide); have q_9 := lv_neT c_9 (a := 4) (by decide); have q_10 := lv_neT c_10 (a := 5) (by decide); have q_12 := lv_neT c_12 (a := 6) (by decide); have q_14 := lv_neT c_14 (a := 7) (by decide); have q_15 := lv_neT c_15 (a := 8) (by decide); omega) (by decide) ?_
    refine lv_ldc (v := (-1000001 : Int32)) hx hb X.2.2.2.2.2.1 (X.2.2.2.2.2.2.1 _ wd_418) dX3_value_121 ?_
    obtain ⟨rfl, rfl⟩ := mm_ret hf
    exact mm_iret X hP hS dX3_value_123
  exact hgen _ _ hP hS
def fx_X10_cartOf (x1 : Int32) (x2 : Int32) (σ : mm_M) : mm_R := mm_bd (fx_X8_hasCart 0 x1 σ) fun r_1 s_1 => (if r_1 = (0 : Int32) then some ((-1000001 : Int32), s_1) else mm_bd (fx_X10_isWithin x2 (0 : Int32) (8 : Int32) s_1) fun r_3 s_3 => (if r_3 = (0 : Int32) then some ((-1000001 : Int32), s_3) else mm_gd (mm_ix x1 4 = true) (mm_bd (fx_X3_value 0 x1.toNatClampNeg x2 s_3) fun r_6 s_6 => (some (r_6, s_6)))))
set_option maxHeartbeats 4000000 in
set_option maxRecDepth 100000 in
theorem cx_X10_cartOf (l : Launch) (D : va_G) (ad : mm_A) (cA : Nat → ClassId) (hI : mm_Inj ad) (x1 : Int32) (x2 : Int32)  (σ : mm_M) (rv : Int32) (σ1 : mm_M) (hf : fx_X10_cartOf x1 x2 σ = some (rv, σ1)) : Met l yX10_cartOf (Cond.code yX10_cartOf cX10_cartOf 3 (some .int) :: tb) (mm_rm 4 84) (mm_pre D ad cA [.ref (ad 6 9 0), .int x1, .int x2] σ) (mm_Q D ad cA (some (.int rv)) σ1) 0 0 (mm_AS ad) := by
  refine mm_start (by decide +kernel) hI (Nat.le_of_ble_eq_true rfl) ?_
  intro p e s m args below meth c X hP ls hl
  have hl : lv_has ls 3 [(0, .ref (ad 6 9 0)), (1, .int x1), (2, .int x2)] := hl
  have hx := X.1
  have hb := X.2.1
  have hS : va_S (mm_AS ad) s.heap s.heap [] := va_S.rf
  have hgen : ∀ (H : Heap) (locs : List Loc), va_P D vwCl (mm_wd ad cA σ) H → va_S (mm_AS ad) s.heap H locs → W p l e (mm_rm 4 84) s m args below meth c H locs 0 0 (MQ below (mm_Q D ad cA (some (.int rv)) σ1) args s 0 0 (mm_AS ad)) (F0 m 0 ls []) := by
    intro H locs hP hS
    rw [fx_X10_cartOf] at hf
    refine lv_aload_n hx hb dX10_cartOf_0 rfl (lv_at hl 0 rfl) ?_
    refine gf_9_0 X hP  wd_283 dX10_cartOf_1 ?_
    refine lv_iload_n hx hb dX10_cartOf_4 rfl (lv_at hl 1 rfl) ?_
    obtain ⟨r_1, s_1, e_1, hf⟩ := mm_bd_ok hf
    refine mm_callV X hP hS hl.1 [.int x1] [] (cx_X8_hasCart l D ad cA hI 0 x1 (by decide) σ r_1 s_1 e_1) (mm_kr 0 (by decide) 0 (by decide)) rfl rfl wd_393 wd_394 wd_395 wd_2 wd_396 hd_X8_hasCart ⟨Nat.le_of_ble_eq_true rfl, Nat.le_of_ble_eq_true rfl⟩ rfl (Nat.le_of_ble_eq_true rfl) dX10_cartOf_5 (fun H locs hP hS => ?_)
    refine lv_if_eq (tgt := 21) hx hb dX10_cartOf_8 (by decide) (fun c_2 => ?_) (fun c_2 => ?_)
    · replace hf := mm_it c_2 hf
      refine lv_ldc (v := (-1000001 : Int32)) hx hb X.2.2.2.2.2.1 (X.2.2.2.2.2.2.1 _ wd_318) dX10_cartOf_21 ?_
      obtain ⟨rfl, rfl⟩ := mm_ret hf
      exact mm_iret X hP hS dX10_cartOf_23
    · replace hf := mm_if c_2 hf
      refine lv_iload_n hx hb dX10_cartOf_11 rfl (lv_at hl 2 rfl) ?_
      refine lv_iconst (v := (0 : Int32)) hx hb dX10_cartOf_12 (by decide) ?_
      refine lv_bipush (v := (8 : Int32)) hx hb dX10_cartOf_13 (by decide) ?_
      obtain ⟨r_3, s_3, e_3, hf⟩ := mm_bd_ok hf
      refine mm_callS X hP hS hl.1 [.int x2, .int (0 : Int32), .int (8 : Int32)] [] (cx_X10_isWithin l D ad cA hI x2 (0 : Int32) (8 : Int32) s_1 r_3 s_3 e_3) wd_364 wd_365 wd_1 wd_366 hd_X10_isWithin ⟨Nat.le_of_ble_eq_true rfl, Nat.le_of_ble_eq_true rfl⟩ rfl (Nat.le_of_ble_eq_true rfl) dX10_cartOf_15 (fun H locs hP hS => ?_)
      refine lv_if_ne (tgt := 24) hx hb dX10_cartOf_18 (by decide) (fun c_4 => ?_) (fun c_4 => ?_)
      · replace hf := mm_if c_4 hf
        refine lv_aload_n hx hb dX10_cartOf_24 rfl (lv_at hl 0 rfl) ?_
        refine gf_9_0 X hP  wd_283 dX10_cartOf_25 ?_
        refine gf_0_1 X hP (by decide) wd_113 dX10_cartOf_28 ?_
        refine lv_iload_n hx hb dX10_cartOf_31 rfl (lv_at hl 1 rfl) ?_
        obtain ⟨h_5, hf⟩ := mm_gd_ok hf
        refine mm_cart X hP (by decide) h_5 dX10_cartOf_32 ?_
        refine lv_iload_n hx hb dX10_cartOf_33 rfl (lv_at hl 2 rfl) ?_
        obtain ⟨r_6, s_6, e_6, hf⟩ := mm_bd_ok hf
        refine mm_callV X hP hS hl.1 [.int x2] [] (cx_X3_value l D ad cA hI 0 x1.toNatClampNeg x2 (by decide) (mm_ix_lt h_5) s_3 r_6 s_6 e_6) (mm_kc 0 (by decide) x1.toNatClampNeg (mm_ix_lt h_5) 0 (by decide)) rfl rfl wd_397 wd_398 wd_399 wd_4 wd_400 hd_X3_value ⟨Nat.le_of_ble_eq_true rfl, Nat.le_of_ble_eq_true rfl⟩ rfl (Nat.le_of_ble_eq_true rfl) dX10_cartOf_34 (fun H locs hP hS => ?_)
        obtain ⟨rfl, rfl⟩ := mm_ret hf
        exact mm_iret X hP hS dX10_cartOf_37
      · replace hf := mm_it c_4 hf
        refine lv_ldc (v := (-1000001 : Int32)) hx hb X.2.2.2.2.2.1 (X.2.2.2.2.2.2.1 _ wd_318) dX10_cartOf_21 ?_
        obtain ⟨rfl, rfl⟩ := mm_ret hf
        exact mm_iret X hP hS dX10_cartOf_23
  exact hgen _ _ hP hS
def fx_X10_cardOf (x1 : Int32) (x2 : Int32) (x3 : Int32) (σ : mm_M) : mm_R := mm_bd (fx_X8_hasCart 0 x1 σ) fun r_1 s_1 => (if r_1 = (0 : Int32) then some ((-1000001 : Int32), s_1) else mm_bd (fx_X10_isRegister x2 s_1) fun r_3 s_3 => (if r_3 = (0 : Int32) then some ((-1000001 : Int32), s_3) else mm_bd (fx_X10_isWithin x3 (0 : Int32) (1 : Int32) s_3) fun r_5 s_5 => (if r_5 = (0 : Int32) then some ((-1000001 : Int32), s_5) else mm_gd (mm_ix x1 4 = true) (mm_bd (fx_X3_hasCard 0 x1.toNatClampNeg x2 s_5) fun r_8 s_8 => (if r_8 = (0 : Int32) then some ((-1000004 : Int32), s_8) else if x3 = (0 : Int32) then mm_gd (mm_ix x2 5 = true) (some (s_8 0 7 x1.toNatClampNeg x2.toNatClampNeg, s_8)) else mm_gd (mm_ix x2 5 = true) (some (s_8 0 8 x1.toNatClampNeg x2.toNatClampNeg, s_8)))))))
set_option maxHeartbeats 4000000 in
set_option maxRecDepth 100000 in
theorem cx_X10_cardOf (l : Launch) (D : va_G) (ad : mm_A) (cA : Nat → ClassId) (hI : mm_Inj ad) (x1 : Int32) (x2 : Int32) (x3 : Int32)  (σ : mm_M) (rv : Int32) (σ1 : mm_M) (hf : fx_X10_cardOf x1 x2 x3 σ = some (rv, σ1)) : Met l yX10_cardOf (Cond.code yX10_cardOf cX10_cardOf 5 (some .int) :: tb) (mm_rm 1 22) (mm_pre D ad cA [.ref (ad 6 9 0), .int x1, .int x2, .int x3] σ) (mm_Q D ad cA (some (.int rv)) σ1) 0 0 (mm_AS ad) := by
  refine mm_start (by decide +kernel) hI (Nat.le_of_ble_eq_true rfl) ?_
  intro p e s m args below meth c X hP ls hl
  have hl : lv_has ls 5 [(0, .ref (ad 6 9 0)), (1, .int x1), (2, .int x2), (3, .int x3)] := hl
  have hx := X.1
  have hb := X.2.1
  have hS : va_S (mm_AS ad) s.heap s.heap [] := va_S.rf
  have hgen : ∀ (H : Heap) (locs : List Loc), va_P D vwCl (mm_wd ad cA σ) H → va_S (mm_AS ad) s.heap H locs → W p l e (mm_rm 1 22) s m args below meth c H locs 0 0 (MQ below (mm_Q D ad cA (some (.int rv)) σ1) args s 0 0 (mm_AS ad)) (F0 m 0 ls []) := by
    intro H locs hP hS
    rw [fx_X10_cardOf] at hf
    refine lv_aload_n hx hb dX10_cardOf_0 rfl (lv_at hl 0 rfl) ?_
    refine gf_9_0 X hP  wd_283 dX10_cardOf_1 ?_
    refine lv_iload_n hx hb dX10_cardOf_4 rfl (lv_at hl 1 rfl) ?_
    obtain ⟨r_1, s_1, e_1, hf⟩ := mm_bd_ok hf
    refine mm_callV X hP hS hl.1 [.int x1] [] (cx_X8_hasCart l D ad cA hI 0 x1 (by decide) σ r_1 s_1 e_1) (mm_kr 0 (by decide) 0 (by decide)) rfl rfl wd_393 wd_394 wd_395 wd_2 wd_396 hd_X8_hasCart ⟨Nat.le_of_ble_eq_true rfl, Nat.le_of_ble_eq_true rfl⟩ rfl (Nat.le_of_ble_eq_true rfl) dX10_cardOf_5 (fun H locs hP hS => ?_)
    refine lv_if_eq (tgt := 27) hx hb dX10_cardOf_8 (by decide) (fun c_2 => ?_) (fun c_2 => ?_)
    · replace hf := mm_it c_2 hf
      refine lv_ldc (v := (-1000001 : Int32)) hx hb X.2.2.2.2.2.1 (X.2.2.2.2.2.2.1 _ wd_318) dX10_cardOf_27 ?_
      obtain ⟨rfl, rfl⟩ := mm_ret hf
      exact mm_iret X hP hS dX10_cardOf_29
    · replace hf := mm_if c_2 hf
      refine lv_iload_n hx hb dX10_cardOf_11 rfl (lv_at hl 2 rfl) ?_
      obtain ⟨r_3, s_3, e_3, hf⟩ := mm_bd_ok hf
      refine mm_callS X hP hS hl.1 [.int x2] [] (cx_X10_isRegister l D ad cA hI x2 s_1 r_3 s_3 e_3) wd_423 wd_424 wd_1 wd_425 hd_X10_isRegister ⟨Nat.le_of_ble_eq_true rfl, Nat.le_of_ble_eq_true rfl⟩ rfl (Nat.le_of_ble_eq_true rfl) dX10_cardOf_12 (fun H locs hP hS => ?_)
      refine lv_if_eq (tgt := 27) hx hb dX10_cardOf_15 (by decide) (fun c_4 => ?_) (fun c_4 => ?_)
      · replace hf := mm_it c_4 hf
        refine lv_ldc (v := (-1000001 : Int32)) hx hb X.2.2.2.2.2.1 (X.2.2.2.2.2.2.1 _ wd_318) dX10_cardOf_27 ?_
        obtain ⟨rfl, rfl⟩ := mm_ret hf
        exact mm_iret X hP hS dX10_cardOf_29
      · replace hf := mm_if c_4 hf
        refine lv_iload_n hx hb dX10_cardOf_18 rfl (lv_at hl 3 rfl) ?_
        refine lv_iconst (v := (0 : Int32)) hx hb dX10_cardOf_19 (by decide) ?_
        refine lv_iconst (v := (1 : Int32)) hx hb dX10_cardOf_20 (by decide) ?_
        obtain ⟨r_5, s_5, e_5, hf⟩ := mm_bd_ok hf
        refine mm_callS X hP hS hl.1 [.int x3, .int (0 : Int32), .int (1 : Int32)] [] (cx_X10_isWithin l D ad cA hI x3 (0 : Int32) (1 : Int32) s_3 r_5 s_5 e_5) wd_364 wd_365 wd_1 wd_366 hd_X10_isWithin ⟨Nat.le_of_ble_eq_true rfl, Nat.le_of_ble_eq_true rfl⟩ rfl (Nat.le_of_ble_eq_true rfl) dX10_cardOf_21 (fun H locs hP hS => ?_)
        refine lv_if_ne (tgt := 30) hx hb dX10_cardOf_24 (by decide) (fun c_6 => ?_) (fun c_6 => ?_)
        · replace hf := mm_if c_6 hf
          refine lv_aload_n hx hb dX10_cardOf_30 rfl (lv_at hl 0 rfl) ?_
          refine gf_9_0 X hP  wd_283 dX10_cardOf_31 ?_
          refine gf_0_1 X hP (by decide) wd_113 dX10_cardOf_34 ?_
          refine lv_iload_n hx hb dX10_cardOf_37 rfl (lv_at hl 1 rfl) ?_
          obtain ⟨h_7, hf⟩ := mm_gd_ok hf
          refine mm_cart X hP (by decide) h_7 dX10_cardOf_38 ?_
          refine lv_astore (lv' := [(4, .ref (ad 0 6 x1.toNatClampNeg)), (0, .ref (ad 6 9 0)), (1, .int x1), (2, .int x2), (3, .int x3)]) hx hb dX10_cardOf_39 hl (by decide) rfl (fun ls hl => ?_)
          refine lv_aload hx hb dX10_cardOf_41 (lv_at hl 0 rfl) ?_
          refine lv_iload_n hx hb dX10_cardOf_43 rfl (lv_at hl 3 rfl) ?_
          obtain ⟨r_8, s_8, e_8, hf⟩ := mm_bd_ok hf
          refine mm_callV X hP hS hl.1 [.int x2] [] (cx_X3_hasCard l D ad cA hI 0 x1.toNatClampNeg x2 (by decide) (mm_ix_lt h_7) s_5 r_8 s_8 e_8) (mm_kc 0 (by decide) x1.toNatClampNeg (mm_ix_lt h_7) 0 (by decide)) rfl rfl wd_426 wd_427 wd_428 wd_4 wd_429 hd_X3_hasCard ⟨Nat.le_of_ble_eq_true rfl, Nat.le_of_ble_eq_true rfl⟩ rfl (Nat.le_of_ble_eq_true rfl) dX10_cardOf_44 (fun H locs hP hS => ?_)
          refine lv_if_ne (tgt := 53) hx hb dX10_cardOf_47 (by decide) (fun c_9 => ?_) (fun c_9 => ?_)
          · replace hf := mm_if c_9 hf
            refine lv_iload_n hx hb dX10_cardOf_53 rfl (lv_at hl 4 rfl) ?_
            refine lv_if_ne (tgt := 67) hx hb dX10_cardOf_54 (by decide) (fun c_10 => ?_) (fun c_10 => ?_)
            · replace hf := mm_if c_10 hf
              refine lv_aload hx hb dX10_cardOf_67 (lv_at hl 0 rfl) ?_
              refine gf_6_1 X hP (by decide) (mm_ix_lt h_7) wd_67 dX10_cardOf_69 ?_
              refine lv_iload_n hx hb dX10_cardOf_72 rfl (lv_at hl 3 rfl) ?_
              obtain ⟨h_11, hf⟩ := mm_gd_ok hf
              refine al_8 X hP (by decide) (mm_ix_lt h_7) h_11 dX10_cardOf_73 ?_
              obtain ⟨rfl, rfl⟩ := mm_ret hf
              exact mm_iret X hP hS dX10_cardOf_74
            · replace hf := mm_it c_10 hf
              refine lv_aload hx hb dX10_cardOf_57 (lv_at hl 0 rfl) ?_
              refine gf_6_0 X hP (by decide) (mm_ix_lt h_7) wd_64 dX10_cardOf_59 ?_
              refine lv_iload_n hx hb dX10_cardOf_62 rfl (lv_at hl 3 rfl) ?_
              obtain ⟨h_12, hf⟩ := mm_gd_ok hf
              refine al_7 X hP (by decide) (mm_ix_lt h_7) h_12 dX10_cardOf_63 ?_
              refine lv_goto (tgt := 74) hx hb dX10_cardOf_64 (by decide) ?_
              obtain ⟨rfl, rfl⟩ := mm_ret hf
              exact mm_iret X hP hS dX10_cardOf_74
          · replace hf := mm_it c_9 hf
            refine lv_ldc (v := (-1000004 : Int32)) hx hb X.2.2.2.2.2.1 (X.2.2.2.2.2.2.1 _ wd_317) dX10_cardOf_50 ?_
            obtain ⟨rfl, rfl⟩ := mm_ret hf
            exact mm_iret X hP hS dX10_cardOf_52
        · replace hf := mm_it c_6 hf
          refine lv_ldc (v := (-1000001 : Int32)) hx hb X.2.2.2.2.2.1 (X.2.2.2.2.2.2.1 _ wd_318) dX10_cardOf_27 ?_
          obtain ⟨rfl, rfl⟩ := mm_ret hf
          exact mm_iret X hP hS dX10_cardOf_29
  exact hgen _ _ hP hS
