def fx_L_digits_J48 (x1 : Int32)  (w0 : Int32) (σ : mm_M) : mm_R := if w0 = (0 : Int32) then some ((0 : Int32), σ) else mm_bd (fx_X10_type ((48 : Int32) + (x1 - x1 / (10 : Int32) * (10 : Int32))) σ) fun r_8 s_8 => (if r_8 ≤ (0 : Int32) then some ((0 : Int32), s_8) else some ((1 : Int32), s_8))
set_option maxHeartbeats 4000000 in
set_option maxRecDepth 100000 in
theorem cx_L_digits_J48 {p : Program} {l : Launch} {e : Env} {s : State} {m : MethodId} {args : Array Value} {below : List Frame} {meth : Method} {c : Code} {D : va_G} {ad : mm_A} {cA : Nat → ClassId} (x1 : Int32)  (rv : Int32) (σ1 : mm_M)  (X : mm_X p s m args meth c cL_digits 3 (some .boolean) RL D ad cA) : ∀ (w0 : Int32) (σ : mm_M) (H : Heap) (locs : List Loc) (ls : Array Slot), fx_L_digits_J48 x1 w0 σ = some (rv, σ1) → va_P D vwCl (mm_wd ad cA σ) H → va_S (mm_AS ad) s.heap H locs → lv_has ls 3 [(0, .ref (ad 6 9 0)), (1, .int x1)] → W p l e (mm_rm 2 43) s m args below meth c H locs 0 0 (MQ below (mm_Q D ad cA (some (.int rv)) σ1) args s 0 0 (mm_AS ad)) (F0 m 48 ls [.int w0]) := by
  have hx := X.1
  have hb := X.2.1
  have hI := X.2.2.2.2.2.2.2.2.2
  intro w0 σ H locs ls hf hP hS hl
  rw [fx_L_digits_J48] at hf
  refine lv_istore_n (lv' := [(2, .int w0), (0, .ref (ad 6 9 0)), (1, .int x1)]) hx hb dL_digits_48 rfl hl (by decide) rfl (fun ls hl => ?_)
  refine lv_iload_n hx hb dL_digits_49 rfl (lv_at hl 0 rfl) ?_
  refine lv_if_eq (tgt := 71) hx hb dL_digits_50 (by decide) (fun c_7 => ?_) (fun c_7 => ?_)
  · replace hf := mm_it c_7 hf
    refine lv_iconst (v := (0 : Int32)) hx hb dL_digits_71 (by decide) ?_
    obtain ⟨rfl, rfl⟩ := mm_ret hf
    exact mm_zret (Or.inl rfl) X hP hS dL_digits_72
  · replace hf := mm_if c_7 hf
    refine lv_aload_n hx hb dL_digits_53 rfl (lv_at hl 1 rfl) ?_
    refine lv_bipush (v := (48 : Int32)) hx hb dL_digits_54 (by decide) ?_
    refine lv_iload_n hx hb dL_digits_56 rfl (lv_at hl 2 rfl) ?_
    refine lv_bipush (v := (10 : Int32)) hx hb dL_digits_57 (by decide) ?_
    refine lv_irem hx hb dL_digits_59 (by decide) ?_
    refine lv_iadd hx hb dL_digits_60 ?_
    obtain ⟨r_8, s_8, e_8, hf⟩ := mm_bd_ok hf
    refine mm_callV X hP hS hl.1 [.int ((48 : Int32) + (x1 - x1 / (10 : Int32) * (10 : Int32)))] [] (cx_X10_type l D ad cA hI ((48 : Int32) + (x1 - x1 / (10 : Int32) * (10 : Int32))) σ r_8 s_8 e_8) kp_9 rfl rfl wd_728 wd_729 wd_730 wd_1 wd_731 hd_X10_type ⟨Nat.le_of_ble_eq_true rfl, Nat.le_of_ble_eq_true rfl⟩ rfl (Nat.le_of_ble_eq_true rfl) dL_digits_61 (fun H locs hP hS => ?_)
    refine lv_if_le (tgt := 71) hx hb dL_digits_64 (by decide) (fun c_9 => ?_) (fun c_9 => ?_)
    · replace hf := mm_it c_9 hf
      refine lv_iconst (v := (0 : Int32)) hx hb dL_digits_71 (by decide) ?_
      obtain ⟨rfl, rfl⟩ := mm_ret hf
      exact mm_zret (Or.inl rfl) X hP hS dL_digits_72
    · replace hf := mm_if c_9 hf
      refine lv_iconst (v := (1 : Int32)) hx hb dL_digits_67 (by decide) ?_
      refine lv_goto (tgt := 72) hx hb dL_digits_68 (by decide) ?_
      obtain ⟨rfl, rfl⟩ := mm_ret hf
      exact mm_zret (Or.inr rfl) X hP hS dL_digits_72
def fx_L_digits_J47 (x1 : Int32)   (σ : mm_M) : mm_R := fx_L_digits_J48 x1 (0 : Int32) σ
set_option maxHeartbeats 4000000 in
set_option maxRecDepth 100000 in
theorem cx_L_digits_J47 {p : Program} {l : Launch} {e : Env} {s : State} {m : MethodId} {args : Array Value} {below : List Frame} {meth : Method} {c : Code} {D : va_G} {ad : mm_A} {cA : Nat → ClassId} (x1 : Int32)  (rv : Int32) (σ1 : mm_M)  (X : mm_X p s m args meth c cL_digits 3 (some .boolean) RL D ad cA) : ∀ (σ : mm_M) (H : Heap) (locs : List Loc) (ls : Array Slot), fx_L_digits_J47 x1  σ = some (rv, σ1) → va_P D vwCl (mm_wd ad cA σ) H → va_S (mm_AS ad) s.heap H locs → lv_has ls 3 [(0, .ref (ad 6 9 0)), (1, .int x1)] → W p l e (mm_rm 2 43) s m args below meth c H locs 0 0 (MQ below (mm_Q D ad cA (some (.int rv)) σ1) args s 0 0 (mm_AS ad)) (F0 m 47 ls []) := by
  have hx := X.1
  have hb := X.2.1
  have hI := X.2.2.2.2.2.2.2.2.2
  intro σ H locs ls hf hP hS hl
  rw [fx_L_digits_J47] at hf
  refine lv_iconst (v := (0 : Int32)) hx hb dL_digits_47 (by decide) ?_
  exact cx_L_digits_J48 x1 rv σ1 X (0 : Int32) σ H locs ls hf hP hS (lv_sub hl [0, 1] rfl)
def fx_L_digits_J20 (x1 : Int32)   (σ : mm_M) : mm_R := if x1 < (10 : Int32) then fx_L_digits_J48 x1 (1 : Int32) σ else mm_bd (fx_X10_type ((48 : Int32) + ((x1 / (10 : Int32)) - (x1 / (10 : Int32)) / (10 : Int32) * (10 : Int32))) σ) fun r_5 s_5 => (if r_5 ≤ (0 : Int32) then fx_L_digits_J47 x1 s_5 else fx_L_digits_J48 x1 (1 : Int32) s_5)
set_option maxHeartbeats 4000000 in
set_option maxRecDepth 100000 in
theorem cx_L_digits_J20 {p : Program} {l : Launch} {e : Env} {s : State} {m : MethodId} {args : Array Value} {below : List Frame} {meth : Method} {c : Code} {D : va_G} {ad : mm_A} {cA : Nat → ClassId} (x1 : Int32)  (rv : Int32) (σ1 : mm_M)  (X : mm_X p s m args meth c cL_digits 3 (some .boolean) RL D ad cA) : ∀ (σ : mm_M) (H : Heap) (locs : List Loc) (ls : Array Slot), fx_L_digits_J20 x1  σ = some (rv, σ1) → va_P D vwCl (mm_wd ad cA σ) H → va_S (mm_AS ad) s.heap H locs → lv_has ls 3 [(0, .ref (ad 6 9 0)), (1, .int x1)] → W p l e (mm_rm 2 43) s m args below meth c H locs 0 0 (MQ below (mm_Q D ad cA (some (.int rv)) σ1) args s 0 0 (mm_AS ad)) (F0 m 20 ls []) := by
  have hx := X.1
  have hb := X.2.1
  have hI := X.2.2.2.2.2.2.2.2.2
  intro σ H locs ls hf hP hS hl
  rw [fx_L_digits_J20] at hf
  refine lv_iload_n hx hb dL_digits_20 rfl (lv_at hl 1 rfl) ?_
  refine lv_bipush (v := (10 : Int32)) hx hb dL_digits_21 (by decide) ?_
  refine lv_icmp_lt (tgt := 43) hx hb dL_digits_23 (by decide) (fun c_4 => ?_) (fun c_4 => ?_)
  · replace hf := mm_it c_4 hf
    refine lv_iconst (v := (1 : Int32)) hx hb dL_digits_43 (by decide) ?_
    refine lv_goto (tgt := 48) hx hb dL_digits_44 (by decide) ?_
    exact cx_L_digits_J48 x1 rv σ1 X (1 : Int32) σ H locs ls hf hP hS (lv_sub hl [0, 1] rfl)
  · replace hf := mm_if c_4 hf
    refine lv_aload_n hx hb dL_digits_26 rfl (lv_at hl 0 rfl) ?_
    refine lv_bipush (v := (48 : Int32)) hx hb dL_digits_27 (by decide) ?_
    refine lv_iload_n hx hb dL_digits_29 rfl (lv_at hl 1 rfl) ?_
    refine lv_bipush (v := (10 : Int32)) hx hb dL_digits_30 (by decide) ?_
    refine lv_idiv hx hb dL_digits_32 (by decide) ?_
    refine lv_bipush (v := (10 : Int32)) hx hb dL_digits_33 (by decide) ?_
    refine lv_irem hx hb dL_digits_35 (by decide) ?_
    refine lv_iadd hx hb dL_digits_36 ?_
    obtain ⟨r_5, s_5, e_5, hf⟩ := mm_bd_ok hf
    refine mm_callV X hP hS hl.1 [.int ((48 : Int32) + ((x1 / (10 : Int32)) - (x1 / (10 : Int32)) / (10 : Int32) * (10 : Int32)))] [] (cx_X10_type l D ad cA hI ((48 : Int32) + ((x1 / (10 : Int32)) - (x1 / (10 : Int32)) / (10 : Int32) * (10 : Int32))) σ r_5 s_5 e_5) kp_9 rfl rfl wd_728 wd_729 wd_730 wd_1 wd_731 hd_X10_type ⟨Nat.le_of_ble_eq_true rfl, Nat.le_of_ble_eq_true rfl⟩ rfl (Nat.le_of_ble_eq_true rfl) dL_digits_37 (fun H locs hP hS => ?_)
    refine lv_if_le (tgt := 47) hx hb dL_digits_40 (by decide) (fun c_6 => ?_) (fun c_6 => ?_)
    · replace hf := mm_it c_6 hf
      exact cx_L_digits_J47 x1 rv σ1 X s_5 H locs ls hf hP hS (lv_sub hl [0, 1] rfl)
    · replace hf := mm_if c_6 hf
      refine lv_iconst (v := (1 : Int32)) hx hb dL_digits_43 (by decide) ?_
      refine lv_goto (tgt := 48) hx hb dL_digits_44 (by decide) ?_
      exact cx_L_digits_J48 x1 rv σ1 X (1 : Int32) s_5 H locs ls hf hP hS (lv_sub hl [0, 1] rfl)
def fx_L_digits (x1 : Int32) (σ : mm_M) : mm_R := if x1 < (100 : Int32) then fx_L_digits_J20 x1 σ else mm_bd (fx_X10_type ((48 : Int32) + (x1 / (100 : Int32))) σ) fun r_2 s_2 => (if r_2 ≤ (0 : Int32) then fx_L_digits_J47 x1 s_2 else fx_L_digits_J20 x1 s_2)
set_option maxHeartbeats 4000000 in
set_option maxRecDepth 100000 in
theorem cx_L_digits (l : Launch) (D : va_G) (ad : mm_A) (cA : Nat → ClassId) (hI : mm_Inj ad) (x1 : Int32)  (σ : mm_M) (rv : Int32) (σ1 : mm_M) (hf : fx_L_digits x1 σ = some (rv, σ1)) : Met l yL_digits (Cond.code yL_digits cL_digits 3 (some .boolean) :: tb) (mm_rm 2 43) (mm_pre D ad cA [.ref (ad 6 9 0), .int x1] σ) (mm_Q D ad cA (some (.int rv)) σ1) 0 0 (mm_AS ad) := by
  refine mm_start (by decide +kernel) hI (Nat.le_of_ble_eq_true rfl) ?_
  intro p e s m args below meth c X hP ls hl
  have hl : lv_has ls 3 [(0, .ref (ad 6 9 0)), (1, .int x1)] := hl
  have hx := X.1
  have hb := X.2.1
  have hS : va_S (mm_AS ad) s.heap s.heap [] := va_S.rf
  have hgen : ∀ (H : Heap) (locs : List Loc), va_P D vwCl (mm_wd ad cA σ) H → va_S (mm_AS ad) s.heap H locs → W p l e (mm_rm 2 43) s m args below meth c H locs 0 0 (MQ below (mm_Q D ad cA (some (.int rv)) σ1) args s 0 0 (mm_AS ad)) (F0 m 0 ls []) := by
    intro H locs hP hS
    rw [fx_L_digits] at hf
    refine lv_iload_n hx hb dL_digits_0 rfl (lv_at hl 1 rfl) ?_
    refine lv_bipush (v := (100 : Int32)) hx hb dL_digits_1 (by decide) ?_
    refine lv_icmp_lt (tgt := 20) hx hb dL_digits_3 (by decide) (fun c_1 => ?_) (fun c_1 => ?_)
    · replace hf := mm_it c_1 hf
      exact cx_L_digits_J20 x1 rv σ1 X σ H locs ls hf hP hS (lv_sub hl [0, 1] rfl)
    · replace hf := mm_if c_1 hf
      refine lv_aload_n hx hb dL_digits_6 rfl (lv_at hl 0 rfl) ?_
      refine lv_bipush (v := (48 : Int32)) hx hb dL_digits_7 (by decide) ?_
      refine lv_iload_n hx hb dL_digits_9 rfl (lv_at hl 1 rfl) ?_
      refine lv_bipush (v := (100 : Int32)) hx hb dL_digits_10 (by decide) ?_
      refine lv_idiv hx hb dL_digits_12 (by decide) ?_
      refine lv_iadd hx hb dL_digits_13 ?_
      obtain ⟨r_2, s_2, e_2, hf⟩ := mm_bd_ok hf
      refine mm_callV X hP hS hl.1 [.int ((48 : Int32) + (x1 / (100 : Int32)))] [] (cx_X10_type l D ad cA hI ((48 : Int32) + (x1 / (100 : Int32))) σ r_2 s_2 e_2) kp_9 rfl rfl wd_728 wd_729 wd_730 wd_1 wd_731 hd_X10_type ⟨Nat.le_of_ble_eq_true rfl, Nat.le_of_ble_eq_true rfl⟩ rfl (Nat.le_of_ble_eq_true rfl) dL_digits_14 (fun H locs hP hS => ?_)
      refine lv_if_le (tgt := 47) hx hb dL_digits_17 (by decide) (fun c_3 => ?_) (fun c_3 => ?_)
      · replace hf := mm_it c_3 hf
        exact cx_L_digits_J47 x1 rv σ1 X s_2 H locs ls hf hP hS (lv_sub hl [0, 1] rfl)
      · replace hf := mm_if c_3 hf
        exact cx_L_digits_J20 x1 rv σ1 X s_2 H locs ls hf hP hS (lv_sub hl [0, 1] rfl)
  exact hgen _ _ hP hS
def fx_L_types_J265 (x1 : Int32) (k22 : Int32 → Int32 → Int32 → mm_M → mm_R) (k148 : Int32 → Int32 → Int32 → Int32 → Int32 → Int32 → Int32 → mm_M → mm_R) (v2 : Int32) (v4 : Int32) (v5 : Int32) (v6 : Int32) (v7 : Int32) (v8 : Int32) (w0 : Int32) (σ : mm_M) : mm_R := mm_li (v8 + (1 : Int32)) fun y_41 => (k148 v2 w0 v4 v5 v6 v7 y_41 σ)
set_option maxHeartbeats 4000000 in
set_option maxRecDepth 100000 in
theorem cx_L_types_J265 {p : Program} {l : Launch} {e : Env} {s : State} {m : MethodId} {args : Array Value} {below : List Frame} {meth : Method} {c : Code} {D : va_G} {ad : mm_A} {cA : Nat → ClassId} (x1 : Int32)  (rv : Int32) (σ1 : mm_M) (k22 : Int32 → Int32 → Int32 → mm_M → mm_R) (hk22 : ∀ (v2 : Int32) (v3 : Int32) (v4 : Int32) (σ : mm_M) (H : Heap) (locs : List Loc) (ls : Array Slot), k22 v2 v3 v4 σ = some (rv, σ1) → va_P D vwCl (mm_wd ad cA σ) H → va_S (mm_AS ad) s.heap H locs → lv_has ls 10 [(0, .ref (ad 6 9 0)), (1, .int x1), (2, .int v2), (3, .int v3), (4, .int v4)] → W p l e (mm_rm 3 65) s m args below meth c H locs 0 0 (MQ below (mm_Q D ad cA (some (.int rv)) σ1) args s 0 0 (mm_AS ad)) (F0 m 22 ls [])) (k148 : Int32 → Int32 → Int32 → Int32 → Int32 → Int32 → Int32 → mm_M → mm_R) (hk148 : ∀ (v2 : Int32) (v3 : Int32) (v4 : Int32) (v5 : Int32) (v6 : Int32) (v7 : Int32) (v8 : Int32) (σ : mm_M) (H : Heap) (locs : List Loc) (ls : Array Slot), k148 v2 v3 v4 v5 v6 v7 v8 σ = some (rv, σ1) → va_P D vwCl (mm_wd ad cA σ) H → va_S (mm_AS ad) s.heap H locs → lv_has ls 10 [(0, .ref (ad 6 9 0)), (1, .int x1), (2, .int v2), (3, .int v3), (4, .int v4), (5, .int v5), (6, .int v6), (7, .int v7), (8, .int v8)] → W p l e (mm_rm 3 65) s m args below meth c H locs 0 0 (MQ below (mm_Q D ad cA (some (.int rv)) σ1) args s 0 0 (mm_AS ad)) (F0 m 148 ls [])) (X : mm_X p s m args meth c cL_types 10 (some .boolean) RL D ad cA) : ∀ (v2 : Int32) (v4 : Int32) (v5 : Int32) (v6 : Int32) (v7 : Int32) (v8 : Int32) (w0 : Int32) (σ : mm_M) (H : Heap) (locs : List Loc) (ls : Array Slot), fx_L_types_J265 x1 k22 k148 v2 v4 v5 v6 v7 v8 w0 σ = some (rv, σ1) → va_P D vwCl (mm_wd ad cA σ) H → va_S (mm_AS ad) s.heap H locs → lv_has ls 10 [(0, .ref (ad 6 9 0)), (1, .int x1), (2, .int v2), (4, .int v4), (5, .int v5), (6, .int v6), (7, .int v7), (8, .int v8)] → W p l e (mm_rm 3 65) s m args below meth c H locs 0 0 (MQ below (mm_Q D ad cA (some (.int rv)) σ1) args s 0 0 (mm_AS ad)) (F0 m 265 ls [.int w0]) := by
  have hx := X.1
  have hb := X.2.1
  have hI := X.2.2.2.2.2.2.2.2.2
  intro v2 v4 v5 v6 v7 v8 w0 σ H locs ls hf hP hS hl
  rw [fx_L_types_J265] at hf
  refine lv_istore_n (lv' := [(3, .int w0), (0, .ref (ad 6 9 0)), (1, .int x1), (2, .int v2), (4, .int v4), (5, .int v5), (6, .int v6), (7, .int v7), (8, .int v8)]) hx hb dL_types_265 rfl hl (by decide) rfl (fun ls hl => ?_)
  obtain ⟨y_41, e_41, hf⟩ := mm_li_ok hf
  refine lv_iinc (v := y_41) (lv' := [(8, .int y_41), (3, .int w0), (0, .ref (ad 6 9 0)), (1, .int x1), (2, .int v2), (4, .int v4), (5, .int v5), (6, .int v6), (7, .int v7)]) hx hb dL_types_266 hl (k := 8) rfl (by rw [e_41]; rfl) (by decide) rfl (fun ls hl => ?_)
  refine lv_goto (tgt := 148) hx hb dL_types_269 (by decide) ?_
  exact hk148 v2 w0 v4 v5 v6 v7 y_41 σ H locs ls  hf hP hS (lv_sub hl [2, 3, 4, 1, 5, 6, 7, 8, 0] rfl)
def fx_L_types_J264 (x1 : Int32) (k22 : Int32 → Int32 → Int32 → mm_M → mm_R) (k148 : Int32 → Int32 → Int32 → Int32 → Int32 → Int32 → Int32 → mm_M → mm_R) (v2 : Int32) (v4 : Int32) (v5 : Int32) (v6 : Int32) (v7 : Int32) (v8 : Int32) (σ : mm_M) : mm_R := fx_L_types_J265 x1 k22 k148 v2 v4 v5 v6 v7 v8 (0 : Int32) σ
set_option maxHeartbeats 4000000 in
set_option maxRecDepth 100000 in
theorem cx_L_types_J264 {p : Program} {l : Launch} {e : Env} {s : State} {m : MethodId} {args : Array Value} {below : List Frame} {meth : Method} {c : Code} {D : va_G} {ad : mm_A} {cA : Nat → ClassId} (x1 : Int32)  (rv : Int32) (σ1 : mm_M) (k22 : Int32 → Int32 → Int32 → mm_M → mm_R) (hk22 : ∀ (v2 : Int32) (v3 : Int32) (v4 : Int32) (σ : mm_M) (H : Heap) (locs : List Loc) (ls : Array Slot), k22 v2 v3 v4 σ = some (rv, σ1) → va_P D vwCl (mm_wd ad cA σ) H → va_S (mm_AS ad) s.heap H locs → lv_has ls 10 [(0, .ref (ad 6 9 0)), (1, .int x1), (2, .int v2), (3, .int v3), (4, .int v4)] → W p l e (mm_rm 3 65) s m args below meth c H locs 0 0 (MQ below (mm_Q D ad cA (some (.int rv)) σ1) args s 0 0 (mm_AS ad)) (F0 m 22 ls [])) (k148 : Int32 → Int32 → Int32 → Int32 → Int32 → Int32 → Int32 → mm_M → mm_R) (hk148 : ∀ (v2 : Int32) (v3 : Int32) (v4 : Int32) (v5 : Int32) (v6 : Int32) (v7 : Int32) (v8 : Int32) (σ : mm_M) (H : Heap) (locs : List Loc) (ls : Array Slot), k148 v2 v3 v4 v5 v6 v7 v8 σ = some (rv, σ1) → va_P D vwCl (mm_wd ad cA σ) H → va_S (mm_AS ad) s.heap H locs → lv_has ls 10 [(0, .ref (ad 6 9 0)), (1, .int x1), (2, .int v2), (3, .int v3), (4, .int v4), (5, .int v5), (6, .int v6), (7, .int v7), (8, .int v8)] → W p l e (mm_rm 3 65) s m args below meth c H locs 0 0 (MQ below (mm_Q D ad cA (some (.int rv)) σ1) args s 0 0 (mm_AS ad)) (F0 m 148 ls [])) (X : mm_X p s m args meth c cL_types 10 (some .boolean) RL D ad cA) : ∀ (v2 : Int32) (v4 : Int32) (v5 : Int32) (v6 : Int32) (v7 : Int32) (v8 : Int32) (σ : mm_M) (H : Heap) (locs : List Loc) (ls : Array Slot), fx_L_types_J264 x1 k22 k148 v2 v4 v5 v6 v7 v8 σ = some (rv, σ1) → va_P D vwCl (mm_wd ad cA σ) H → va_S (mm_AS ad) s.heap H locs → lv_has ls 10 [(0, .ref (ad 6 9 0)), (1, .int x1), (2, .int v2), (4, .int v4), (5, .int v5), (6, .int v6), (7, .int v7), (8, .int v8)] → W p l e (mm_rm 3 65) s m args below meth c H locs 0 0 (MQ below (mm_Q D ad cA (some (.int rv)) σ1) args s 0 0 (mm_AS ad)) (F0 m 264 ls []) := by
  have hx := X.1
  have hb := X.2.1
  have hI := X.2.2.2.2.2.2.2.2.2
  intro v2 v4 v5 v6 v7 v8 σ H locs ls hf hP hS hl
  rw [fx_L_types_J264] at hf
  refine lv_iconst (v := (0 : Int32)) hx hb dL_types_264 (by decide) ?_
  exact cx_L_types_J265 x1 rv σ1 k22 hk22 k148 hk148 X v2 v4 v5 v6 v7 v8 (0 : Int32) σ H locs ls hf hP hS (lv_sub hl [0, 1, 2, 3, 4, 5, 6, 7] rfl)
def fx_L_types_J239 (x1 : Int32) (k22 : Int32 → Int32 → Int32 → mm_M → mm_R) (k148 : Int32 → Int32 → Int32 → Int32 → Int32 → Int32 → Int32 → mm_M → mm_R) (v2 : Int32) (v4 : Int32) (v5 : Int32) (v6 : Int32) (v7 : Int32) (v8 : Int32) (v9 : Int32) (σ : mm_M) : mm_R := mm_bd (fx_L_low (v5 >>> (((1 : Int32) + ((3 : Int32) * v8)) &&& 31)) v9 σ) fun r_38 s_38 => (mm_bd (fx_L_digits r_38 s_38) fun r_39 s_39 => (if r_39 = (0 : Int32) then fx_L_types_J264 x1 k22 k148 v2 v4 v5 v6 v7 v8 s_39 else fx_L_types_J265 x1 k22 k148 v2 v4 v5 v6 v7 v8 (1 : Int32) s_39))
set_option maxHeartbeats 4000000 in
set_option maxRecDepth 100000 in
theorem cx_L_types_J239 {p : Program} {l : Launch} {e : Env} {s : State} {m : MethodId} {args : Array Value} {below : List Frame} {meth : Method} {c : Code} {D : va_G} {ad : mm_A} {cA : Nat → ClassId} (x1 : Int32)  (rv : Int32) (σ1 : mm_M) (k22 : Int32 → Int32 → Int32 → mm_M → mm_R) (hk22 : ∀ (v2 : Int32) (v3 : Int32) (v4 : Int32) (σ : mm_M) (H : Heap) (locs : List Loc) (ls : Array Slot), k22 v2 v3 v4 σ = some (rv, σ1) → va_P D vwCl (mm_wd ad cA σ) H → va_S (mm_AS ad) s.heap H locs → lv_has ls 10 [(0, .ref (ad 6 9 0)), (1, .int x1), (2, .int v2), (3, .int v3), (4, .int v4)] → W p l e (mm_rm 3 65) s m args below meth c H locs 0 0 (MQ below (mm_Q D ad cA (some (.int rv)) σ1) args s 0 0 (mm_AS ad)) (F0 m 22 ls [])) (k148 : Int32 → Int32 → Int32 → Int32 → Int32 → Int32 → Int32 → mm_M → mm_R) (hk148 : ∀ (v2 : Int32) (v3 : Int32) (v4 : Int32) (v5 : Int32) (v6 : Int32) (v7 : Int32) (v8 : Int32) (σ : mm_M) (H : Heap) (locs : List Loc) (ls : Array Slot), k148 v2 v3 v4 v5 v6 v7 v8 σ = some (rv, σ1) → va_P D vwCl (mm_wd ad cA σ) H → va_S (mm_AS ad) s.heap H locs → lv_has ls 10 [(0, .ref (ad 6 9 0)), (1, .int x1), (2, .int v2), (3, .int v3), (4, .int v4), (5, .int v5), (6, .int v6), (7, .int v7), (8, .int v8)] → W p l e (mm_rm 3 65) s m args below meth c H locs 0 0 (MQ below (mm_Q D ad cA (some (.int rv)) σ1) args s 0 0 (mm_AS ad)) (F0 m 148 ls [])) (X : mm_X p s m args meth c cL_types 10 (some .boolean) RL D ad cA) : ∀ (v2 : Int32) (v4 : Int32) (v5 : Int32) (v6 : Int32) (v7 : Int32) (v8 : Int32) (v9 : Int32) (σ : mm_M) (H : Heap) (locs : List Loc) (ls : Array Slot), fx_L_types_J239 x1 k22 k148 v2 v4 v5 v6 v7 v8 v9 σ = some (rv, σ1) → va_P D vwCl (mm_wd ad cA σ) H → va_S (mm_AS ad) s.heap H locs → lv_has ls 10 [(0, .ref (ad 6 9 0)), (1, .int x1), (2, .int v2), (4, .int v4), (5, .int v5), (6, .int v6), (7, .int v7), (8, .int v8), (9, .int v9)] → W p l e (mm_rm 3 65) s m args below meth c H locs 0 0 (MQ below (mm_Q D ad cA (some (.int rv)) σ1) args s 0 0 (mm_AS ad)) (F0 m 239 ls []) := by
  have hx := X.1
  have hb := X.2.1
  have hI := X.2.2.2.2.2.2.2.2.2
  intro v2 v4 v5 v6 v7 v8 v9 σ H locs ls hf hP hS hl
  rw [fx_L_types_J239] at hf
  refine lv_aload_n hx hb dL_types_239 rfl (lv_at hl 0 rfl) ?_
  refine lv_iload hx hb dL_types_240 (lv_at hl 4 rfl) ?_
  refine lv_iconst (v := (1 : Int32)) hx hb dL_types_242 (by decide) ?_
  refine lv_iconst (v := (3 : Int32)) hx hb dL_types_243 (by decide) ?_
  refine lv_iload hx hb dL_types_244 (lv_at hl 7 rfl) ?_
  refine lv_imul hx hb dL_types_246 ?_
  refine lv_iadd hx hb dL_types_247 ?_
  refine lv_ishr hx hb dL_types_248 ?_
  refine lv_iload hx hb dL_types_249 (lv_at hl 8 rfl) ?_
  obtain ⟨r_38, s_38, e_38, hf⟩ := mm_bd_ok hf
  refine mm_callS X hP hS hl.1 [.int (v5 >>> (((1 : Int32) + ((3 : Int32) * v8)) &&& 31)), .int v9] [.ref (ad 6 9 0)] (cx_L_low l D ad cA hI (v5 >>> (((1 : Int32) + ((3 : Int32) * v8)) &&& 31)) v9 σ r_38 s_38 e_38) wd_348 wd_349 wd_0 wd_350 hd_L_low ⟨Nat.le_of_ble_eq_true rfl, Nat.le_of_ble_eq_true rfl⟩ rfl (Nat.le_of_ble_eq_true rfl) dL_types_251 (fun H locs hP hS => ?_)
  obtain ⟨r_39, s_39, e_39, hf⟩ := mm_bd_ok hf
  refine mm_callS X hP hS hl.1 [.ref (ad 6 9 0), .int r_38] [] (cx_L_digits l D ad cA hI r_38 s_38 r_39 s_39 e_39) wd_737 wd_738 wd_0 wd_739 hd_L_digits ⟨Nat.le_of_ble_eq_true rfl, Nat.le_of_ble_eq_true rfl⟩ rfl (Nat.le_of_ble_eq_true rfl) dL_types_254 (fun H locs hP hS => ?_)
  refine lv_if_eq (tgt := 264) hx hb dL_types_257 (by decide) (fun c_40 => ?_) (fun c_40 => ?_)
  · replace hf := mm_it c_40 hf
    exact cx_L_types_J264 x1 rv σ1 k22 hk22 k148 hk148 X v2 v4 v5 v6 v7 v8 s_39 H locs ls hf hP hS (lv_sub hl [0, 1, 2, 3, 4, 5, 6, 7] rfl)
  · replace hf := mm_if c_40 hf
    refine lv_iconst (v := (1 : Int32)) hx hb dL_types_260 (by decide) ?_
    refine lv_goto (tgt := 265) hx hb dL_types_261 (by decide) ?_
    exact cx_L_types_J265 x1 rv σ1 k22 hk22 k148 hk148 X v2 v4 v5 v6 v7 v8 (1 : Int32) s_39 H locs ls hf hP hS (lv_sub hl [0, 1, 2, 3, 4, 5, 6, 7] rfl)
def fx_L_types_J219 (x1 : Int32) (k22 : Int32 → Int32 → Int32 → mm_M → mm_R) (k148 : Int32 → Int32 → Int32 → Int32 → Int32 → Int32 → Int32 → mm_M → mm_R) (v2 : Int32) (v3 : Int32) (v4 : Int32) (v5 : Int32) (v6 : Int32) (v7 : Int32) (v8 : Int32) (w0 : Int32) (σ : mm_M) : mm_R := if v3 = (0 : Int32) then fx_L_types_J264 x1 k22 k148 v2 v4 v5 v6 v7 v8 σ else if v8 = (0 : Int32) then fx_L_types_J239 x1 k22 k148 v2 v4 v5 v6 v7 v8 w0 σ else mm_bd (fx_X10_type (44 : Int32) σ) fun r_34 s_34 => (if r_34 ≤ (0 : Int32) then fx_L_types_J264 x1 k22 k148 v2 v4 v5 v6 v7 v8 s_34 else fx_L_types_J239 x1 k22 k148 v2 v4 v5 v6 v7 v8 w0 s_34)
set_option maxHeartbeats 4000000 in
set_option maxRecDepth 100000 in
theorem cx_L_types_J219 {p : Program} {l : Launch} {e : Env} {s : State} {m : MethodId} {args : Array Value} {below : List Frame} {meth : Method} {c : Code} {D : va_G} {ad : mm_A} {cA : Nat → ClassId} (x1 : Int32)  (rv : Int32) (σ1 : mm_M) (k22 : Int32 → Int32 → Int32 → mm_M → mm_R) (hk22 : ∀ (v2 : Int32) (v3 : Int32) (v4 : Int32) (σ : mm_M) (H : Heap) (locs : List Loc) (ls : Array Slot), k22 v2 v3 v4 σ = some (rv, σ1) → va_P D vwCl (mm_wd ad cA σ) H → va_S (mm_AS ad) s.heap H locs → lv_has ls 10 [(0, .ref (ad 6 9 0)), (1, .int x1), (2, .int v2), (3, .int v3), (4, .int v4)] → W p l e (mm_rm 3 65) s m args below meth c H locs 0 0 (MQ below (mm_Q D ad cA (some (.int rv)) σ1) args s 0 0 (mm_AS ad)) (F0 m 22 ls [])) (k148 : Int32 → Int32 → Int32 → Int32 → Int32 → Int32 → Int32 → mm_M → mm_R) (hk148 : ∀ (v2 : Int32) (v3 : Int32) (v4 : Int32) (v5 : Int32) (v6 : Int32) (v7 : Int32) (v8 : Int32) (σ : mm_M) (H : Heap) (locs : List Loc) (ls : Array Slot), k148 v2 v3 v4 v5 v6 v7 v8 σ = some (rv, σ1) → va_P D vwCl (mm_wd ad cA σ) H → va_S (mm_AS ad) s.heap H locs → lv_has ls 10 [(0, .ref (ad 6 9 0)), (1, .int x1), (2, .int v2), (3, .int v3), (4, .int v4), (5, .int v5), (6, .int v6), (7, .int v7), (8, .int v8)] → W p l e (mm_rm 3 65) s m args below meth c H locs 0 0 (MQ below (mm_Q D ad cA (some (.int rv)) σ1) args s 0 0 (mm_AS ad)) (F0 m 148 ls [])) (X : mm_X p s m args meth c cL_types 10 (some .boolean) RL D ad cA) : ∀ (v2 : Int32) (v3 : Int32) (v4 : Int32) (v5 : Int32) (v6 : Int32) (v7 : Int32) (v8 : Int32) (w0 : Int32) (σ : mm_M) (H : Heap) (locs : List Loc) (ls : Array Slot), fx_L_types_J219 x1 k22 k148 v2 v3 v4 v5 v6 v7 v8 w0 σ = some (rv, σ1) → va_P D vwCl (mm_wd ad cA σ) H → va_S (mm_AS ad) s.heap H locs → lv_has ls 10 [(0, .ref (ad 6 9 0)), (1, .int x1), (2, .int v2), (3, .int v3), (4, .int v4), (5, .int v5), (6, .int v6), (7, .int v7), (8, .int v8)] → W p l e (mm_rm 3 65) s m args below meth c H locs 0 0 (MQ below (mm_Q D ad cA (some (.int rv)) σ1) args s 0 0 (mm_AS ad)) (F0 m 219 ls [.int w0]) := by
  have hx := X.1
  have hb := X.2.1
  have hI := X.2.2.2.2.2.2.2.2.2
  intro v2 v3 v4 v5 v6 v7 v8 w0 σ H locs ls hf hP hS hl
  rw [fx_L_types_J219] at hf
  refine lv_istore (lv' := [(9, .int w0), (0, .ref (ad 6 9 0)), (1, .int x1), (2, .int v2), (3, .int v3), (4, .int v4), (5, .int v5), (6, .int v6), (7, .int v7), (8, .int v8)]) hx hb dL_types_219 hl (by decide) rfl (fun ls hl => ?_)
  refine lv_iload_n hx hb dL_types_221 rfl (lv_at hl 4 rfl) ?_
  refine lv_if_eq (tgt := 264) hx hb dL_types_222 (by decide) (fun c_32 => ?_) (fun c_32 => ?_)
  · replace hf := mm_it c_32 hf
    exact cx_L_types_J264 x1 rv σ1 k22 hk22 k148 hk148 X v2 v4 v5 v6 v7 v8 σ H locs ls hf hP hS (lv_sub hl [1, 2, 3, 5, 6, 7, 8, 9] rfl)
  · replace hf := mm_if c_32 hf
    refine lv_iload hx hb dL_types_225 (lv_at hl 9 rfl) ?_
    refine lv_if_eq (tgt := 239) hx hb dL_types_227 (by decide) (fun c_33 => ?_) (fun c_33 => ?_)
    · replace hf := mm_it c_33 hf
      exact cx_L_types_J239 x1 rv σ1 k22 hk22 k148 hk148 X v2 v4 v5 v6 v7 v8 w0 σ H locs ls hf hP hS (lv_sub hl [1, 2, 3, 5, 6, 7, 8, 9, 0] rfl)
    · replace hf := mm_if c_33 hf
      refine lv_aload_n hx hb dL_types_230 rfl (lv_at hl 1 rfl) ?_
      refine lv_bipush (v := (44 : Int32)) hx hb dL_types_231 (by decide) ?_
      obtain ⟨r_34, s_34, e_34, hf⟩ := mm_bd_ok hf
      refine mm_callV X hP hS hl.1 [.int (44 : Int32)] [] (cx_X10_type l D ad cA hI (44 : Int32) σ r_34 s_34 e_34) kp_9 rfl rfl wd_728 wd_729 wd_730 wd_1 wd_731 hd_X10_type ⟨Nat.le_of_ble_eq_true rfl, Nat.le_of_ble_eq_true rfl⟩ rfl (Nat.le_of_ble_eq_true rfl) dL_types_233 (fun H locs hP hS => ?_)
      refine lv_if_le (tgt := 264) hx hb dL_types_236 (by decide) (fun c_35 => ?_) (fun c_35 => ?_)
      · replace hf := mm_it c_35 hf
        exact cx_L_types_J264 x1 rv σ1 k22 hk22 k148 hk148 X v2 v4 v5 v6 v7 v8 s_34 H locs ls hf hP hS (lv_sub hl [1, 2, 3, 5, 6, 7, 8, 9] rfl)
      · replace hf := mm_if c_35 hf
        exact cx_L_types_J239 x1 rv σ1 k22 hk22 k148 hk148 X v2 v4 v5 v6 v7 v8 w0 s_34 H locs ls hf hP hS (lv_sub hl [1, 2, 3, 5, 6, 7, 8, 9, 0] rfl)
def fx_L_types_J327 (x1 : Int32) (k22 : Int32 → Int32 → Int32 → mm_M → mm_R) (v2 : Int32) (v4 : Int32) (w0 : Int32) (σ : mm_M) : mm_R := mm_li (v4 + (1 : Int32)) fun y_31 => (k22 v2 w0 y_31 σ)
set_option maxHeartbeats 4000000 in
set_option maxRecDepth 100000 in
theorem cx_L_types_J327 {p : Program} {l : Launch} {e : Env} {s : State} {m : MethodId} {args : Array Value} {below : List Frame} {meth : Method} {c : Code} {D : va_G} {ad : mm_A} {cA : Nat → ClassId} (x1 : Int32)  (rv : Int32) (σ1 : mm_M) (k22 : Int32 → Int32 → Int32 → mm_M → mm_R) (hk22 : ∀ (v2 : Int32) (v3 : Int32) (v4 : Int32) (σ : mm_M) (H : Heap) (locs : List Loc) (ls : Array Slot), k22 v2 v3 v4 σ = some (rv, σ1) → va_P D vwCl (mm_wd ad cA σ) H → va_S (mm_AS ad) s.heap H locs → lv_has ls 10 [(0, .ref (ad 6 9 0)), (1, .int x1), (2, .int v2), (3, .int v3), (4, .int v4)] → W p l e (mm_rm 3 65) s m args below meth c H locs 0 0 (MQ below (mm_Q D ad cA (some (.int rv)) σ1) args s 0 0 (mm_AS ad)) (F0 m 22 ls [])) (X : mm_X p s m args meth c cL_types 10 (some .boolean) RL D ad cA) : ∀ (v2 : Int32) (v4 : Int32) (w0 : Int32) (σ : mm_M) (H : Heap) (locs : List Loc) (ls : Array Slot), fx_L_types_J327 x1 k22 v2 v4 w0 σ = some (rv, σ1) → va_P D vwCl (mm_wd ad cA σ) H → va_S (mm_AS ad) s.heap H locs → lv_has ls 10 [(0, .ref (ad 6 9 0)), (1, .int x1), (2, .int v2), (4, .int v4)] → W p l e (mm_rm 3 65) s m args below meth c H locs 0 0 (MQ below (mm_Q D ad cA (some (.int rv)) σ1) args s 0 0 (mm_AS ad)) (F0 m 327 ls [.int w0]) := by
  have hx := X.1
  have hb := X.2.1
  have hI := X.2.2.2.2.2.2.2.2.2
  intro v2 v4 w0 σ H locs ls hf hP hS hl
  rw [fx_L_types_J327] at hf
  refine lv_istore_n (lv' := [(3, .int w0), (0, .ref (ad 6 9 0)), (1, .int x1), (2, .int v2), (4, .int v4)]) hx hb dL_types_327 rfl hl (by decide) rfl (fun ls hl => ?_)
  obtain ⟨y_31, e_31, hf⟩ := mm_li_ok hf
  refine lv_iinc (v := y_31) (lv' := [(4, .int y_31), (3, .int w0), (0, .ref (ad 6 9 0)), (1, .int x1), (2, .int v2)]) hx hb dL_types_328 hl (k := 4) rfl (by rw [e_31]; rfl) (by decide) rfl (fun ls hl => ?_)
  refine lv_goto (tgt := 22) hx hb dL_types_331 (by decide) ?_
  exact hk22 v2 w0 y_31 σ H locs ls  hf hP hS (lv_sub hl [2, 3, 4, 1, 0] rfl)
def fx_L_types_J326 (x1 : Int32) (k22 : Int32 → Int32 → Int32 → mm_M → mm_R) (v2 : Int32) (v4 : Int32) (σ : mm_M) : mm_R := fx_L_types_J327 x1 k22 v2 v4 (0 : Int32) σ
set_option maxHeartbeats 4000000 in
set_option maxRecDepth 100000 in
theorem cx_L_types_J326 {p : Program} {l : Launch} {e : Env} {s : State} {m : MethodId} {args : Array Value} {below : List Frame} {meth : Method} {c : Code} {D : va_G} {ad : mm_A} {cA : Nat → ClassId} (x1 : Int32)  (rv : Int32) (σ1 : mm_M) (k22 : Int32 → Int32 → Int32 → mm_M → mm_R) (hk22 : ∀ (v2 : Int32) (v3 : Int32) (v4 : Int32) (σ : mm_M) (H : Heap) (locs : List Loc) (ls : Array Slot), k22 v2 v3 v4 σ = some (rv, σ1) → va_P D vwCl (mm_wd ad cA σ) H → va_S (mm_AS ad) s.heap H locs → lv_has ls 10 [(0, .ref (ad 6 9 0)), (1, .int x1), (2, .int v2), (3, .int v3), (4, .int v4)] → W p l e (mm_rm 3 65) s m args below meth c H locs 0 0 (MQ below (mm_Q D ad cA (some (.int rv)) σ1) args s 0 0 (mm_AS ad)) (F0 m 22 ls [])) (X : mm_X p s m args meth c cL_types 10 (some .boolean) RL D ad cA) : ∀ (v2 : Int32) (v4 : Int32) (σ : mm_M) (H : Heap) (locs : List Loc) (ls : Array Slot), fx_L_types_J326 x1 k22 v2 v4 σ = some (rv, σ1) → va_P D vwCl (mm_wd ad cA σ) H → va_S (mm_AS ad) s.heap H locs → lv_has ls 10 [(0, .ref (ad 6 9 0)), (1, .int x1), (2, .int v2), (4, .int v4)] → W p l e (mm_rm 3 65) s m args below meth c H locs 0 0 (MQ below (mm_Q D ad cA (some (.int rv)) σ1) args s 0 0 (mm_AS ad)) (F0 m 326 ls []) := by
  have hx := X.1
  have hb := X.2.1
  have hI := X.2.2.2.2.2.2.2.2.2
  intro v2 v4 σ H locs ls hf hP hS hl
  rw [fx_L_types_J326] at hf
  refine lv_iconst (v := (0 : Int32)) hx hb dL_types_326 (by decide) ?_
  exact cx_L_types_J327 x1 rv σ1 k22 hk22 X v2 v4 (0 : Int32) σ H locs ls hf hP hS (lv_sub hl [0, 1, 2, 3] rfl)
def fx_L_types_J316 (x1 : Int32) (k22 : Int32 → Int32 → Int32 → mm_M → mm_R) (v2 : Int32) (v4 : Int32) (w1 : Int32) (σ : mm_M) : mm_R := mm_bd (fx_X10_type w1 σ) fun r_36 s_36 => (if r_36 ≤ (0 : Int32) then fx_L_types_J326 x1 k22 v2 v4 s_36 else fx_L_types_J327 x1 k22 v2 v4 (1 : Int32) s_36)
set_option maxHeartbeats 4000000 in
set_option maxRecDepth 100000 in
theorem cx_L_types_J316 {p : Program} {l : Launch} {e : Env} {s : State} {m : MethodId} {args : Array Value} {below : List Frame} {meth : Method} {c : Code} {D : va_G} {ad : mm_A} {cA : Nat → ClassId} (x1 : Int32)  (rv : Int32) (σ1 : mm_M) (k22 : Int32 → Int32 → Int32 → mm_M → mm_R) (hk22 : ∀ (v2 : Int32) (v3 : Int32) (v4 : Int32) (σ : mm_M) (H : Heap) (locs : List Loc) (ls : Array Slot), k22 v2 v3 v4 σ = some (rv, σ1) → va_P D vwCl (mm_wd ad cA σ) H → va_S (mm_AS ad) s.heap H locs → lv_has ls 10 [(0, .ref (ad 6 9 0)), (1, .int x1), (2, .int v2), (3, .int v3), (4, .int v4)] → W p l e (mm_rm 3 65) s m args below meth c H locs 0 0 (MQ below (mm_Q D ad cA (some (.int rv)) σ1) args s 0 0 (mm_AS ad)) (F0 m 22 ls [])) (X : mm_X p s m args meth c cL_types 10 (some .boolean) RL D ad cA) : ∀ (v2 : Int32) (v4 : Int32) (w1 : Int32) (σ : mm_M) (H : Heap) (locs : List Loc) (ls : Array Slot), fx_L_types_J316 x1 k22 v2 v4 w1 σ = some (rv, σ1) → va_P D vwCl (mm_wd ad cA σ) H → va_S (mm_AS ad) s.heap H locs → lv_has ls 10 [(0, .ref (ad 6 9 0)), (1, .int x1), (2, .int v2), (4, .int v4)] → W p l e (mm_rm 3 65) s m args below meth c H locs 0 0 (MQ below (mm_Q D ad cA (some (.int rv)) σ1) args s 0 0 (mm_AS ad)) (F0 m 316 ls [.int w1, .ref (ad 6 9 0)]) := by
  have hx := X.1
  have hb := X.2.1
  have hI := X.2.2.2.2.2.2.2.2.2
  intro v2 v4 w1 σ H locs ls hf hP hS hl
  rw [fx_L_types_J316] at hf
  obtain ⟨r_36, s_36, e_36, hf⟩ := mm_bd_ok hf
  refine mm_callV X hP hS hl.1 [.int w1] [] (cx_X10_type l D ad cA hI w1 σ r_36 s_36 e_36) kp_9 rfl rfl wd_728 wd_729 wd_730 wd_1 wd_731 hd_X10_type ⟨Nat.le_of_ble_eq_true rfl, Nat.le_of_ble_eq_true rfl⟩ rfl (Nat.le_of_ble_eq_true rfl) dL_types_316 (fun H locs hP hS => ?_)
  refine lv_if_le (tgt := 326) hx hb dL_types_319 (by decide) (fun c_37 => ?_) (fun c_37 => ?_)
  · replace hf := mm_it c_37 hf
    exact cx_L_types_J326 x1 rv σ1 k22 hk22 X v2 v4 s_36 H locs ls hf hP hS (lv_sub hl [0, 1, 2, 3] rfl)
  · replace hf := mm_if c_37 hf
    refine lv_iconst (v := (1 : Int32)) hx hb dL_types_322 (by decide) ?_
    refine lv_goto (tgt := 327) hx hb dL_types_323 (by decide) ?_
    exact cx_L_types_J327 x1 rv σ1 k22 hk22 X v2 v4 (1 : Int32) s_36 H locs ls hf hP hS (lv_sub hl [0, 1, 2, 3] rfl)
def fx_L_types_J296 (x1 : Int32) (k22 : Int32 → Int32 → Int32 → mm_M → mm_R) (v2 : Int32) (v4 : Int32) (σ : mm_M) : mm_R := mm_bd (fx_L_low (x1 >>> ((20 : Int32) &&& 31)) (11 : Int32) σ) fun r_29 s_29 => (if r_29 = (0 : Int32) then fx_L_types_J316 x1 k22 v2 v4 (46 : Int32) s_29 else fx_L_types_J316 x1 k22 v2 v4 (59 : Int32) s_29)
set_option maxHeartbeats 4000000 in
set_option maxRecDepth 100000 in
theorem cx_L_types_J296 {p : Program} {l : Launch} {e : Env} {s : State} {m : MethodId} {args : Array Value} {below : List Frame} {meth : Method} {c : Code} {D : va_G} {ad : mm_A} {cA : Nat → ClassId} (x1 : Int32)  (rv : Int32) (σ1 : mm_M) (k22 : Int32 → Int32 → Int32 → mm_M → mm_R) (hk22 : ∀ (v2 : Int32) (v3 : Int32) (v4 : Int32) (σ : mm_M) (H : Heap) (locs : List Loc) (ls : Array Slot), k22 v2 v3 v4 σ = some (rv, σ1) → va_P D vwCl (mm_wd ad cA σ) H → va_S (mm_AS ad) s.heap H locs → lv_has ls 10 [(0, .ref (ad 6 9 0)), (1, .int x1), (2, .int v2), (3, .int v3), (4, .int v4)] → W p l e (mm_rm 3 65) s m args below meth c H locs 0 0 (MQ below (mm_Q D ad cA (some (.int rv)) σ1) args s 0 0 (mm_AS ad)) (F0 m 22 ls [])) (X : mm_X p s m args meth c cL_types 10 (some .boolean) RL D ad cA) : ∀ (v2 : Int32) (v4 : Int32) (σ : mm_M) (H : Heap) (locs : List Loc) (ls : Array Slot), fx_L_types_J296 x1 k22 v2 v4 σ = some (rv, σ1) → va_P D vwCl (mm_wd ad cA σ) H → va_S (mm_AS ad) s.heap H locs → lv_has ls 10 [(0, .ref (ad 6 9 0)), (1, .int x1), (2, .int v2), (4, .int v4)] → W p l e (mm_rm 3 65) s m args below meth c H locs 0 0 (MQ below (mm_Q D ad cA (some (.int rv)) σ1) args s 0 0 (mm_AS ad)) (F0 m 296 ls []) := by
  have hx := X.1
  have hb := X.2.1
  have hI := X.2.2.2.2.2.2.2.2.2
  intro v2 v4 σ H locs ls hf hP hS hl
  rw [fx_L_types_J296] at hf
  refine lv_aload_n hx hb dL_types_296 rfl (lv_at hl 0 rfl) ?_
  refine lv_iload_n hx hb dL_types_297 rfl (lv_at hl 1 rfl) ?_
  refine lv_bipush (v := (20 : Int32)) hx hb dL_types_298 (by decide) ?_
  refine lv_ishr hx hb dL_types_300 ?_
  refine lv_bipush (v := (11 : Int32)) hx hb dL_types_301 (by decide) ?_
  obtain ⟨r_29, s_29, e_29, hf⟩ := mm_bd_ok hf
  refine mm_callS X hP hS hl.1 [.int (x1 >>> ((20 : Int32) &&& 31)), .int (11 : Int32)] [.ref (ad 6 9 0)] (cx_L_low l D ad cA hI (x1 >>> ((20 : Int32) &&& 31)) (11 : Int32) σ r_29 s_29 e_29) wd_348 wd_349 wd_0 wd_350 hd_L_low ⟨Nat.le_of_ble_eq_true rfl, Nat.le_of_ble_eq_true rfl⟩ rfl (Nat.le_of_ble_eq_true rfl) dL_types_303 (fun H locs hP hS => ?_)
  refine lv_if_ne (tgt := 314) hx hb dL_types_306 (by decide) (fun c_30 => ?_) (fun c_30 => ?_)
  · replace hf := mm_if c_30 hf
    refine lv_bipush (v := (59 : Int32)) hx hb dL_types_314 (by decide) ?_
    exact cx_L_types_J316 x1 rv σ1 k22 hk22 X v2 v4 (59 : Int32) s_29 H locs ls hf hP hS (lv_sub hl [0, 1, 2, 3] rfl)
  · replace hf := mm_it c_30 hf
    refine lv_bipush (v := (46 : Int32)) hx hb dL_types_309 (by decide) ?_
    refine lv_goto (tgt := 316) hx hb dL_types_311 (by decide) ?_
    exact cx_L_types_J316 x1 rv σ1 k22 hk22 X v2 v4 (46 : Int32) s_29 H locs ls hf hP hS (lv_sub hl [0, 1, 2, 3] rfl)
def fx_L_types_L148 (x1 : Int32) (k22 : Int32 → Int32 → Int32 → mm_M → mm_R) : Nat → Int32 → Int32 → Int32 → Int32 → Int32 → Int32 → Int32 → mm_M → mm_R
  | 0, _, _, _, _, _, _, _, _ => none
  | fu + 1, v2, v3, v4, v5, v6, v7, v8, σ => if v7 ≤ v8 then if v3 = (0 : Int32) then fx_L_types_J326 x1 k22 v2 v4 σ else mm_bd (fx_L_low (x1 >>> ((24 : Int32) &&& 31)) (6 : Int32) σ) fun r_20 s_20 => (if r_20 = (0 : Int32) then if v4 = (v2 - (1 : Int32)) then fx_L_types_J327 x1 k22 v2 v4 (1 : Int32) s_20 else fx_L_types_J296 x1 k22 v2 v4 s_20 else fx_L_types_J296 x1 k22 v2 v4 s_20) else if (4 : Int32) ≤ v6 then if v8 = (0 : Int32) then fx_L_types_J219 x1 k22 (fun z0 z1 z2 z3 z4 z5 z6 z => fx_L_types_L148 x1 k22 fu z0 z1 z2 z3 z4 z5 z6 z) v2 v3 v4 v5 v6 v7 v8 (2 : Int32) σ else if v8 = (1 : Int32) then fx_L_types_J219 x1 k22 (fun z0 z1 z2 z3 z4 z5 z6 z => fx_L_types_L148 x1 k22 fu z0 z1 z2 z3 z4 z5 z6 z) v2 v3 v4 v5 v6 v7 v8 (5 : Int32) σ else if v8 = (2 : Int32) then fx_L_types_J219 x1 k22 (fun z0 z1 z2 z3 z4 z5 z6 z => fx_L_types_L148 x1 k22 fu z0 z1 z2 z3 z4 z5 z6 z) v2 v3 v4 v5 v6 v7 v8 (8 : Int32) σ else fx_L_types_J219 x1 k22 (fun z0 z1 z2 z3 z4 z5 z6 z => fx_L_types_L148 x1 k22 fu z0 z1 z2 z3 z4 z5 z6 z) v2 v3 v4 v5 v6 v7 v8 (900 : Int32) σ else if v8 = (0 : Int32) then fx_L_types_J219 x1 k22 (fun z0 z1 z2 z3 z4 z5 z6 z => fx_L_types_L148 x1 k22 fu z0 z1 z2 z3 z4 z5 z6 z) v2 v3 v4 v5 v6 v7 v8 (65 : Int32) σ else if v6 = (2 : Int32) then fx_L_types_J219 x1 k22 (fun z0 z1 z2 z3 z4 z5 z6 z => fx_L_types_L148 x1 k22 fu z0 z1 z2 z3 z4 z5 z6 z) v2 v3 v4 v5 v6 v7 v8 (10 : Int32) σ else fx_L_types_J219 x1 k22 (fun z0 z1 z2 z3 z4 z5 z6 z => fx_L_types_L148 x1 k22 fu z0 z1 z2 z3 z4 z5 z6 z) v2 v3 v4 v5 v6 v7 v8 (4 : Int32) σ
set_option maxHeartbeats 4000000 in
set_option maxRecDepth 100000 in
theorem cx_L_types_L148 {p : Program} {l : Launch} {e : Env} {s : State} {m : MethodId} {args : Array Value} {below : List Frame} {meth : Method} {c : Code} {D : va_G} {ad : mm_A} {cA : Nat → ClassId} (x1 : Int32)  (rv : Int32) (σ1 : mm_M) (k22 : Int32 → Int32 → Int32 → mm_M → mm_R) (hk22 : ∀ (v2 : Int32) (v3 : Int32) (v4 : Int32) (σ : mm_M) (H : Heap) (locs : List Loc) (ls : Array Slot), k22 v2 v3 v4 σ = some (rv, σ1) → va_P D vwCl (mm_wd ad cA σ) H → va_S (mm_AS ad) s.heap H locs → lv_has ls 10 [(0, .ref (ad 6 9 0)), (1, .int x1), (2, .int v2), (3, .int v3), (4, .int v4)] → W p l e (mm_rm 3 65) s m args below meth c H locs 0 0 (MQ below (mm_Q D ad cA (some (.int rv)) σ1) args s 0 0 (mm_AS ad)) (F0 m 22 ls [])) (X : mm_X p s m args meth c cL_types 10 (some .boolean) RL D ad cA) : ∀ (fu : Nat), ∀ (v2 : Int32) (v3 : Int32) (v4 : Int32) (v5 : Int32) (v6 : Int32) (v7 : Int32) (v8 : Int32) (σ : mm_M) (H : Heap) (locs : List Loc) (ls : Array Slot), fx_L_types_L148 x1 k22 fu v2 v3 v4 v5 v6 v7 v8 σ = some (rv, σ1) → va_P D vwCl (mm_wd ad cA σ) H → va_S (mm_AS ad) s.heap H locs → lv_has ls 10 [(0, .ref (ad 6 9 0)), (1, .int x1), (2, .int v2), (3, .int v3), (4, .int v4), (5, .int v5), (6, .int v6), (7, .int v7), (8, .int v8)] → W p l e (mm_rm 3 65) s m args below meth c H locs 0 0 (MQ below (mm_Q D ad cA (some (.int rv)) σ1) args s 0 0 (mm_AS ad)) (F0 m 148 ls []) := by
  have hx := X.1
  have hb := X.2.1
  have hI := X.2.2.2.2.2.2.2.2.2
  intro fu
  induction fu with
  | zero =>
    intro v2 v3 v4 v5 v6 v7 v8 σ H locs ls hf
    exact mm_no hf
  | succ fu ih =>
    intro v2 v3 v4 v5 v6 v7 v8 σ H locs ls hf hP hS hl
    rw [fx_L_types_L148] at hf
    refine lv_iload hx hb dL_types_148 (lv_at hl 8 rfl) ?_
    refine lv_iload hx hb dL_types_150 (lv_at hl 7 rfl) ?_
    refine lv_icmp_ge (tgt := 272) hx hb dL_types_152 (by decide) (fun c_18 => ?_) (fun c_18 => ?_)
    · replace hf := mm_it c_18 hf
      refine lv_iload_n hx hb dL_types_272 rfl (lv_at hl 3 rfl) ?_
      refine lv_if_eq (tgt := 326) hx hb dL_types_273 (by decide) (fun c_19 => ?_) (fun c_19 => ?_)
      · replace hf := mm_it c_19 hf
        exact cx_L_types_J326 x1 rv σ1 k22 hk22 X v2 v4 σ H locs ls hf hP hS (lv_sub hl [0, 1, 2, 4] rfl)
      · replace hf := mm_if c_19 hf
        refine lv_iload_n hx hb dL_types_276 rfl (lv_at hl 1 rfl) ?_
        refine lv_bipush (v := (24 : Int32)) hx hb dL_types_277 (by decide) ?_
        refine lv_ishr hx hb dL_types_279 ?_
        refine lv_bipush (v := (6 : Int32)) hx hb dL_types_280 (by decide) ?_
        obtain ⟨r_20, s_20, e_20, hf⟩ := mm_bd_ok hf
        refine mm_callS X hP hS hl.1 [.int (x1 >>> ((24 : Int32) &&& 31)), .int (6 : Int32)] [] (cx_L_low l D ad cA hI (x1 >>> ((24 : Int32) &&& 31)) (6 : Int32) σ r_20 s_20 e_20) wd_348 wd_349 wd_0 wd_350 hd_L_low ⟨Nat.le_of_ble_eq_true rfl, Nat.le_of_ble_eq_true rfl⟩ rfl (Nat.le_of_ble_eq_true rfl) dL_types_282 (fun H locs hP hS => ?_)
        refine lv_if_ne (tgt := 296) hx hb dL_types_285 (by decide) (fun c_21 => ?_) (fun c_21 => ?_)
        · replace hf := mm_if c_21 hf
          exact cx_L_types_J296 x1 rv σ1 k22 hk22 X v2 v4 s_20 H locs ls hf hP hS (lv_sub hl [0, 1, 2, 4] rfl)
        · replace hf := mm_it c_21 hf
          refine lv_iload hx hb dL_types_288 (lv_at hl 4 rfl) ?_
          refine lv_iload_n hx hb dL_types_290 rfl (lv_at hl 2 rfl) ?_
          refine lv_iconst (v := (1 : Int32)) hx hb dL_types_291 (by decide) ?_
          refine lv_isub hx hb dL_types_292 ?_
          refine lv_icmp_eq (tgt := 322) hx hb dL_types_293 (by decide) (fun c_22 => ?_) (fun c_22 => ?_)
          · replace hf := mm_it c_22 hf
            refine lv_iconst (v := (1 : Int32)) hx hb dL_types_322 (by decide) ?_
            refine lv_goto (tgt := 327) hx hb dL_types_323 (by decide) ?_
            exact cx_L_types_J327 x1 rv σ1 k22 hk22 X v2 v4 (1 : Int32) s_20 H locs ls hf hP hS (lv_sub hl [0, 1, 2, 4] rfl)
          · replace hf := mm_if c_22 hf
            exact cx_L_types_J296 x1 rv σ1 k22 hk22 X v2 v4 s_20 H locs ls hf hP hS (lv_sub hl [0, 1, 2, 4] rfl)
    · replace hf := mm_if c_18 hf
      refine lv_iload hx hb dL_types_155 (lv_at hl 6 rfl) ?_
      refine lv_iconst (v := (4 : Int32)) hx hb dL_types_157 (by decide) ?_
      refine lv_icmp_ge (tgt := 186) hx hb dL_types_158 (by decide) (fun c_23 => ?_) (fun c_23 => ?_)
      · replace hf := mm_it c_23 hf
        refine lv_iload hx hb dL_types_186 (lv_at hl 8 rfl) ?_
        refine lv_if_ne (tgt := 195) hx hb dL_types_188 (by decide) (fun c_24 => ?_) (fun c_24 => ?_)
        · replace hf := mm_if c_24 hf
          refine lv_iload hx hb dL_types_195 (lv_at hl 8 rfl) ?_
          refine lv_iconst (v := (1 : Int32)) hx hb dL_types_197 (by decide) ?_
          refine lv_icmp_ne (tgt := 205) hx hb dL_types_198 (by decide) (fun c_25 => ?_) (fun c_25 => ?_)
          · replace hf := mm_if c_25 hf
            refine lv_iload hx hb dL_types_205 (lv_at hl 8 rfl) ?_
            refine lv_iconst (v := (2 : Int32)) hx hb dL_types_207 (by decide) ?_
            refine lv_icmp_ne (tgt := 216) hx hb dL_types_208 (by decide) (fun c_26 => ?_) (fun c_26 => ?_)
            · replace hf := mm_if c_26 hf
              refine lv_sipush (v := (900 : Int32)) hx hb dL_types_216 (by decide) ?_
              exact cx_L_types_J219 x1 rv σ1 k22 hk22 (fun z0 z1 z2 z3 z4 z5 z6 z => fx_L_types_L148 x1 k22 fu z0 z1 z2 z3 z4 z5 z6 z) ih X v2 v3 v4 v5 v6 v7 v8 (900 : Int32) σ H locs ls hf hP hS (lv_sub hl [0, 1, 2, 3, 4, 5, 6, 7, 8] rfl)
            · replace hf := mm_it c_26 hf
              refine lv_bipush (v := (8 : Int32)) hx hb dL_types_211 (by decide) ?_
              refine lv_goto (tgt := 219) hx hb dL_types_213 (by decide) ?_
              exact cx_L_types_J219 x1 rv σ1 k22 hk22 (fun z0 z1 z2 z3 z4 z5 z6 z => fx_L_types_L148 x1 k22 fu z0 z1 z2 z3 z4 z5 z6 z) ih X v2 v3 v4 v5 v6 v7 v8 (8 : Int32) σ H locs ls hf hP hS (lv_sub hl [0, 1, 2, 3, 4, 5, 6, 7, 8] rfl)
          · replace hf := mm_it c_25 hf
            refine lv_iconst (v := (5 : Int32)) hx hb dL_types_201 (by decide) ?_
            refine lv_goto (tgt := 219) hx hb dL_types_202 (by decide) ?_
            exact cx_L_types_J219 x1 rv σ1 k22 hk22 (fun z0 z1 z2 z3 z4 z5 z6 z => fx_L_types_L148 x1 k22 fu z0 z1 z2 z3 z4 z5 z6 z) ih X v2 v3 v4 v5 v6 v7 v8 (5 : Int32) σ H locs ls hf hP hS (lv_sub hl [0, 1, 2, 3, 4, 5, 6, 7, 8] rfl)
        · replace hf := mm_it c_24 hf
          refine lv_iconst (v := (2 : Int32)) hx hb dL_types_191 (by decide) ?_
          refine lv_goto (tgt := 219) hx hb dL_types_192 (by decide) ?_
          exact cx_L_types_J219 x1 rv σ1 k22 hk22 (fun z0 z1 z2 z3 z4 z5 z6 z => fx_L_types_L148 x1 k22 fu z0 z1 z2 z3 z4 z5 z6 z) ih X v2 v3 v4 v5 v6 v7 v8 (2 : Int32) σ H locs ls hf hP hS (lv_sub hl [0, 1, 2, 3, 4, 5, 6, 7, 8] rfl)
      · replace hf := mm_if c_23 hf
        refine lv_iload hx hb dL_types_161 (lv_at hl 8 rfl) ?_
        refine lv_if_ne (tgt := 171) hx hb dL_types_163 (by decide) (fun c_27 => ?_) (fun c_27 => ?_)
        · replace hf := mm_if c_27 hf
          refine lv_iload hx hb dL_types_171 (lv_at hl 6 rfl) ?_
          refine lv_iconst (v := (2 : Int32)) hx hb dL_types_173 (by decide) ?_
          refine lv_icmp_ne (tgt := 182) hx hb dL_types_174 (by decide) (fun c_28 => ?_) (fun c_28 => ?_)
          · replace hf := mm_if c_28 hf
            refine lv_iconst (v := (4 : Int32)) hx hb dL_types_182 (by decide) ?_
            refine lv_goto (tgt := 219) hx hb dL_types_183 (by decide) ?_
            exact cx_L_types_J219 x1 rv σ1 k22 hk22 (fun z0 z1 z2 z3 z4 z5 z6 z => fx_L_types_L148 x1 k22 fu z0 z1 z2 z3 z4 z5 z6 z) ih X v2 v3 v4 v5 v6 v7 v8 (4 : Int32) σ H locs ls hf hP hS (lv_sub hl [0, 1, 2, 3, 4, 5, 6, 7, 8] rfl)
          · replace hf := mm_it c_28 hf
            refine lv_bipush (v := (10 : Int32)) hx hb dL_types_177 (by decide) ?_
            refine lv_goto (tgt := 219) hx hb dL_types_179 (by decide) ?_
            exact cx_L_types_J219 x1 rv σ1 k22 hk22 (fun z0 z1 z2 z3 z4 z5 z6 z => fx_L_types_L148 x1 k22 fu z0 z1 z2 z3 z4 z5 z6 z) ih X v2 v3 v4 v5 v6 v7 v8 (10 : Int32) σ H locs ls hf hP hS (lv_sub hl [0, 1, 2, 3, 4, 5, 6, 7, 8] rfl)
        · replace hf := mm_it c_27 hf
          refine lv_bipush (v := (65 : Int32)) hx hb dL_types_166 (by decide) ?_
          refine lv_goto (tgt := 219) hx hb dL_types_168 (by decide) ?_
          exact cx_L_types_J219 x1 rv σ1 k22 hk22 (fun z0 z1 z2 z3 z4 z5 z6 z => fx_L_types_L148 x1 k22 fu z0 z1 z2 z3 z4 z5 z6 z) ih X v2 v3 v4 v5 v6 v7 v8 (65 : Int32) σ H locs ls hf hP hS (lv_sub hl [0, 1, 2, 3, 4, 5, 6, 7, 8] rfl)
def fx_L_types_J144 (x1 : Int32) (k22 : Int32 → Int32 → Int32 → mm_M → mm_R) (v2 : Int32) (v4 : Int32) (v5 : Int32) (v6 : Int32) (v7 : Int32) (w0 : Int32) (σ : mm_M) : mm_R := fx_L_types_L148 x1 k22 mm_FU v2 w0 v4 v5 v6 v7 (0 : Int32) σ
set_option maxHeartbeats 4000000 in
set_option maxRecDepth 100000 in
theorem cx_L_types_J144 {p : Program} {l : Launch} {e : Env} {s : State} {m : MethodId} {args : Array Value} {below : List Frame} {meth : Method} {c : Code} {D : va_G} {ad : mm_A} {cA : Nat → ClassId} (x1 : Int32)  (rv : Int32) (σ1 : mm_M) (k22 : Int32 → Int32 → Int32 → mm_M → mm_R) (hk22 : ∀ (v2 : Int32) (v3 : Int32) (v4 : Int32) (σ : mm_M) (H : Heap) (locs : List Loc) (ls : Array Slot), k22 v2 v3 v4 σ = some (rv, σ1) → va_P D vwCl (mm_wd ad cA σ) H → va_S (mm_AS ad) s.heap H locs → lv_has ls 10 [(0, .ref (ad 6 9 0)), (1, .int x1), (2, .int v2), (3, .int v3), (4, .int v4)] → W p l e (mm_rm 3 65) s m args below meth c H locs 0 0 (MQ below (mm_Q D ad cA (some (.int rv)) σ1) args s 0 0 (mm_AS ad)) (F0 m 22 ls [])) (X : mm_X p s m args meth c cL_types 10 (some .boolean) RL D ad cA) : ∀ (v2 : Int32) (v4 : Int32) (v5 : Int32) (v6 : Int32) (v7 : Int32) (w0 : Int32) (σ : mm_M) (H : Heap) (locs : List Loc) (ls : Array Slot), fx_L_types_J144 x1 k22 v2 v4 v5 v6 v7 w0 σ = some (rv, σ1) → va_P D vwCl (mm_wd ad cA σ) H → va_S (mm_AS ad) s.heap H locs → lv_has ls 10 [(0, .ref (ad 6 9 0)), (1, .int x1), (2, .int v2), (4, .int v4), (5, .int v5), (6, .int v6), (7, .int v7)] → W p l e (mm_rm 3 65) s m args below meth c H locs 0 0 (MQ below (mm_Q D ad cA (some (.int rv)) σ1) args s 0 0 (mm_AS ad)) (F0 m 144 ls [.int w0]) := by
  have hx := X.1
  have hb := X.2.1
  have hI := X.2.2.2.2.2.2.2.2.2
  intro v2 v4 v5 v6 v7 w0 σ H locs ls hf hP hS hl
  rw [fx_L_types_J144] at hf
  refine lv_istore_n (lv' := [(3, .int w0), (0, .ref (ad 6 9 0)), (1, .int x1), (2, .int v2), (4, .int v4), (5, .int v5), (6, .int v6), (7, .int v7)]) hx hb dL_types_144 rfl hl (by decide) rfl (fun ls hl => ?_)
  refine lv_iconst (v := (0 : Int32)) hx hb dL_types_145 (by decide) ?_
  refine lv_istore (lv' := [(8, .int (0 : Int32)), (3, .int w0), (0, .ref (ad 6 9 0)), (1, .int x1), (2, .int v2), (4, .int v4), (5, .int v5), (6, .int v6), (7, .int v7)]) hx hb dL_types_146 hl (by decide) rfl (fun ls hl => ?_)
  exact cx_L_types_L148 x1 rv σ1 k22 hk22 X mm_FU v2 w0 v4 v5 v6 v7 (0 : Int32) σ H locs ls hf hP hS (lv_sub hl [2, 3, 4, 1, 5, 6, 7, 8, 0] rfl)
def fx_L_types_J143 (x1 : Int32) (k22 : Int32 → Int32 → Int32 → mm_M → mm_R) (v2 : Int32) (v4 : Int32) (v5 : Int32) (v6 : Int32) (v7 : Int32) (σ : mm_M) : mm_R := fx_L_types_J144 x1 k22 v2 v4 v5 v6 v7 (0 : Int32) σ
set_option maxHeartbeats 4000000 in
set_option maxRecDepth 100000 in
theorem cx_L_types_J143 {p : Program} {l : Launch} {e : Env} {s : State} {m : MethodId} {args : Array Value} {below : List Frame} {meth : Method} {c : Code} {D : va_G} {ad : mm_A} {cA : Nat → ClassId} (x1 : Int32)  (rv : Int32) (σ1 : mm_M) (k22 : Int32 → Int32 → Int32 → mm_M → mm_R) (hk22 : ∀ (v2 : Int32) (v3 : Int32) (v4 : Int32) (σ : mm_M) (H : Heap) (locs : List Loc) (ls : Array Slot), k22 v2 v3 v4 σ = some (rv, σ1) → va_P D vwCl (mm_wd ad cA σ) H → va_S (mm_AS ad) s.heap H locs → lv_has ls 10 [(0, .ref (ad 6 9 0)), (1, .int x1), (2, .int v2), (3, .int v3), (4, .int v4)] → W p l e (mm_rm 3 65) s m args below meth c H locs 0 0 (MQ below (mm_Q D ad cA (some (.int rv)) σ1) args s 0 0 (mm_AS ad)) (F0 m 22 ls [])) (X : mm_X p s m args meth c cL_types 10 (some .boolean) RL D ad cA) : ∀ (v2 : Int32) (v4 : Int32) (v5 : Int32) (v6 : Int32) (v7 : Int32) (σ : mm_M) (H : Heap) (locs : List Loc) (ls : Array Slot), fx_L_types_J143 x1 k22 v2 v4 v5 v6 v7 σ = some (rv, σ1) → va_P D vwCl (mm_wd ad cA σ) H → va_S (mm_AS ad) s.heap H locs → lv_has ls 10 [(0, .ref (ad 6 9 0)), (1, .int x1), (2, .int v2), (4, .int v4), (5, .int v5), (6, .int v6), (7, .int v7)] → W p l e (mm_rm 3 65) s m args below meth c H locs 0 0 (MQ below (mm_Q D ad cA (some (.int rv)) σ1) args s 0 0 (mm_AS ad)) (F0 m 143 ls []) := by
  have hx := X.1
  have hb := X.2.1
  have hI := X.2.2.2.2.2.2.2.2.2
  intro v2 v4 v5 v6 v7 σ H locs ls hf hP hS hl
  rw [fx_L_types_J143] at hf
  refine lv_iconst (v := (0 : Int32)) hx hb dL_types_143 (by decide) ?_
  exact cx_L_types_J144 x1 rv σ1 k22 hk22 X v2 v4 v5 v6 v7 (0 : Int32) σ H locs ls hf hP hS (lv_sub hl [0, 1, 2, 3, 4, 5, 6] rfl)
def fx_L_types_J133 (x1 : Int32) (k22 : Int32 → Int32 → Int32 → mm_M → mm_R) (v2 : Int32) (v4 : Int32) (v5 : Int32) (v6 : Int32) (v7 : Int32) (w1 : Int32) (σ : mm_M) : mm_R := mm_bd (fx_X10_type w1 σ) fun r_16 s_16 => (if r_16 ≤ (0 : Int32) then fx_L_types_J143 x1 k22 v2 v4 v5 v6 v7 s_16 else fx_L_types_J144 x1 k22 v2 v4 v5 v6 v7 (1 : Int32) s_16)
set_option maxHeartbeats 4000000 in
set_option maxRecDepth 100000 in
theorem cx_L_types_J133 {p : Program} {l : Launch} {e : Env} {s : State} {m : MethodId} {args : Array Value} {below : List Frame} {meth : Method} {c : Code} {D : va_G} {ad : mm_A} {cA : Nat → ClassId} (x1 : Int32)  (rv : Int32) (σ1 : mm_M) (k22 : Int32 → Int32 → Int32 → mm_M → mm_R) (hk22 : ∀ (v2 : Int32) (v3 : Int32) (v4 : Int32) (σ : mm_M) (H : Heap) (locs : List Loc) (ls : Array Slot), k22 v2 v3 v4 σ = some (rv, σ1) → va_P D vwCl (mm_wd ad cA σ) H → va_S (mm_AS ad) s.heap H locs → lv_has ls 10 [(0, .ref (ad 6 9 0)), (1, .int x1), (2, .int v2), (3, .int v3), (4, .int v4)] → W p l e (mm_rm 3 65) s m args below meth c H locs 0 0 (MQ below (mm_Q D ad cA (some (.int rv)) σ1) args s 0 0 (mm_AS ad)) (F0 m 22 ls [])) (X : mm_X p s m args meth c cL_types 10 (some .boolean) RL D ad cA) : ∀ (v2 : Int32) (v4 : Int32) (v5 : Int32) (v6 : Int32) (v7 : Int32) (w1 : Int32) (σ : mm_M) (H : Heap) (locs : List Loc) (ls : Array Slot), fx_L_types_J133 x1 k22 v2 v4 v5 v6 v7 w1 σ = some (rv, σ1) → va_P D vwCl (mm_wd ad cA σ) H → va_S (mm_AS ad) s.heap H locs → lv_has ls 10 [(0, .ref (ad 6 9 0)), (1, .int x1), (2, .int v2), (4, .int v4), (5, .int v5), (6, .int v6), (7, .int v7)] → W p l e (mm_rm 3 65) s m args below meth c H locs 0 0 (MQ below (mm_Q D ad cA (some (.int rv)) σ1) args s 0 0 (mm_AS ad)) (F0 m 133 ls [.int w1, .ref (ad 6 9 0)]) := by
  have hx := X.1
  have hb := X.2.1
  have hI := X.2.2.2.2.2.2.2.2.2
  intro v2 v4 v5 v6 v7 w1 σ H locs ls hf hP hS hl
  rw [fx_L_types_J133] at hf
  obtain ⟨r_16, s_16, e_16, hf⟩ := mm_bd_ok hf
  refine mm_callV X hP hS hl.1 [.int w1] [] (cx_X10_type l D ad cA hI w1 σ r_16 s_16 e_16) kp_9 rfl rfl wd_728 wd_729 wd_730 wd_1 wd_731 hd_X10_type ⟨Nat.le_of_ble_eq_true rfl, Nat.le_of_ble_eq_true rfl⟩ rfl (Nat.le_of_ble_eq_true rfl) dL_types_133 (fun H locs hP hS => ?_)
  refine lv_if_le (tgt := 143) hx hb dL_types_136 (by decide) (fun c_17 => ?_) (fun c_17 => ?_)
  · replace hf := mm_it c_17 hf
    exact cx_L_types_J143 x1 rv σ1 k22 hk22 X v2 v4 v5 v6 v7 s_16 H locs ls hf hP hS (lv_sub hl [0, 1, 2, 3, 4, 5, 6] rfl)
  · replace hf := mm_if c_17 hf
    refine lv_iconst (v := (1 : Int32)) hx hb dL_types_139 (by decide) ?_
    refine lv_goto (tgt := 144) hx hb dL_types_140 (by decide) ?_
    exact cx_L_types_J144 x1 rv σ1 k22 hk22 X v2 v4 v5 v6 v7 (1 : Int32) s_16 H locs ls hf hP hS (lv_sub hl [0, 1, 2, 3, 4, 5, 6] rfl)
def fx_L_types_J79 (x1 : Int32) (k22 : Int32 → Int32 → Int32 → mm_M → mm_R) (v2 : Int32) (v3 : Int32) (v4 : Int32) (v5 : Int32) (v6 : Int32) (w0 : Int32) (σ : mm_M) : mm_R := if v3 = (0 : Int32) then fx_L_types_J143 x1 k22 v2 v4 v5 v6 w0 σ else if (2 : Int32) ≤ v6 then if v6 = (2 : Int32) then fx_L_types_J133 x1 k22 v2 v4 v5 v6 w0 (107 : Int32) σ else if v6 = (3 : Int32) then fx_L_types_J133 x1 k22 v2 v4 v5 v6 w0 (119 : Int32) σ else if (8 : Int32) ≤ v6 then fx_L_types_J133 x1 k22 v2 v4 v5 v6 w0 (114 : Int32) σ else fx_L_types_J133 x1 k22 v2 v4 v5 v6 w0 (112 : Int32) σ else fx_L_types_J133 x1 k22 v2 v4 v5 v6 w0 (99 : Int32) σ
set_option maxHeartbeats 4000000 in
set_option maxRecDepth 100000 in
theorem cx_L_types_J79 {p : Program} {l : Launch} {e : Env} {s : State} {m : MethodId} {args : Array Value} {below : List Frame} {meth : Method} {c : Code} {D : va_G} {ad : mm_A} {cA : Nat → ClassId} (x1 : Int32)  (rv : Int32) (σ1 : mm_M) (k22 : Int32 → Int32 → Int32 → mm_M → mm_R) (hk22 : ∀ (v2 : Int32) (v3 : Int32) (v4 : Int32) (σ : mm_M) (H : Heap) (locs : List Loc) (ls : Array Slot), k22 v2 v3 v4 σ = some (rv, σ1) → va_P D vwCl (mm_wd ad cA σ) H → va_S (mm_AS ad) s.heap H locs → lv_has ls 10 [(0, .ref (ad 6 9 0)), (1, .int x1), (2, .int v2), (3, .int v3), (4, .int v4)] → W p l e (mm_rm 3 65) s m args below meth c H locs 0 0 (MQ below (mm_Q D ad cA (some (.int rv)) σ1) args s 0 0 (mm_AS ad)) (F0 m 22 ls [])) (X : mm_X p s m args meth c cL_types 10 (some .boolean) RL D ad cA) : ∀ (v2 : Int32) (v3 : Int32) (v4 : Int32) (v5 : Int32) (v6 : Int32) (w0 : Int32) (σ : mm_M) (H : Heap) (locs : List Loc) (ls : Array Slot), fx_L_types_J79 x1 k22 v2 v3 v4 v5 v6 w0 σ = some (rv, σ1) → va_P D vwCl (mm_wd ad cA σ) H → va_S (mm_AS ad) s.heap H locs → lv_has ls 10 [(0, .ref (ad 6 9 0)), (1, .int x1), (2, .int v2), (3, .int v3), (4, .int v4), (5, .int v5), (6, .int v6)] → W p l e (mm_rm 3 65) s m args below meth c H locs 0 0 (MQ below (mm_Q D ad cA (some (.int rv)) σ1) args s 0 0 (mm_AS ad)) (F0 m 79 ls [.int w0]) := by
  have hx := X.1
  have hb := X.2.1
  have hI := X.2.2.2.2.2.2.2.2.2
  intro v2 v3 v4 v5 v6 w0 σ H locs ls hf hP hS hl
  rw [fx_L_types_J79] at hf
  refine lv_istore (lv' := [(7, .int w0), (0, .ref (ad 6 9 0)), (1, .int x1), (2, .int v2), (3, .int v3), (4, .int v4), (5, .int v5), (6, .int v6)]) hx hb dL_types_79 hl (by decide) rfl (fun ls hl => ?_)
  refine lv_iload_n hx hb dL_types_81 rfl (lv_at hl 4 rfl) ?_
  refine lv_if_eq (tgt := 143) hx hb dL_types_82 (by decide) (fun c_11 => ?_) (fun c_11 => ?_)
  · replace hf := mm_it c_11 hf
    exact cx_L_types_J143 x1 rv σ1 k22 hk22 X v2 v4 v5 v6 w0 σ H locs ls hf hP hS (lv_sub hl [1, 2, 3, 5, 6, 7, 0] rfl)
  · replace hf := mm_if c_11 hf
    refine lv_aload_n hx hb dL_types_85 rfl (lv_at hl 1 rfl) ?_
    refine lv_iload hx hb dL_types_86 (lv_at hl 7 rfl) ?_
    refine lv_iconst (v := (2 : Int32)) hx hb dL_types_88 (by decide) ?_
    refine lv_icmp_ge (tgt := 97) hx hb dL_types_89 (by decide) (fun c_12 => ?_) (fun c_12 => ?_)
    · replace hf := mm_it c_12 hf
      refine lv_iload hx hb dL_types_97 (lv_at hl 7 rfl) ?_
      refine lv_iconst (v := (2 : Int32)) hx hb dL_types_99 (by decide) ?_
      refine lv_icmp_ne (tgt := 108) hx hb dL_types_100 (by decide) (fun c_13 => ?_) (fun c_13 => ?_)
      · replace hf := mm_if c_13 hf
        refine lv_iload hx hb dL_types_108 (lv_at hl 7 rfl) ?_
        refine lv_iconst (v := (3 : Int32)) hx hb dL_types_110 (by decide) ?_
        refine lv_icmp_ne (tgt := 119) hx hb dL_types_111 (by decide) (fun c_14 => ?_) (fun c_14 => ?_)
        · replace hf := mm_if c_14 hf
          refine lv_iload hx hb dL_types_119 (lv_at hl 7 rfl) ?_
          refine lv_bipush (v := (8 : Int32)) hx hb dL_types_121 (by decide) ?_
          refine lv_icmp_ge (tgt := 131) hx hb dL_types_123 (by decide) (fun c_15 => ?_) (fun c_15 => ?_)
          · replace hf := mm_it c_15 hf
            refine lv_bipush (v := (114 : Int32)) hx hb dL_types_131 (by decide) ?_
            exact cx_L_types_J133 x1 rv σ1 k22 hk22 X v2 v4 v5 v6 w0 (114 : Int32) σ H locs ls hf hP hS (lv_sub hl [1, 2, 3, 5, 6, 7, 0] rfl)
          · replace hf := mm_if c_15 hf
            refine lv_bipush (v := (112 : Int32)) hx hb dL_types_126 (by decide) ?_
            refine lv_goto (tgt := 133) hx hb dL_types_128 (by decide) ?_
            exact cx_L_types_J133 x1 rv σ1 k22 hk22 X v2 v4 v5 v6 w0 (112 : Int32) σ H locs ls hf hP hS (lv_sub hl [1, 2, 3, 5, 6, 7, 0] rfl)
        · replace hf := mm_it c_14 hf
          refine lv_bipush (v := (119 : Int32)) hx hb dL_types_114 (by decide) ?_
          refine lv_goto (tgt := 133) hx hb dL_types_116 (by decide) ?_
          exact cx_L_types_J133 x1 rv σ1 k22 hk22 X v2 v4 v5 v6 w0 (119 : Int32) σ H locs ls hf hP hS (lv_sub hl [1, 2, 3, 5, 6, 7, 0] rfl)
      · replace hf := mm_it c_13 hf
        refine lv_bipush (v := (107 : Int32)) hx hb dL_types_103 (by decide) ?_
        refine lv_goto (tgt := 133) hx hb dL_types_105 (by decide) ?_
        exact cx_L_types_J133 x1 rv σ1 k22 hk22 X v2 v4 v5 v6 w0 (107 : Int32) σ H locs ls hf hP hS (lv_sub hl [1, 2, 3, 5, 6, 7, 0] rfl)
    · replace hf := mm_if c_12 hf
      refine lv_bipush (v := (99 : Int32)) hx hb dL_types_92 (by decide) ?_
      refine lv_goto (tgt := 133) hx hb dL_types_94 (by decide) ?_
      exact cx_L_types_J133 x1 rv σ1 k22 hk22 X v2 v4 v5 v6 w0 (99 : Int32) σ H locs ls hf hP hS (lv_sub hl [1, 2, 3, 5, 6, 7, 0] rfl)
def fx_L_types_L22 (x1 : Int32)  : Nat → Int32 → Int32 → Int32 → mm_M → mm_R
  | 0, _, _, _, _ => none
  | fu + 1, v2, v3, v4, σ => if v2 ≤ v4 then mm_gd (v3 = 0 ∨ v3 = 1) (some (v3, σ)) else mm_li (x1 >>> (((3 : Int32) + ((5 : Int32) * v4)) &&& 31)) fun y_6 => (mm_bd (fx_L_low y_6 (10 : Int32) σ) fun r_7 s_7 => (if (3 : Int32) ≤ r_7 then if r_7 = (3 : Int32) then fx_L_types_J79 x1 (fun z0 z1 z2 z => fx_L_types_L22 x1 fu z0 z1 z2 z) v2 v3 v4 y_6 r_7 (2 : Int32) s_7 else if (8 : Int32) ≤ r_7 then fx_L_types_J79 x1 (fun z0 z1 z2 z => fx_L_types_L22 x1 fu z0 z1 z2 z) v2 v3 v4 y_6 r_7 (0 : Int32) s_7 else fx_L_types_J79 x1 (fun z0 z1 z2 z => fx_L_types_L22 x1 fu z0 z1 z2 z) v2 v3 v4 y_6 r_7 (4 : Int32) s_7 else fx_L_types_J79 x1 (fun z0 z1 z2 z => fx_L_types_L22 x1 fu z0 z1 z2 z) v2 v3 v4 y_6 r_7 (2 : Int32) s_7))
set_option maxHeartbeats 4000000 in
set_option maxRecDepth 100000 in
theorem cx_L_types_L22 {p : Program} {l : Launch} {e : Env} {s : State} {m : MethodId} {args : Array Value} {below : List Frame} {meth : Method} {c : Code} {D : va_G} {ad : mm_A} {cA : Nat → ClassId} (x1 : Int32)  (rv : Int32) (σ1 : mm_M)  (X : mm_X p s m args meth c cL_types 10 (some .boolean) RL D ad cA) : ∀ (fu : Nat), ∀ (v2 : Int32) (v3 : Int32) (v4 : Int32) (σ : mm_M) (H : Heap) (locs : List Loc) (ls : Array Slot), fx_L_types_L22 x1 fu v2 v3 v4 σ = some (rv, σ1) → va_P D vwCl (mm_wd ad cA σ) H → va_S (mm_AS ad) s.heap H locs → lv_has ls 10 [(0, .ref (ad 6 9 0)), (1, .int x1), (2, .int v2), (3, .int v3), (4, .int v4)] → W p l e (mm_rm 3 65) s m args below meth c H locs 0 0 (MQ below (mm_Q D ad cA (some (.int rv)) σ1) args s 0 0 (mm_AS ad)) (F0 m 22 ls []) := by
  have hx := X.1
  have hb := X.2.1
  have hI := X.2.2.2.2.2.2.2.2.2
  intro fu
  induction fu with
  | zero =>
    intro v2 v3 v4 σ H locs ls hf
    exact mm_no hf
  | succ fu ih =>
    intro v2 v3 v4 σ H locs ls hf hP hS hl
    rw [fx_L_types_L22] at hf
    refine lv_iload hx hb dL_types_22 (lv_at hl 4 rfl) ?_
    refine lv_iload_n hx hb dL_types_24 rfl (lv_at hl 2 rfl) ?_
    refine lv_icmp_ge (tgt := 334) hx hb dL_types_25 (by decide) (fun c_4 => ?_) (fun c_4 => ?_)
    · replace hf := mm_it c_4 hf
      refine lv_iload_n hx hb dL_types_334 rfl (lv_at hl 3 rfl) ?_
      obtain ⟨h_5, hf⟩ := mm_gd_ok hf
      obtain ⟨rfl, rfl⟩ := mm_ret hf
      exact mm_zret h_5 X hP hS dL_types_335
    · replace hf := mm_if c_4 hf
      refine lv_iload_n hx hb dL_types_28 rfl (lv_at hl 1 rfl) ?_
      refine lv_iconst (v := (3 : Int32)) hx hb dL_types_29 (by decide) ?_
      refine lv_iconst (v := (5 : Int32)) hx hb dL_types_30 (by decide) ?_
      refine lv_iload hx hb dL_types_31 (lv_at hl 4 rfl) ?_
      refine lv_imul hx hb dL_types_33 ?_
      refine lv_iadd hx hb dL_types_34 ?_
      refine lv_ishr hx hb dL_types_35 ?_
      obtain ⟨y_6, e_6, hf⟩ := mm_li_ok hf
      rw [← e_6]
      refine lv_istore (lv' := [(5, .int y_6), (0, .ref (ad 6 9 0)), (1, .int x1), (2, .int v2), (3, .int v3), (4, .int v4)]) hx hb dL_types_36 hl (by decide) rfl (fun ls hl => ?_)
      refine lv_iload hx hb dL_types_38 (lv_at hl 0 rfl) ?_
      refine lv_bipush (v := (10 : Int32)) hx hb dL_types_40 (by decide) ?_
      obtain ⟨r_7, s_7, e_7, hf⟩ := mm_bd_ok hf
      refine mm_callS X hP hS hl.1 [.int y_6, .int (10 : Int32)] [] (cx_L_low l D ad cA hI y_6 (10 : Int32) σ r_7 s_7 e_7) wd_348 wd_349 wd_0 wd_350 hd_L_low ⟨Nat.le_of_ble_eq_true rfl, Nat.le_of_ble_eq_true rfl⟩ rfl (Nat.le_of_ble_eq_true rfl) dL_types_42 (fun H locs hP hS => ?_)
      refine lv_istore (lv' := [(6, .int r_7), (5, .int y_6), (0, .ref (ad 6 9 0)), (1, .int x1), (2, .int v2), (3, .int v3), (4, .int v4)]) hx hb dL_types_45 hl (by decide) rfl (fun ls hl => ?_)
      refine lv_iload hx hb dL_types_47 (lv_at hl 0 rfl) ?_
      refine lv_iconst (v := (3 : Int32)) hx hb dL_types_49 (by decide) ?_
      refine lv_icmp_ge (tgt := 57) hx hb dL_types_50 (by decide) (fun c_8 => ?_) (fun c_8 => ?_)
      · replace hf := mm_it c_8 hf
        refine lv_iload hx hb dL_types_57 (lv_at hl 0 rfl) ?_
        refine lv_iconst (v := (3 : Int32)) hx hb dL_types_59 (by decide) ?_
        refine lv_icmp_ne (tgt := 67) hx hb dL_types_60 (by decide) (fun c_9 => ?_) (fun c_9 => ?_)
        · replace hf := mm_if c_9 hf
          refine lv_iload hx hb dL_types_67 (lv_at hl 0 rfl) ?_
          refine lv_bipush (v := (8 : Int32)) hx hb dL_types_69 (by decide) ?_
          refine lv_icmp_ge (tgt := 78) hx hb dL_types_71 (by decide) (fun c_10 => ?_) (fun c_10 => ?_)
          · replace hf := mm_it c_10 hf
            refine lv_iconst (v := (0 : Int32)) hx hb dL_types_78 (by decide) ?_
            exact cx_L_types_J79 x1 rv σ1 (fun z0 z1 z2 z => fx_L_types_L22 x1 fu z0 z1 z2 z) ih X v2 v3 v4 y_6 r_7 (0 : Int32) s_7 H locs ls hf hP hS (lv_sub hl [2, 3, 4, 5, 6, 1, 0] rfl)
          · replace hf := mm_if c_10 hf
            refine lv_iconst (v := (4 : Int32)) hx hb dL_types_74 (by decide) ?_
            refine lv_goto (tgt := 79) hx hb dL_types_75 (by decide) ?_
            exact cx_L_types_J79 x1 rv σ1 (fun z0 z1 z2 z => fx_L_types_L22 x1 fu z0 z1 z2 z) ih X v2 v3 v4 y_6 r_7 (4 : Int32) s_7 H locs ls hf hP hS (lv_sub hl [2, 3, 4, 5, 6, 1, 0] rfl)
        · replace hf := mm_it c_9 hf
          refine lv_iconst (v := (2 : Int32)) hx hb dL_types_63 (by decide) ?_
          refine lv_goto (tgt := 79) hx hb dL_types_64 (by decide) ?_
          exact cx_L_types_J79 x1 rv σ1 (fun z0 z1 z2 z => fx_L_types_L22 x1 fu z0 z1 z2 z) ih X v2 v3 v4 y_6 r_7 (2 : Int32) s_7 H locs ls hf hP hS (lv_sub hl [2, 3, 4, 5, 6, 1, 0] rfl)
      · replace hf := mm_if c_8 hf
        refine lv_iconst (v := (2 : Int32)) hx hb dL_types_53 (by decide) ?_
        refine lv_goto (tgt := 79) hx hb dL_types_54 (by decide) ?_
        exact cx_L_types_J79 x1 rv σ1 (fun z0 z1 z2 z => fx_L_types_L22 x1 fu z0 z1 z2 z) ih X v2 v3 v4 y_6 r_7 (2 : Int32) s_7 H locs ls hf hP hS (lv_sub hl [2, 3, 4, 5, 6, 1, 0] rfl)
def fx_L_types_J18 (x1 : Int32)  (v2 : Int32) (w0 : Int32) (σ : mm_M) : mm_R := fx_L_types_L22 x1 mm_FU v2 w0 (0 : Int32) σ
set_option maxHeartbeats 4000000 in
set_option maxRecDepth 100000 in
theorem cx_L_types_J18 {p : Program} {l : Launch} {e : Env} {s : State} {m : MethodId} {args : Array Value} {below : List Frame} {meth : Method} {c : Code} {D : va_G} {ad : mm_A} {cA : Nat → ClassId} (x1 : Int32)  (rv : Int32) (σ1 : mm_M)  (X : mm_X p s m args meth c cL_types 10 (some .boolean) RL D ad cA) : ∀ (v2 : Int32) (w0 : Int32) (σ : mm_M) (H : Heap) (locs : List Loc) (ls : Array Slot), fx_L_types_J18 x1 v2 w0 σ = some (rv, σ1) → va_P D vwCl (mm_wd ad cA σ) H → va_S (mm_AS ad) s.heap H locs → lv_has ls 10 [(0, .ref (ad 6 9 0)), (1, .int x1), (2, .int v2)] → W p l e (mm_rm 3 65) s m args below meth c H locs 0 0 (MQ below (mm_Q D ad cA (some (.int rv)) σ1) args s 0 0 (mm_AS ad)) (F0 m 18 ls [.int w0]) := by
  have hx := X.1
  have hb := X.2.1
  have hI := X.2.2.2.2.2.2.2.2.2
  intro v2 w0 σ H locs ls hf hP hS hl
  rw [fx_L_types_J18] at hf
  refine lv_istore_n (lv' := [(3, .int w0), (0, .ref (ad 6 9 0)), (1, .int x1), (2, .int v2)]) hx hb dL_types_18 rfl hl (by decide) rfl (fun ls hl => ?_)
  refine lv_iconst (v := (0 : Int32)) hx hb dL_types_19 (by decide) ?_
  refine lv_istore (lv' := [(4, .int (0 : Int32)), (3, .int w0), (0, .ref (ad 6 9 0)), (1, .int x1), (2, .int v2)]) hx hb dL_types_20 hl (by decide) rfl (fun ls hl => ?_)
  exact cx_L_types_L22 x1 rv σ1 X mm_FU v2 w0 (0 : Int32) σ H locs ls hf hP hS (lv_sub hl [2, 3, 4, 1, 0] rfl)
def fx_L_types (x1 : Int32) (σ : mm_M) : mm_R := mm_bd (fx_L_low x1 (5 : Int32) σ) fun r_1 s_1 => (mm_bd (fx_X10_clearText  s_1) fun r_2 s_2 => (if r_2 < (0 : Int32) then fx_L_types_J18 x1 r_1 (0 : Int32) s_2 else fx_L_types_J18 x1 r_1 (1 : Int32) s_2))
set_option maxHeartbeats 4000000 in
set_option maxRecDepth 100000 in
theorem cx_L_types (l : Launch) (D : va_G) (ad : mm_A) (cA : Nat → ClassId) (hI : mm_Inj ad) (x1 : Int32)  (σ : mm_M) (rv : Int32) (σ1 : mm_M) (hf : fx_L_types x1 σ = some (rv, σ1)) : Met l yL_types (Cond.code yL_types cL_types 10 (some .boolean) :: tb) (mm_rm 3 65) (mm_pre D ad cA [.ref (ad 6 9 0), .int x1] σ) (mm_Q D ad cA (some (.int rv)) σ1) 0 0 (mm_AS ad) := by
  refine mm_start (by decide +kernel) hI (Nat.le_of_ble_eq_true rfl) ?_
  intro p e s m args below meth c X hP ls hl
  have hl : lv_has ls 10 [(0, .ref (ad 6 9 0)), (1, .int x1)] := hl
  have hx := X.1
  have hb := X.2.1
  have hS : va_S (mm_AS ad) s.heap s.heap [] := va_S.rf
  have hgen : ∀ (H : Heap) (locs : List Loc), va_P D vwCl (mm_wd ad cA σ) H → va_S (mm_AS ad) s.heap H locs → W p l e (mm_rm 3 65) s m args below meth c H locs 0 0 (MQ below (mm_Q D ad cA (some (.int rv)) σ1) args s 0 0 (mm_AS ad)) (F0 m 0 ls []) := by
    intro H locs hP hS
    rw [fx_L_types] at hf
    refine lv_iload_n hx hb dL_types_0 rfl (lv_at hl 1 rfl) ?_
    refine lv_iconst (v := (5 : Int32)) hx hb dL_types_1 (by decide) ?_
    obtain ⟨r_1, s_1, e_1, hf⟩ := mm_bd_ok hf
    refine mm_callS X hP hS hl.1 [.int x1, .int (5 : Int32)] [] (cx_L_low l D ad cA hI x1 (5 : Int32) σ r_1 s_1 e_1) wd_348 wd_349 wd_0 wd_350 hd_L_low ⟨Nat.le_of_ble_eq_true rfl, Nat.le_of_ble_eq_true rfl⟩ rfl (Nat.le_of_ble_eq_true rfl) dL_types_2 (fun H locs hP hS => ?_)
    refine lv_istore_n (lv' := [(2, .int r_1), (0, .ref (ad 6 9 0)), (1, .int x1)]) hx hb dL_types_5 rfl hl (by decide) rfl (fun ls hl => ?_)
    refine lv_aload_n hx hb dL_types_6 rfl (lv_at hl 1 rfl) ?_
    obtain ⟨r_2, s_2, e_2, hf⟩ := mm_bd_ok hf
    refine mm_callV X hP hS hl.1 [] [] (cx_X10_clearText l D ad cA hI  s_1 r_2 s_2 e_2) kp_9 rfl rfl wd_724 wd_725 wd_726 wd_1 wd_727 hd_X10_clearText ⟨Nat.le_of_ble_eq_true rfl, Nat.le_of_ble_eq_true rfl⟩ rfl (Nat.le_of_ble_eq_true rfl) dL_types_7 (fun H locs hP hS => ?_)
    refine lv_if_lt (tgt := 17) hx hb dL_types_10 (by decide) (fun c_3 => ?_) (fun c_3 => ?_)
    · replace hf := mm_it c_3 hf
      refine lv_iconst (v := (0 : Int32)) hx hb dL_types_17 (by decide) ?_
      exact cx_L_types_J18 x1 rv σ1 X r_1 (0 : Int32) s_2 H locs ls hf hP hS (lv_sub hl [1, 2, 0] rfl)
    · replace hf := mm_if c_3 hf
      refine lv_iconst (v := (1 : Int32)) hx hb dL_types_13 (by decide) ?_
      refine lv_goto (tgt := 18) hx hb dL_types_14 (by decide) ?_
      exact cx_L_types_J18 x1 rv σ1 X r_1 (1 : Int32) s_2 H locs ls hf hP hS (lv_sub hl [1, 2, 0] rfl)
  exact hgen _ _ hP hS
def fx_L_reads_J139   (v4 : Int32) (σ : mm_M) : mm_R := mm_bd (fx_X10_count (8 : Int32) σ) fun r_22 s_22 => (if r_22 = v4 then some ((1 : Int32), s_22) else some ((0 : Int32), s_22))
set_option maxHeartbeats 4000000 in
set_option maxRecDepth 100000 in
theorem cx_L_reads_J139 {p : Program} {l : Launch} {e : Env} {s : State} {m : MethodId} {args : Array Value} {below : List Frame} {meth : Method} {c : Code} {D : va_G} {ad : mm_A} {cA : Nat → ClassId}   (rv : Int32) (σ1 : mm_M)  (X : mm_X p s m args meth c cL_reads 8 (some .boolean) RL D ad cA) : ∀ (v4 : Int32) (σ : mm_M) (H : Heap) (locs : List Loc) (ls : Array Slot), fx_L_reads_J139  v4 σ = some (rv, σ1) → va_P D vwCl (mm_wd ad cA σ) H → va_S (mm_AS ad) s.heap H locs → lv_has ls 8 [(0, .ref (ad 6 9 0)), (4, .int v4)] → W p l e (mm_rm 8 181) s m args below meth c H locs 0 0 (MQ below (mm_Q D ad cA (some (.int rv)) σ1) args s 0 0 (mm_AS ad)) (F0 m 139 ls []) := by
  have hx := X.1
  have hb := X.2.1
  have hI := X.2.2.2.2.2.2.2.2.2
  intro v4 σ H locs ls hf hP hS hl
  rw [fx_L_reads_J139] at hf
  refine lv_aload_n hx hb dL_reads_139 rfl (lv_at hl 0 rfl) ?_
  refine lv_bipush (v := (8 : Int32)) hx hb dL_reads_140 (by decide) ?_
  obtain ⟨r_22, s_22, e_22, hf⟩ := mm_bd_ok hf
  refine mm_callV X hP hS hl.1 [.int (8 : Int32)] [] (cx_X10_count l D ad cA hI (8 : Int32) σ r_22 s_22 e_22) kp_9 rfl rfl wd_305 wd_306 wd_307 wd_1 wd_308 hd_X10_count ⟨Nat.le_of_ble_eq_true rfl, Nat.le_of_ble_eq_true rfl⟩ rfl (Nat.le_of_ble_eq_true rfl) dL_reads_142 (fun H locs hP hS => ?_)
  refine lv_iload hx hb dL_reads_145 (lv_at hl 1 rfl) ?_
  refine lv_icmp_ne (tgt := 154) hx hb dL_reads_147 (by decide) (fun c_23 => ?_) (fun c_23 => ?_)
  · replace hf := mm_if c_23 hf
    refine lv_iconst (v := (0 : Int32)) hx hb dL_reads_154 (by decide) ?_
    obtain ⟨rfl, rfl⟩ := mm_ret hf
    exact mm_zret (Or.inl rfl) X hP hS dL_reads_155
  · replace hf := mm_it c_23 hf
    refine lv_iconst (v := (1 : Int32)) hx hb dL_reads_150 (by decide) ?_
    refine lv_goto (tgt := 155) hx hb dL_reads_151 (by decide) ?_
    obtain ⟨rfl, rfl⟩ := mm_ret hf
    exact mm_zret (Or.inr rfl) X hP hS dL_reads_155
def fx_L_reads_J127   (v4 : Int32) (v6 : Int32) (w0 : Int32) (σ : mm_M) : mm_R := if v6 = (0 : Int32) then if w0 = (0 : Int32) then some ((0 : Int32), σ) else fx_L_reads_J139 v4 σ else fx_L_reads_J139 v4 σ
set_option maxHeartbeats 4000000 in
set_option maxRecDepth 100000 in
theorem cx_L_reads_J127 {p : Program} {l : Launch} {e : Env} {s : State} {m : MethodId} {args : Array Value} {below : List Frame} {meth : Method} {c : Code} {D : va_G} {ad : mm_A} {cA : Nat → ClassId}   (rv : Int32) (σ1 : mm_M)  (X : mm_X p s m args meth c cL_reads 8 (some .boolean) RL D ad cA) : ∀ (v4 : Int32) (v6 : Int32) (w0 : Int32) (σ : mm_M) (H : Heap) (locs : List Loc) (ls : Array Slot), fx_L_reads_J127  v4 v6 w0 σ = some (rv, σ1) → va_P D vwCl (mm_wd ad cA σ) H → va_S (mm_AS ad) s.heap H locs → lv_has ls 8 [(0, .ref (ad 6 9 0)), (4, .int v4), (6, .int v6)] → W p l e (mm_rm 8 181) s m args below meth c H locs 0 0 (MQ below (mm_Q D ad cA (some (.int rv)) σ1) args s 0 0 (mm_AS ad)) (F0 m 127 ls [.int w0]) := by
  have hx := X.1
  have hb := X.2.1
  have hI := X.2.2.2.2.2.2.2.2.2
  intro v4 v6 w0 σ H locs ls hf hP hS hl
  rw [fx_L_reads_J127] at hf
  refine lv_istore (lv' := [(7, .int w0), (0, .ref (ad 6 9 0)), (4, .int v4), (6, .int v6)]) hx hb dL_reads_127 hl (by decide) rfl (fun ls hl => ?_)
  refine lv_iload hx hb dL_reads_129 (lv_at hl 3 rfl) ?_
  refine lv_if_ne (tgt := 139) hx hb dL_reads_131 (by decide) (fun c_20 => ?_) (fun c_20 => ?_)
  · replace hf := mm_if c_20 hf
    exact cx_L_reads_J139 rv σ1 X v4 σ H locs ls hf hP hS (lv_sub hl [1, 2] rfl)
  · replace hf := mm_it c_20 hf
    refine lv_iload hx hb dL_reads_134 (lv_at hl 0 rfl) ?_
    refine lv_if_eq (tgt := 154) hx hb dL_reads_136 (by decide) (fun c_21 => ?_) (fun c_21 => ?_)
    · replace hf := mm_it c_21 hf
      refine lv_iconst (v := (0 : Int32)) hx hb dL_reads_154 (by decide) ?_
      obtain ⟨rfl, rfl⟩ := mm_ret hf
      exact mm_zret (Or.inl rfl) X hP hS dL_reads_155
    · replace hf := mm_if c_21 hf
      exact cx_L_reads_J139 rv σ1 X v4 σ H locs ls hf hP hS (lv_sub hl [1, 2] rfl)
def fx_L_reads_J126   (v4 : Int32) (v6 : Int32) (σ : mm_M) : mm_R := fx_L_reads_J127 v4 v6 (0 : Int32) σ
set_option maxHeartbeats 4000000 in
set_option maxRecDepth 100000 in
theorem cx_L_reads_J126 {p : Program} {l : Launch} {e : Env} {s : State} {m : MethodId} {args : Array Value} {below : List Frame} {meth : Method} {c : Code} {D : va_G} {ad : mm_A} {cA : Nat → ClassId}   (rv : Int32) (σ1 : mm_M)  (X : mm_X p s m args meth c cL_reads 8 (some .boolean) RL D ad cA) : ∀ (v4 : Int32) (v6 : Int32) (σ : mm_M) (H : Heap) (locs : List Loc) (ls : Array Slot), fx_L_reads_J126  v4 v6 σ = some (rv, σ1) → va_P D vwCl (mm_wd ad cA σ) H → va_S (mm_AS ad) s.heap H locs → lv_has ls 8 [(0, .ref (ad 6 9 0)), (4, .int v4), (6, .int v6)] → W p l e (mm_rm 8 181) s m args below meth c H locs 0 0 (MQ below (mm_Q D ad cA (some (.int rv)) σ1) args s 0 0 (mm_AS ad)) (F0 m 126 ls []) := by
  have hx := X.1
  have hb := X.2.1
  have hI := X.2.2.2.2.2.2.2.2.2
  intro v4 v6 σ H locs ls hf hP hS hl
  rw [fx_L_reads_J126] at hf
  refine lv_iconst (v := (0 : Int32)) hx hb dL_reads_126 (by decide) ?_
  exact cx_L_reads_J127 rv σ1 X v4 v6 (0 : Int32) σ H locs ls hf hP hS (lv_sub hl [0, 1, 2] rfl)
def fx_L_reads_J105   (v2 : Int32) (v3 : Int32) (v4 : Int32) (v6 : Int32) (σ : mm_M) : mm_R := if v2 = (2 : Int32) then if (-1000001 : Int32) < v3 then fx_L_reads_J126 v4 v6 σ else if v3 ≤ (-1000004 : Int32) then fx_L_reads_J126 v4 v6 σ else fx_L_reads_J127 v4 v6 (1 : Int32) σ else fx_L_reads_J126 v4 v6 σ
set_option maxHeartbeats 4000000 in
set_option maxRecDepth 100000 in
theorem cx_L_reads_J105 {p : Program} {l : Launch} {e : Env} {s : State} {m : MethodId} {args : Array Value} {below : List Frame} {meth : Method} {c : Code} {D : va_G} {ad : mm_A} {cA : Nat → ClassId}   (rv : Int32) (σ1 : mm_M)  (X : mm_X p s m args meth c cL_reads 8 (some .boolean) RL D ad cA) : ∀ (v2 : Int32) (v3 : Int32) (v4 : Int32) (v6 : Int32) (σ : mm_M) (H : Heap) (locs : List Loc) (ls : Array Slot), fx_L_reads_J105  v2 v3 v4 v6 σ = some (rv, σ1) → va_P D vwCl (mm_wd ad cA σ) H → va_S (mm_AS ad) s.heap H locs → lv_has ls 8 [(0, .ref (ad 6 9 0)), (2, .int v2), (3, .int v3), (4, .int v4), (6, .int v6)] → W p l e (mm_rm 8 181) s m args below meth c H locs 0 0 (MQ below (mm_Q D ad cA (some (.int rv)) σ1) args s 0 0 (mm_AS ad)) (F0 m 105 ls []) := by
  have hx := X.1
  have hb := X.2.1
  have hI := X.2.2.2.2.2.2.2.2.2
  intro v2 v3 v4 v6 σ H locs ls hf hP hS hl
  rw [fx_L_reads_J105] at hf
  refine lv_iload_n hx hb dL_reads_105 rfl (lv_at hl 1 rfl) ?_
  refine lv_iconst (v := (2 : Int32)) hx hb dL_reads_106 (by decide) ?_
  refine lv_icmp_ne (tgt := 126) hx hb dL_reads_107 (by decide) (fun c_17 => ?_) (fun c_17 => ?_)
  · replace hf := mm_if c_17 hf
    exact cx_L_reads_J126 rv σ1 X v4 v6 σ H locs ls hf hP hS (lv_sub hl [0, 3, 4] rfl)
  · replace hf := mm_it c_17 hf
    refine lv_iload_n hx hb dL_reads_110 rfl (lv_at hl 2 rfl) ?_
    refine lv_ldc (v := (-1000001 : Int32)) hx hb X.2.2.2.2.2.1 (X.2.2.2.2.2.2.1 _ wd_480) dL_reads_111 ?_
    refine lv_icmp_gt (tgt := 126) hx hb dL_reads_113 (by decide) (fun c_18 => ?_) (fun c_18 => ?_)
    · replace hf := mm_it c_18 hf
      exact cx_L_reads_J126 rv σ1 X v4 v6 σ H locs ls hf hP hS (lv_sub hl [0, 3, 4] rfl)
    · replace hf := mm_if c_18 hf
      refine lv_iload_n hx hb dL_reads_116 rfl (lv_at hl 2 rfl) ?_
      refine lv_ldc (v := (-1000004 : Int32)) hx hb X.2.2.2.2.2.1 (X.2.2.2.2.2.2.1 _ wd_433) dL_reads_117 ?_
      refine lv_icmp_le (tgt := 126) hx hb dL_reads_119 (by decide) (fun c_19 => ?_) (fun c_19 => ?_)
      · replace hf := mm_it c_19 hf
        exact cx_L_reads_J126 rv σ1 X v4 v6 σ H locs ls hf hP hS (lv_sub hl [0, 3, 4] rfl)
      · replace hf := mm_if c_19 hf
        refine lv_iconst (v := (1 : Int32)) hx hb dL_reads_122 (by decide) ?_
        refine lv_goto (tgt := 127) hx hb dL_reads_123 (by decide) ?_
        exact cx_L_reads_J127 rv σ1 X v4 v6 (1 : Int32) σ H locs ls hf hP hS (lv_sub hl [0, 3, 4] rfl)
def fx_L_reads_J69   (v1 : Int32) (v2 : Int32) (v3 : Int32) (v4 : Int32) (v5 : Int32) (w0 : Int32) (σ : mm_M) : mm_R := if v1 < (0 : Int32) then fx_L_reads_J126 v4 w0 σ else if v4 ≤ v1 then fx_L_reads_J126 v4 w0 σ else if v5 = (-1000002 : Int32) then if v2 = (1 : Int32) then if v3 < (0 : Int32) then fx_L_reads_J105 v2 v3 v4 w0 σ else if (v1 + v3) ≤ v4 then fx_L_reads_J127 v4 w0 (1 : Int32) σ else fx_L_reads_J105 v2 v3 v4 w0 σ else fx_L_reads_J105 v2 v3 v4 w0 σ else fx_L_reads_J126 v4 w0 σ
set_option maxHeartbeats 4000000 in
set_option maxRecDepth 100000 in
theorem cx_L_reads_J69 {p : Program} {l : Launch} {e : Env} {s : State} {m : MethodId} {args : Array Value} {below : List Frame} {meth : Method} {c : Code} {D : va_G} {ad : mm_A} {cA : Nat → ClassId}   (rv : Int32) (σ1 : mm_M)  (X : mm_X p s m args meth c cL_reads 8 (some .boolean) RL D ad cA) : ∀ (v1 : Int32) (v2 : Int32) (v3 : Int32) (v4 : Int32) (v5 : Int32) (w0 : Int32) (σ : mm_M) (H : Heap) (locs : List Loc) (ls : Array Slot), fx_L_reads_J69  v1 v2 v3 v4 v5 w0 σ = some (rv, σ1) → va_P D vwCl (mm_wd ad cA σ) H → va_S (mm_AS ad) s.heap H locs → lv_has ls 8 [(0, .ref (ad 6 9 0)), (1, .int v1), (2, .int v2), (3, .int v3), (4, .int v4), (5, .int v5)] → W p l e (mm_rm 8 181) s m args below meth c H locs 0 0 (MQ below (mm_Q D ad cA (some (.int rv)) σ1) args s 0 0 (mm_AS ad)) (F0 m 69 ls [.int w0]) := by
  have hx := X.1
  have hb := X.2.1
  have hI := X.2.2.2.2.2.2.2.2.2
  intro v1 v2 v3 v4 v5 w0 σ H locs ls hf hP hS hl
  rw [fx_L_reads_J69] at hf
  refine lv_istore (lv' := [(6, .int w0), (0, .ref (ad 6 9 0)), (1, .int v1), (2, .int v2), (3, .int v3), (4, .int v4), (5, .int v5)]) hx hb dL_reads_69 hl (by decide) rfl (fun ls hl => ?_)
  refine lv_iload_n hx hb dL_reads_71 rfl (lv_at hl 2 rfl) ?_
  refine lv_if_lt (tgt := 126) hx hb dL_reads_72 (by decide) (fun c_11 => ?_) (fun c_11 => ?_)
  · replace hf := mm_it c_11 hf
    exact cx_L_reads_J126 rv σ1 X v4 w0 σ H locs ls hf hP hS (lv_sub hl [1, 5, 0] rfl)
  · replace hf := mm_if c_11 hf
    refine lv_iload_n hx hb dL_reads_75 rfl (lv_at hl 2 rfl) ?_
    refine lv_iload hx hb dL_reads_76 (lv_at hl 5 rfl) ?_
    refine lv_icmp_ge (tgt := 126) hx hb dL_reads_78 (by decide) (fun c_12 => ?_) (fun c_12 => ?_)
    · replace hf := mm_it c_12 hf
      exact cx_L_reads_J126 rv σ1 X v4 w0 σ H locs ls hf hP hS (lv_sub hl [1, 5, 0] rfl)
    · replace hf := mm_if c_12 hf
      refine lv_iload hx hb dL_reads_81 (lv_at hl 6 rfl) ?_
      refine lv_ldc (v := (-1000002 : Int32)) hx hb X.2.2.2.2.2.1 (X.2.2.2.2.2.2.1 _ wd_481) dL_reads_83 ?_
      refine lv_icmp_ne (tgt := 126) hx hb dL_reads_85 (by decide) (fun c_13 => ?_) (fun c_13 => ?_)
      · replace hf := mm_if c_13 hf
        exact cx_L_reads_J126 rv σ1 X v4 w0 σ H locs ls hf hP hS (lv_sub hl [1, 5, 0] rfl)
      · replace hf := mm_it c_13 hf
        refine lv_iload_n hx hb dL_reads_88 rfl (lv_at hl 3 rfl) ?_
        refine lv_iconst (v := (1 : Int32)) hx hb dL_reads_89 (by decide) ?_
        refine lv_icmp_ne (tgt := 105) hx hb dL_reads_90 (by decide) (fun c_14 => ?_) (fun c_14 => ?_)
        · replace hf := mm_if c_14 hf
          exact cx_L_reads_J105 rv σ1 X v2 v3 v4 w0 σ H locs ls hf hP hS (lv_sub hl [1, 3, 4, 5, 0] rfl)
        · replace hf := mm_it c_14 hf
          refine lv_iload_n hx hb dL_reads_93 rfl (lv_at hl 4 rfl) ?_
          refine lv_if_lt (tgt := 105) hx hb dL_reads_94 (by decide) (fun c_15 => ?_) (fun c_15 => ?_)
          · replace hf := mm_it c_15 hf
            exact cx_L_reads_J105 rv σ1 X v2 v3 v4 w0 σ H locs ls hf hP hS (lv_sub hl [1, 3, 4, 5, 0] rfl)
          · replace hf := mm_if c_15 hf
            refine lv_iload_n hx hb dL_reads_97 rfl (lv_at hl 2 rfl) ?_
            refine lv_iload_n hx hb dL_reads_98 rfl (lv_at hl 4 rfl) ?_
            refine lv_iadd hx hb dL_reads_99 ?_
            refine lv_iload hx hb dL_reads_100 (lv_at hl 5 rfl) ?_
            refine lv_icmp_le (tgt := 122) hx hb dL_reads_102 (by decide) (fun c_16 => ?_) (fun c_16 => ?_)
            · replace hf := mm_it c_16 hf
              refine lv_iconst (v := (1 : Int32)) hx hb dL_reads_122 (by decide) ?_
              refine lv_goto (tgt := 127) hx hb dL_reads_123 (by decide) ?_
              exact cx_L_reads_J127 rv σ1 X v4 w0 (1 : Int32) σ H locs ls hf hP hS (lv_sub hl [1, 5, 0] rfl)
            · replace hf := mm_if c_16 hf
              exact cx_L_reads_J105 rv σ1 X v2 v3 v4 w0 σ H locs ls hf hP hS (lv_sub hl [1, 3, 4, 5, 0] rfl)
def fx_L_reads_J68   (v1 : Int32) (v2 : Int32) (v3 : Int32) (v4 : Int32) (v5 : Int32) (σ : mm_M) : mm_R := fx_L_reads_J69 v1 v2 v3 v4 v5 (0 : Int32) σ
set_option maxHeartbeats 4000000 in
set_option maxRecDepth 100000 in
theorem cx_L_reads_J68 {p : Program} {l : Launch} {e : Env} {s : State} {m : MethodId} {args : Array Value} {below : List Frame} {meth : Method} {c : Code} {D : va_G} {ad : mm_A} {cA : Nat → ClassId}   (rv : Int32) (σ1 : mm_M)  (X : mm_X p s m args meth c cL_reads 8 (some .boolean) RL D ad cA) : ∀ (v1 : Int32) (v2 : Int32) (v3 : Int32) (v4 : Int32) (v5 : Int32) (σ : mm_M) (H : Heap) (locs : List Loc) (ls : Array Slot), fx_L_reads_J68  v1 v2 v3 v4 v5 σ = some (rv, σ1) → va_P D vwCl (mm_wd ad cA σ) H → va_S (mm_AS ad) s.heap H locs → lv_has ls 8 [(0, .ref (ad 6 9 0)), (1, .int v1), (2, .int v2), (3, .int v3), (4, .int v4), (5, .int v5)] → W p l e (mm_rm 8 181) s m args below meth c H locs 0 0 (MQ below (mm_Q D ad cA (some (.int rv)) σ1) args s 0 0 (mm_AS ad)) (F0 m 68 ls []) := by
  have hx := X.1
  have hb := X.2.1
  have hI := X.2.2.2.2.2.2.2.2.2
  intro v1 v2 v3 v4 v5 σ H locs ls hf hP hS hl
  rw [fx_L_reads_J68] at hf
  refine lv_iconst (v := (0 : Int32)) hx hb dL_reads_68 (by decide) ?_
  exact cx_L_reads_J69 rv σ1 X v1 v2 v3 v4 v5 (0 : Int32) σ H locs ls hf hP hS (lv_sub hl [0, 1, 2, 3, 4, 5] rfl)
def fx_L_reads  (σ : mm_M) : mm_R := mm_bd (fx_X10_fault (0 : Int32) σ) fun r_1 s_1 => (mm_bd (fx_X10_fault (1 : Int32) s_1) fun r_2 s_2 => (mm_bd (fx_X10_fault (2 : Int32) s_2) fun r_3 s_3 => (mm_bd (fx_X10_count (8 : Int32) s_3) fun r_4 s_4 => (mm_bd (fx_X10_play  s_4) fun r_5 s_5 => (if r_1 = (-1000004 : Int32) then if r_2 = (-1000004 : Int32) then if r_3 = (-1000004 : Int32) then if r_5 < (0 : Int32) then fx_L_reads_J68 r_1 r_2 r_3 r_4 r_5 s_5 else if r_4 < ((2 : Int32) * r_5) then fx_L_reads_J68 r_1 r_2 r_3 r_4 r_5 s_5 else fx_L_reads_J69 r_1 r_2 r_3 r_4 r_5 (1 : Int32) s_5 else fx_L_reads_J68 r_1 r_2 r_3 r_4 r_5 s_5 else fx_L_reads_J68 r_1 r_2 r_3 r_4 r_5 s_5 else fx_L_reads_J68 r_1 r_2 r_3 r_4 r_5 s_5)))))
set_option maxHeartbeats 4000000 in
set_option maxRecDepth 100000 in
theorem cx_L_reads (l : Launch) (D : va_G) (ad : mm_A) (cA : Nat → ClassId) (hI : mm_Inj ad)   (σ : mm_M) (rv : Int32) (σ1 : mm_M) (hf : fx_L_reads  σ = some (rv, σ1)) : Met l yL_reads (Cond.code yL_reads cL_reads 8 (some .boolean) :: tb) (mm_rm 8 181) (mm_pre D ad cA [.ref (ad 6 9 0)] σ) (mm_Q D ad cA (some (.int rv)) σ1) 0 0 (mm_AS ad) := by
  refine mm_start (by decide +kernel) hI (Nat.le_of_ble_eq_true rfl) ?_
  intro p e s m args below meth c X hP ls hl
  have hl : lv_has ls 8 [(0, .ref (ad 6 9 0))] := hl
  have hx := X.1
  have hb := X.2.1
  have hS : va_S (mm_AS ad) s.heap s.heap [] := va_S.rf
  have hgen : ∀ (H : Heap) (locs : List Loc), va_P D vwCl (mm_wd ad cA σ) H → va_S (mm_AS ad) s.heap H locs → W p l e (mm_rm 8 181) s m args below meth c H locs 0 0 (MQ below (mm_Q D ad cA (some (.int rv)) σ1) args s 0 0 (mm_AS ad)) (F0 m 0 ls []) := by
    intro H locs hP hS
    rw [fx_L_reads] at hf
    refine lv_aload_n hx hb dL_reads_0 rfl (lv_at hl 0 rfl) ?_
    refine lv_iconst (v := (0 : Int32)) hx hb dL_reads_1 (by decide) ?_
    obtain ⟨r_1, s_1, e_1, hf⟩ := mm_bd_ok hf
    refine mm_callV X hP hS hl.1 [.int (0 : Int32)] [] (cx_X10_fault l D ad cA hI (0 : Int32) σ r_1 s_1 e_1) kp_9 rfl rfl wd_743 wd_744 wd_745 wd_1 wd_746 hd_X10_fault ⟨Nat.le_of_ble_eq_true rfl, Nat.le_of_ble_eq_true rfl⟩ rfl (Nat.le_of_ble_eq_true rfl) dL_reads_2 (fun H locs hP hS => ?_)
    refine lv_istore_n (lv' := [(1, .int r_1), (0, .ref (ad 6 9 0))]) hx hb dL_reads_5 rfl hl (by decide) rfl (fun ls hl => ?_)
    refine lv_aload_n hx hb dL_reads_6 rfl (lv_at hl 1 rfl) ?_
    refine lv_iconst (v := (1 : Int32)) hx hb dL_reads_7 (by decide) ?_
    obtain ⟨r_2, s_2, e_2, hf⟩ := mm_bd_ok hf
    refine mm_callV X hP hS hl.1 [.int (1 : Int32)] [] (cx_X10_fault l D ad cA hI (1 : Int32) s_1 r_2 s_2 e_2) kp_9 rfl rfl wd_743 wd_744 wd_745 wd_1 wd_746 hd_X10_fault ⟨Nat.le_of_ble_eq_true rfl, Nat.le_of_ble_eq_true rfl⟩ rfl (Nat.le_of_ble_eq_true rfl) dL_reads_8 (fun H locs hP hS => ?_)
    refine lv_istore_n (lv' := [(2, .int r_2), (1, .int r_1), (0, .ref (ad 6 9 0))]) hx hb dL_reads_11 rfl hl (by decide) rfl (fun ls hl => ?_)
    refine lv_aload_n hx hb dL_reads_12 rfl (lv_at hl 2 rfl) ?_
    refine lv_iconst (v := (2 : Int32)) hx hb dL_reads_13 (by decide) ?_
    obtain ⟨r_3, s_3, e_3, hf⟩ := mm_bd_ok hf
    refine mm_callV X hP hS hl.1 [.int (2 : Int32)] [] (cx_X10_fault l D ad cA hI (2 : Int32) s_2 r_3 s_3 e_3) kp_9 rfl rfl wd_743 wd_744 wd_745 wd_1 wd_746 hd_X10_fault ⟨Nat.le_of_ble_eq_true rfl, Nat.le_of_ble_eq_true rfl⟩ rfl (Nat.le_of_ble_eq_true rfl) dL_reads_14 (fun H locs hP hS => ?_)
    refine lv_istore_n (lv' := [(3, .int r_3), (2, .int r_2), (1, .int r_1), (0, .ref (ad 6 9 0))]) hx hb dL_reads_17 rfl hl (by decide) rfl (fun ls hl => ?_)
    refine lv_aload_n hx hb dL_reads_18 rfl (lv_at hl 3 rfl) ?_
    refine lv_bipush (v := (8 : Int32)) hx hb dL_reads_19 (by decide) ?_
    obtain ⟨r_4, s_4, e_4, hf⟩ := mm_bd_ok hf
    refine mm_callV X hP hS hl.1 [.int (8 : Int32)] [] (cx_X10_count l D ad cA hI (8 : Int32) s_3 r_4 s_4 e_4) kp_9 rfl rfl wd_305 wd_306 wd_307 wd_1 wd_308 hd_X10_count ⟨Nat.le_of_ble_eq_true rfl, Nat.le_of_ble_eq_true rfl⟩ rfl (Nat.le_of_ble_eq_true rfl) dL_reads_21 (fun H locs hP hS => ?_)
    refine lv_istore (lv' := [(4, .int r_4), (3, .int r_3), (2, .int r_2), (1, .int r_1), (0, .ref (ad 6 9 0))]) hx hb dL_reads_24 hl (by decide) rfl (fun ls hl => ?_)
    refine lv_aload_n hx hb dL_reads_26 rfl (lv_at hl 4 rfl) ?_
    obtain ⟨r_5, s_5, e_5, hf⟩ := mm_bd_ok hf
    refine mm_callV X hP hS hl.1 [] [] (cx_X10_play l D ad cA hI  s_4 r_5 s_5 e_5) kp_9 rfl rfl wd_781 wd_782 wd_783 wd_1 wd_784 hd_X10_play ⟨Nat.le_of_ble_eq_true rfl, Nat.le_of_ble_eq_true rfl⟩ rfl (Nat.le_of_ble_eq_true rfl) dL_reads_27 (fun H locs hP hS => ?_)
    refine lv_istore (lv' := [(5, .int r_5), (4, .int r_4), (3, .int r_3), (2, .int r_2), (1, .int r_1), (0, .ref (ad 6 9 0))]) hx hb dL_reads_30 hl (by decide) rfl (fun ls hl => ?_)
    refine lv_iload_n hx hb dL_reads_32 rfl (lv_at hl 4 rfl) ?_
    refine lv_ldc (v := (-1000004 : Int32)) hx hb X.2.2.2.2.2.1 (X.2.2.2.2.2.2.1 _ wd_433) dL_reads_33 ?_
    refine lv_icmp_ne (tgt := 68) hx hb dL_reads_35 (by decide) (fun c_6 => ?_) (fun c_6 => ?_)
    · replace hf := mm_if c_6 hf
      exact cx_L_reads_J68 rv σ1 X r_1 r_2 r_3 r_4 r_5 s_5 H locs ls hf hP hS (lv_sub hl [5, 4, 3, 2, 1, 0] rfl)
    · replace hf := mm_it c_6 hf
      refine lv_iload_n hx hb dL_reads_38 rfl (lv_at hl 3 rfl) ?_
      refine lv_ldc (v := (-1000004 : Int32)) hx hb X.2.2.2.2.2.1 (X.2.2.2.2.2.2.1 _ wd_433) dL_reads_39 ?_
      refine lv_icmp_ne (tgt := 68) hx hb dL_reads_41 (by decide) (fun c_7 => ?_) (fun c_7 => ?_)
      · replace hf := mm_if c_7 hf
        exact cx_L_reads_J68 rv σ1 X r_1 r_2 r_3 r_4 r_5 s_5 H locs ls hf hP hS (lv_sub hl [5, 4, 3, 2, 1, 0] rfl)
      · replace hf := mm_it c_7 hf
        refine lv_iload_n hx hb dL_reads_44 rfl (lv_at hl 2 rfl) ?_
        refine lv_ldc (v := (-1000004 : Int32)) hx hb X.2.2.2.2.2.1 (X.2.2.2.2.2.2.1 _ wd_433) dL_reads_45 ?_
        refine lv_icmp_ne (tgt := 68) hx hb dL_reads_47 (by decide) (fun c_8 => ?_) (fun c_8 => ?_)
        · replace hf := mm_if c_8 hf
          exact cx_L_reads_J68 rv σ1 X r_1 r_2 r_3 r_4 r_5 s_5 H locs ls hf hP hS (lv_sub hl [5, 4, 3, 2, 1, 0] rfl)
        · replace hf := mm_it c_8 hf
          refine lv_iload hx hb dL_reads_50 (lv_at hl 0 rfl) ?_
          refine lv_if_lt (tgt := 68) hx hb dL_reads_52 (by decide) (fun c_9 => ?_) (fun c_9 => ?_)
          · replace hf := mm_it c_9 hf
            exact cx_L_reads_J68 rv σ1 X r_1 r_2 r_3 r_4 r_5 s_5 H locs ls hf hP hS (lv_sub hl [5, 4, 3, 2, 1, 0] rfl)
          · replace hf := mm_if c_9 hf
            refine lv_iconst (v := (2 : Int32)) hx hb dL_reads_55 (by decide) ?_
            refine lv_iload hx hb dL_reads_56 (lv_at hl 0 rfl) ?_
            refine lv_imul hx hb dL_reads_58 ?_
            refine lv_iload hx hb dL_reads_59 (lv_at hl 1 rfl) ?_
            refine lv_icmp_gt (tgt := 68) hx hb dL_reads_61 (by decide) (fun c_10 => ?_) (fun c_10 => ?_)
            · replace hf := mm_it c_10 hf
              exact cx_L_reads_J68 rv σ1 X r_1 r_2 r_3 r_4 r_5 s_5 H locs ls hf hP hS (lv_sub hl [5, 4, 3, 2, 1, 0] rfl)
            · replace hf := mm_if c_10 hf
              refine lv_iconst (v := (1 : Int32)) hx hb dL_reads_64 (by decide) ?_
              refine lv_goto (tgt := 69) hx hb dL_reads_65 (by decide) ?_
              exact cx_L_reads_J69 rv σ1 X r_1 r_2 r_3 r_4 r_5 (1 : Int32) s_5 H locs ls hf hP hS (lv_sub hl [5, 4, 3, 2, 1, 0] rfl)
  exact hgen _ _ hP hS
def fx_L_acts_J166 (x1 : Int32) (x2 : Int32)  (w0 : Int32) (w1 : Int32) (σ : mm_M) : mm_R := if w0 = w1 then some ((1 : Int32), σ) else some ((0 : Int32), σ)
set_option maxHeartbeats 4000000 in
set_option maxRecDepth 100000 in
theorem cx_L_acts_J166 {p : Program} {l : Launch} {e : Env} {s : State} {m : MethodId} {args : Array Value} {below : List Frame} {meth : Method} {c : Code} {D : va_G} {ad : mm_A} {cA : Nat → ClassId} (x1 : Int32) (x2 : Int32)  (rv : Int32) (σ1 : mm_M)  (X : mm_X p s m args meth c cL_acts 15 (some .boolean) RL D ad cA) : ∀ (w0 : Int32) (w1 : Int32) (σ : mm_M) (H : Heap) (locs : List Loc) (ls : Array Slot), fx_L_acts_J166 x1 x2 w0 w1 σ = some (rv, σ1) → va_P D vwCl (mm_wd ad cA σ) H → va_S (mm_AS ad) s.heap H locs → lv_has ls 15 [] → W p l e (mm_rm 9 208) s m args below meth c H locs 0 0 (MQ below (mm_Q D ad cA (some (.int rv)) σ1) args s 0 0 (mm_AS ad)) (F0 m 166 ls [.int w1, .int w0]) := by
  have hx := X.1
  have hb := X.2.1
  have hI := X.2.2.2.2.2.2.2.2.2
  intro w0 w1 σ H locs ls hf hP hS hl
  rw [fx_L_acts_J166] at hf
  refine lv_icmp_ne (tgt := 173) hx hb dL_acts_166 (by decide) (fun c_124 => ?_) (fun c_124 => ?_)
  · replace hf := mm_if c_124 hf
    refine lv_iconst (v := (0 : Int32)) hx hb dL_acts_173 (by decide) ?_
    obtain ⟨rfl, rfl⟩ := mm_ret hf
    exact mm_zret (Or.inl rfl) X hP hS dL_acts_174
  · replace hf := mm_it c_124 hf
    refine lv_iconst (v := (1 : Int32)) hx hb dL_acts_169 (by decide) ?_
    refine lv_goto (tgt := 174) hx hb dL_acts_170 (by decide) ?_
    obtain ⟨rfl, rfl⟩ := mm_ret hf
    exact mm_zret (Or.inr rfl) X hP hS dL_acts_174
def fx_L_acts_J123 (x1 : Int32) (x2 : Int32)  (v4 : Int32) (v6 : Int32) (v9 : Int32) (v10 : Int32) (w0 : Int32) (σ : mm_M) : mm_R := mm_bd (fx_X10_cart v6 v9 σ) fun r_118 s_118 => (if v10 = (0 : Int32) then if w0 = (0 : Int32) then if v4 = (4 : Int32) then fx_L_acts_J166 x1 x2 r_118 (-1000003 : Int32) s_118 else fx_L_acts_J166 x1 x2 r_118 v4 s_118 else fx_L_acts_J166 x1 x2 r_118 (-1000002 : Int32) s_118 else fx_L_acts_J166 x1 x2 r_118 (-1000001 : Int32) s_118)
set_option maxHeartbeats 4000000 in
set_option maxRecDepth 100000 in
theorem cx_L_acts_J123 {p : Program} {l : Launch} {e : Env} {s : State} {m : MethodId} {args : Array Value} {below : List Frame} {meth : Method} {c : Code} {D : va_G} {ad : mm_A} {cA : Nat → ClassId} (x1 : Int32) (x2 : Int32)  (rv : Int32) (σ1 : mm_M)  (X : mm_X p s m args meth c cL_acts 15 (some .boolean) RL D ad cA) : ∀ (v4 : Int32) (v6 : Int32) (v9 : Int32) (v10 : Int32) (w0 : Int32) (σ : mm_M) (H : Heap) (locs : List Loc) (ls : Array Slot), fx_L_acts_J123 x1 x2 v4 v6 v9 v10 w0 σ = some (rv, σ1) → va_P D vwCl (mm_wd ad cA σ) H → va_S (mm_AS ad) s.heap H locs → lv_has ls 15 [(0, .ref (ad 6 9 0)), (4, .int v4), (6, .int v6), (9, .int v9), (10, .int v10)] → W p l e (mm_rm 9 208) s m args below meth c H locs 0 0 (MQ below (mm_Q D ad cA (some (.int rv)) σ1) args s 0 0 (mm_AS ad)) (F0 m 123 ls [.int w0]) := by
  have hx := X.1
  have hb := X.2.1
  have hI := X.2.2.2.2.2.2.2.2.2
  intro v4 v6 v9 v10 w0 σ H locs ls hf hP hS hl
  rw [fx_L_acts_J123] at hf
  refine lv_istore (lv' := [(11, .int w0), (0, .ref (ad 6 9 0)), (4, .int v4), (6, .int v6), (9, .int v9), (10, .int v10)]) hx hb dL_acts_123 hl (by decide) rfl (fun ls hl => ?_)
  refine lv_aload_n hx hb dL_acts_125 rfl (lv_at hl 1 rfl) ?_
  refine lv_iload hx hb dL_acts_126 (lv_at hl 3 rfl) ?_
  refine lv_iload hx hb dL_acts_128 (lv_at hl 4 rfl) ?_
  obtain ⟨r_118, s_118, e_118, hf⟩ := mm_bd_ok hf
  refine mm_callV X hP hS hl.1 [.int v6, .int v9] [] (cx_X10_cart l D ad cA hI v6 v9 σ r_118 s_118 e_118) kp_9 rfl rfl wd_437 wd_438 wd_439 wd_1 wd_440 hd_X10_cart ⟨Nat.le_of_ble_eq_true rfl, Nat.le_of_ble_eq_true rfl⟩ rfl (Nat.le_of_ble_eq_true rfl) dL_acts_130 (fun H locs hP hS => ?_)
  refine lv_iload hx hb dL_acts_133 (lv_at hl 5 rfl) ?_
  refine lv_if_eq (tgt := 143) hx hb dL_acts_135 (by decide) (fun c_119 => ?_) (fun c_119 => ?_)
  · replace hf := mm_it c_119 hf
    refine lv_iload hx hb dL_acts_143 (lv_at hl 0 rfl) ?_
    refine lv_if_eq (tgt := 153) hx hb dL_acts_145 (by decide) (fun c_120 => ?_) (fun c_120 => ?_)
    · replace hf := mm_it c_120 hf
      refine lv_iload hx hb dL_acts_153 (lv_at hl 2 rfl) ?_
      refine lv_iconst (v := (4 : Int32)) hx hb dL_acts_155 (by decide) ?_
      refine lv_icmp_ne (tgt := 164) hx hb dL_acts_156 (by decide) (fun c_121 => ?_) (fun c_121 => ?_)
      · replace hf := mm_if c_121 hf
        refine lv_iload hx hb dL_acts_164 (lv_at hl 2 rfl) ?_
        exact cx_L_acts_J166 x1 x2 rv σ1 X r_118 v4 s_118 H locs ls hf hP hS (lv_sub hl [] rfl)
      · replace hf := mm_it c_121 hf
        refine lv_ldc (v := (-1000003 : Int32)) hx hb X.2.2.2.2.2.1 (X.2.2.2.2.2.2.1 _ wd_482) dL_acts_159 ?_
        refine lv_goto (tgt := 166) hx hb dL_acts_161 (by decide) ?_
        exact cx_L_acts_J166 x1 x2 rv σ1 X r_118 (-1000003 : Int32) s_118 H locs ls hf hP hS (lv_sub hl [] rfl)
    · replace hf := mm_if c_120 hf
      refine lv_ldc (v := (-1000002 : Int32)) hx hb X.2.2.2.2.2.1 (X.2.2.2.2.2.2.1 _ wd_481) dL_acts_148 ?_
      refine lv_goto (tgt := 166) hx hb dL_acts_150 (by decide) ?_
      exact cx_L_acts_J166 x1 x2 rv σ1 X r_118 (-1000002 : Int32) s_118 H locs ls hf hP hS (lv_sub hl [] rfl)
  · replace hf := mm_if c_119 hf
    refine lv_ldc (v := (-1000001 : Int32)) hx hb X.2.2.2.2.2.1 (X.2.2.2.2.2.2.1 _ wd_480) dL_acts_138 ?_
    refine lv_goto (tgt := 166) hx hb dL_acts_140 (by decide) ?_
    exact cx_L_acts_J166 x1 x2 rv σ1 X r_118 (-1000001 : Int32) s_118 H locs ls hf hP hS (lv_sub hl [] rfl)
def fx_L_acts_J92 (x1 : Int32) (x2 : Int32)  (v4 : Int32) (v6 : Int32) (v8 : Int32) (v9 : Int32) (w0 : Int32) (σ : mm_M) : mm_R := mm_bd (fx_X10_cellOf v8 (2 : Int32) σ) fun r_89 s_89 => (if r_89 = (-1000004 : Int32) then mm_bd (fx_X10_cellOf v8 (0 : Int32) s_89) fun r_91 s_91 => (if r_91 = (7 : Int32) then fx_L_acts_J123 x1 x2 v4 v6 v9 w0 (1 : Int32) s_91 else fx_L_acts_J123 x1 x2 v4 v6 v9 w0 (0 : Int32) s_91) else fx_L_acts_J123 x1 x2 v4 v6 v9 w0 (1 : Int32) s_89)
set_option maxHeartbeats 4000000 in
set_option maxRecDepth 100000 in
theorem cx_L_acts_J92 {p : Program} {l : Launch} {e : Env} {s : State} {m : MethodId} {args : Array Value} {below : List Frame} {meth : Method} {c : Code} {D : va_G} {ad : mm_A} {cA : Nat → ClassId} (x1 : Int32) (x2 : Int32)  (rv : Int32) (σ1 : mm_M)  (X : mm_X p s m args meth c cL_acts 15 (some .boolean) RL D ad cA) : ∀ (v4 : Int32) (v6 : Int32) (v8 : Int32) (v9 : Int32) (w0 : Int32) (σ : mm_M) (H : Heap) (locs : List Loc) (ls : Array Slot), fx_L_acts_J92 x1 x2 v4 v6 v8 v9 w0 σ = some (rv, σ1) → va_P D vwCl (mm_wd ad cA σ) H → va_S (mm_AS ad) s.heap H locs → lv_has ls 15 [(0, .ref (ad 6 9 0)), (4, .int v4), (6, .int v6), (8, .int v8), (9, .int v9)] → W p l e (mm_rm 9 208) s m args below meth c H locs 0 0 (MQ below (mm_Q D ad cA (some (.int rv)) σ1) args s 0 0 (mm_AS ad)) (F0 m 92 ls [.int w0]) := by
  have hx := X.1
  have hb := X.2.1
  have hI := X.2.2.2.2.2.2.2.2.2
  intro v4 v6 v8 v9 w0 σ H locs ls hf hP hS hl
  rw [fx_L_acts_J92] at hf
  refine lv_istore (lv' := [(10, .int w0), (0, .ref (ad 6 9 0)), (4, .int v4), (6, .int v6), (8, .int v8), (9, .int v9)]) hx hb dL_acts_92 hl (by decide) rfl (fun ls hl => ?_)
  refine lv_aload_n hx hb dL_acts_94 rfl (lv_at hl 1 rfl) ?_
  refine lv_iload hx hb dL_acts_95 (lv_at hl 4 rfl) ?_
  refine lv_iconst (v := (2 : Int32)) hx hb dL_acts_97 (by decide) ?_
  obtain ⟨r_89, s_89, e_89, hf⟩ := mm_bd_ok hf
  refine mm_callV X hP hS hl.1 [.int v8, .int (2 : Int32)] [] (cx_X10_cellOf l D ad cA hI v8 (2 : Int32) σ r_89 s_89 e_89) kp_9 rfl rfl wd_357 wd_358 wd_359 wd_1 wd_360 hd_X10_cellOf ⟨Nat.le_of_ble_eq_true rfl, Nat.le_of_ble_eq_true rfl⟩ rfl (Nat.le_of_ble_eq_true rfl) dL_acts_98 (fun H locs hP hS => ?_)
  refine lv_ldc (v := (-1000004 : Int32)) hx hb X.2.2.2.2.2.1 (X.2.2.2.2.2.2.1 _ wd_433) dL_acts_101 ?_
  refine lv_icmp_ne (tgt := 118) hx hb dL_acts_103 (by decide) (fun c_90 => ?_) (fun c_90 => ?_)
  · replace hf := mm_if c_90 hf
    refine lv_iconst (v := (1 : Int32)) hx hb dL_acts_118 (by decide) ?_
    refine lv_goto (tgt := 123) hx hb dL_acts_119 (by decide) ?_
    exact cx_L_acts_J123 x1 x2 rv σ1 X v4 v6 v9 w0 (1 : Int32) s_89 H locs ls hf hP hS (lv_sub hl [1, 2, 3, 5, 0] rfl)
  · replace hf := mm_it c_90 hf
    refine lv_aload_n hx hb dL_acts_106 rfl (lv_at hl 1 rfl) ?_
    refine lv_iload hx hb dL_acts_107 (lv_at hl 4 rfl) ?_
    refine lv_iconst (v := (0 : Int32)) hx hb dL_acts_109 (by decide) ?_
    obtain ⟨r_91, s_91, e_91, hf⟩ := mm_bd_ok hf
    refine mm_callV X hP hS hl.1 [.int v8, .int (0 : Int32)] [] (cx_X10_cellOf l D ad cA hI v8 (0 : Int32) s_89 r_91 s_91 e_91) kp_9 rfl rfl wd_357 wd_358 wd_359 wd_1 wd_360 hd_X10_cellOf ⟨Nat.le_of_ble_eq_true rfl, Nat.le_of_ble_eq_true rfl⟩ rfl (Nat.le_of_ble_eq_true rfl) dL_acts_110 (fun H locs hP hS => ?_)
    refine lv_bipush (v := (7 : Int32)) hx hb dL_acts_113 (by decide) ?_
    refine lv_icmp_ne (tgt := 122) hx hb dL_acts_115 (by decide) (fun c_92 => ?_) (fun c_92 => ?_)
    · replace hf := mm_if c_92 hf
      refine lv_iconst (v := (0 : Int32)) hx hb dL_acts_122 (by decide) ?_
      exact cx_L_acts_J123 x1 x2 rv σ1 X v4 v6 v9 w0 (0 : Int32) s_91 H locs ls hf hP hS (lv_sub hl [1, 2, 3, 5, 0] rfl)
    · replace hf := mm_it c_92 hf
      refine lv_iconst (v := (1 : Int32)) hx hb dL_acts_118 (by decide) ?_
      refine lv_goto (tgt := 123) hx hb dL_acts_119 (by decide) ?_
      exact cx_L_acts_J123 x1 x2 rv σ1 X v4 v6 v9 w0 (1 : Int32) s_91 H locs ls hf hP hS (lv_sub hl [1, 2, 3, 5, 0] rfl)
def fx_L_acts_J264 (x1 : Int32) (x2 : Int32)  (w0 : Int32) (w1 : Int32) (σ : mm_M) : mm_R := if w0 = w1 then some ((1 : Int32), σ) else some ((0 : Int32), σ)
set_option maxHeartbeats 4000000 in
set_option maxRecDepth 100000 in
theorem cx_L_acts_J264 {p : Program} {l : Launch} {e : Env} {s : State} {m : MethodId} {args : Array Value} {below : List Frame} {meth : Method} {c : Code} {D : va_G} {ad : mm_A} {cA : Nat → ClassId} (x1 : Int32) (x2 : Int32)  (rv : Int32) (σ1 : mm_M)  (X : mm_X p s m args meth c cL_acts 15 (some .boolean) RL D ad cA) : ∀ (w0 : Int32) (w1 : Int32) (σ : mm_M) (H : Heap) (locs : List Loc) (ls : Array Slot), fx_L_acts_J264 x1 x2 w0 w1 σ = some (rv, σ1) → va_P D vwCl (mm_wd ad cA σ) H → va_S (mm_AS ad) s.heap H locs → lv_has ls 15 [] → W p l e (mm_rm 9 208) s m args below meth c H locs 0 0 (MQ below (mm_Q D ad cA (some (.int rv)) σ1) args s 0 0 (mm_AS ad)) (F0 m 264 ls [.int w1, .int w0]) := by
  have hx := X.1
  have hb := X.2.1
  have hI := X.2.2.2.2.2.2.2.2.2
  intro w0 w1 σ H locs ls hf hP hS hl
  rw [fx_L_acts_J264] at hf
  refine lv_icmp_ne (tgt := 271) hx hb dL_acts_264 (by decide) (fun c_117 => ?_) (fun c_117 => ?_)
  · replace hf := mm_if c_117 hf
    refine lv_iconst (v := (0 : Int32)) hx hb dL_acts_271 (by decide) ?_
    obtain ⟨rfl, rfl⟩ := mm_ret hf
    exact mm_zret (Or.inl rfl) X hP hS dL_acts_272
  · replace hf := mm_it c_117 hf
    refine lv_iconst (v := (1 : Int32)) hx hb dL_acts_267 (by decide) ?_
    refine lv_goto (tgt := 272) hx hb dL_acts_268 (by decide) ?_
    obtain ⟨rfl, rfl⟩ := mm_ret hf
    exact mm_zret (Or.inr rfl) X hP hS dL_acts_272
def fx_L_acts_J262 (x1 : Int32) (x2 : Int32)  (v10 : Int32) (w0 : Int32) (σ : mm_M) : mm_R := fx_L_acts_J264 x1 x2 w0 v10 σ
set_option maxHeartbeats 4000000 in
set_option maxRecDepth 100000 in
theorem cx_L_acts_J262 {p : Program} {l : Launch} {e : Env} {s : State} {m : MethodId} {args : Array Value} {below : List Frame} {meth : Method} {c : Code} {D : va_G} {ad : mm_A} {cA : Nat → ClassId} (x1 : Int32) (x2 : Int32)  (rv : Int32) (σ1 : mm_M)  (X : mm_X p s m args meth c cL_acts 15 (some .boolean) RL D ad cA) : ∀ (v10 : Int32) (w0 : Int32) (σ : mm_M) (H : Heap) (locs : List Loc) (ls : Array Slot), fx_L_acts_J262 x1 x2 v10 w0 σ = some (rv, σ1) → va_P D vwCl (mm_wd ad cA σ) H → va_S (mm_AS ad) s.heap H locs → lv_has ls 15 [(10, .int v10)] → W p l e (mm_rm 9 208) s m args below meth c H locs 0 0 (MQ below (mm_Q D ad cA (some (.int rv)) σ1) args s 0 0 (mm_AS ad)) (F0 m 262 ls [.int w0]) := by
  have hx := X.1
  have hb := X.2.1
  have hI := X.2.2.2.2.2.2.2.2.2
  intro v10 w0 σ H locs ls hf hP hS hl
  rw [fx_L_acts_J262] at hf
  refine lv_iload hx hb dL_acts_262 (lv_at hl 0 rfl) ?_
  exact cx_L_acts_J264 x1 x2 rv σ1 X w0 v10 σ H locs ls hf hP hS (lv_sub hl [] rfl)
def fx_L_acts_J218 (x1 : Int32) (x2 : Int32)  (v6 : Int32) (v7 : Int32) (v9 : Int32) (v10 : Int32) (w0 : Int32) (σ : mm_M) : mm_R := mm_bd (fx_X10_kind v6 v9 σ) fun r_84 s_84 => (if v7 = (0 : Int32) then if v9 = (9 : Int32) then fx_L_acts_J264 x1 x2 r_84 (-1000001 : Int32) s_84 else if v9 = (7 : Int32) then if w0 = (0 : Int32) then fx_L_acts_J262 x1 x2 v10 r_84 s_84 else fx_L_acts_J264 x1 x2 r_84 (-1000002 : Int32) s_84 else fx_L_acts_J262 x1 x2 v10 r_84 s_84 else fx_L_acts_J264 x1 x2 r_84 (-1000001 : Int32) s_84)
set_option maxHeartbeats 4000000 in
set_option maxRecDepth 100000 in
theorem cx_L_acts_J218 {p : Program} {l : Launch} {e : Env} {s : State} {m : MethodId} {args : Array Value} {below : List Frame} {meth : Method} {c : Code} {D : va_G} {ad : mm_A} {cA : Nat → ClassId} (x1 : Int32) (x2 : Int32)  (rv : Int32) (σ1 : mm_M)  (X : mm_X p s m args meth c cL_acts 15 (some .boolean) RL D ad cA) : ∀ (v6 : Int32) (v7 : Int32) (v9 : Int32) (v10 : Int32) (w0 : Int32) (σ : mm_M) (H : Heap) (locs : List Loc) (ls : Array Slot), fx_L_acts_J218 x1 x2 v6 v7 v9 v10 w0 σ = some (rv, σ1) → va_P D vwCl (mm_wd ad cA σ) H → va_S (mm_AS ad) s.heap H locs → lv_has ls 15 [(0, .ref (ad 6 9 0)), (6, .int v6), (7, .int v7), (9, .int v9), (10, .int v10)] → W p l e (mm_rm 9 208) s m args below meth c H locs 0 0 (MQ below (mm_Q D ad cA (some (.int rv)) σ1) args s 0 0 (mm_AS ad)) (F0 m 218 ls [.int w0]) := by
  have hx := X.1
  have hb := X.2.1
  have hI := X.2.2.2.2.2.2.2.2.2
  intro v6 v7 v9 v10 w0 σ H locs ls hf hP hS hl
  rw [fx_L_acts_J218] at hf
  refine lv_istore (lv' := [(11, .int w0), (0, .ref (ad 6 9 0)), (6, .int v6), (7, .int v7), (9, .int v9), (10, .int v10)]) hx hb dL_acts_218 hl (by decide) rfl (fun ls hl => ?_)
  refine lv_aload_n hx hb dL_acts_220 rfl (lv_at hl 1 rfl) ?_
  refine lv_iload hx hb dL_acts_221 (lv_at hl 2 rfl) ?_
  refine lv_iload hx hb dL_acts_223 (lv_at hl 4 rfl) ?_
  obtain ⟨r_84, s_84, e_84, hf⟩ := mm_bd_ok hf
  refine mm_callV X hP hS hl.1 [.int v6, .int v9] [] (cx_X10_kind l D ad cA hI v6 v9 σ r_84 s_84 e_84) kp_9 rfl rfl wd_483 wd_484 wd_485 wd_1 wd_486 hd_X10_kind ⟨Nat.le_of_ble_eq_true rfl, Nat.le_of_ble_eq_true rfl⟩ rfl (Nat.le_of_ble_eq_true rfl) dL_acts_225 (fun H locs hP hS => ?_)
  refine lv_iload hx hb dL_acts_228 (lv_at hl 3 rfl) ?_
  refine lv_if_ne (tgt := 240) hx hb dL_acts_230 (by decide) (fun c_85 => ?_) (fun c_85 => ?_)
  · replace hf := mm_if c_85 hf
    refine lv_ldc (v := (-1000001 : Int32)) hx hb X.2.2.2.2.2.1 (X.2.2.2.2.2.2.1 _ wd_480) dL_acts_240 ?_
    refine lv_goto (tgt := 264) hx hb dL_acts_242 (by decide) ?_
    exact cx_L_acts_J264 x1 x2 rv σ1 X r_84 (-1000001 : Int32) s_84 H locs ls hf hP hS (lv_sub hl [] rfl)
  · replace hf := mm_it c_85 hf
    refine lv_iload hx hb dL_acts_233 (lv_at hl 4 rfl) ?_
    refine lv_bipush (v := (9 : Int32)) hx hb dL_acts_235 (by decide) ?_
    refine lv_icmp_ne (tgt := 245) hx hb dL_acts_237 (by decide) (fun c_86 => ?_) (fun c_86 => ?_)
    · replace hf := mm_if c_86 hf
      refine lv_iload hx hb dL_acts_245 (lv_at hl 4 rfl) ?_
      refine lv_bipush (v := (7 : Int32)) hx hb dL_acts_247 (by decide) ?_
      refine lv_icmp_ne (tgt := 262) hx hb dL_acts_249 (by decide) (fun c_87 => ?_) (fun c_87 => ?_)
      · replace hf := mm_if c_87 hf
        exact cx_L_acts_J262 x1 x2 rv σ1 X v10 r_84 s_84 H locs ls hf hP hS (lv_sub hl [5] rfl)
      · replace hf := mm_it c_87 hf
        refine lv_iload hx hb dL_acts_252 (lv_at hl 0 rfl) ?_
        refine lv_if_eq (tgt := 262) hx hb dL_acts_254 (by decide) (fun c_88 => ?_) (fun c_88 => ?_)
        · replace hf := mm_it c_88 hf
          exact cx_L_acts_J262 x1 x2 rv σ1 X v10 r_84 s_84 H locs ls hf hP hS (lv_sub hl [5] rfl)
        · replace hf := mm_if c_88 hf
          refine lv_ldc (v := (-1000002 : Int32)) hx hb X.2.2.2.2.2.1 (X.2.2.2.2.2.2.1 _ wd_481) dL_acts_257 ?_
          refine lv_goto (tgt := 264) hx hb dL_acts_259 (by decide) ?_
          exact cx_L_acts_J264 x1 x2 rv σ1 X r_84 (-1000002 : Int32) s_84 H locs ls hf hP hS (lv_sub hl [] rfl)
    · replace hf := mm_it c_86 hf
      refine lv_ldc (v := (-1000001 : Int32)) hx hb X.2.2.2.2.2.1 (X.2.2.2.2.2.2.1 _ wd_480) dL_acts_240 ?_
      refine lv_goto (tgt := 264) hx hb dL_acts_242 (by decide) ?_
      exact cx_L_acts_J264 x1 x2 rv σ1 X r_84 (-1000001 : Int32) s_84 H locs ls hf hP hS (lv_sub hl [] rfl)
def fx_L_acts_J331 (x1 : Int32) (x2 : Int32)  (w0 : Int32) (w1 : Int32) (σ : mm_M) : mm_R := if w0 = w1 then some ((1 : Int32), σ) else some ((0 : Int32), σ)
set_option maxHeartbeats 4000000 in
set_option maxRecDepth 100000 in
theorem cx_L_acts_J331 {p : Program} {l : Launch} {e : Env} {s : State} {m : MethodId} {args : Array Value} {below : List Frame} {meth : Method} {c : Code} {D : va_G} {ad : mm_A} {cA : Nat → ClassId} (x1 : Int32) (x2 : Int32)  (rv : Int32) (σ1 : mm_M)  (X : mm_X p s m args meth c cL_acts 15 (some .boolean) RL D ad cA) : ∀ (w0 : Int32) (w1 : Int32) (σ : mm_M) (H : Heap) (locs : List Loc) (ls : Array Slot), fx_L_acts_J331 x1 x2 w0 w1 σ = some (rv, σ1) → va_P D vwCl (mm_wd ad cA σ) H → va_S (mm_AS ad) s.heap H locs → lv_has ls 15 [] → W p l e (mm_rm 9 208) s m args below meth c H locs 0 0 (MQ below (mm_Q D ad cA (some (.int rv)) σ1) args s 0 0 (mm_AS ad)) (F0 m 331 ls [.int w1, .int w0]) := by
  have hx := X.1
  have hb := X.2.1
  have hI := X.2.2.2.2.2.2.2.2.2
  intro w0 w1 σ H locs ls hf hP hS hl
  rw [fx_L_acts_J331] at hf
  refine lv_icmp_ne (tgt := 338) hx hb dL_acts_331 (by decide) (fun c_83 => ?_) (fun c_83 => ?_)
  · replace hf := mm_if c_83 hf
    refine lv_iconst (v := (0 : Int32)) hx hb dL_acts_338 (by decide) ?_
    obtain ⟨rfl, rfl⟩ := mm_ret hf
    exact mm_zret (Or.inl rfl) X hP hS dL_acts_339
  · replace hf := mm_it c_83 hf
    refine lv_iconst (v := (1 : Int32)) hx hb dL_acts_334 (by decide) ?_
    refine lv_goto (tgt := 339) hx hb dL_acts_335 (by decide) ?_
    obtain ⟨rfl, rfl⟩ := mm_ret hf
    exact mm_zret (Or.inr rfl) X hP hS dL_acts_339
def fx_L_acts_J415 (x1 : Int32) (x2 : Int32)  (w0 : Int32) (w1 : Int32) (σ : mm_M) : mm_R := if w0 = w1 then some ((1 : Int32), σ) else some ((0 : Int32), σ)
set_option maxHeartbeats 4000000 in
set_option maxRecDepth 100000 in
theorem cx_L_acts_J415 {p : Program} {l : Launch} {e : Env} {s : State} {m : MethodId} {args : Array Value} {below : List Frame} {meth : Method} {c : Code} {D : va_G} {ad : mm_A} {cA : Nat → ClassId} (x1 : Int32) (x2 : Int32)  (rv : Int32) (σ1 : mm_M)  (X : mm_X p s m args meth c cL_acts 15 (some .boolean) RL D ad cA) : ∀ (w0 : Int32) (w1 : Int32) (σ : mm_M) (H : Heap) (locs : List Loc) (ls : Array Slot), fx_L_acts_J415 x1 x2 w0 w1 σ = some (rv, σ1) → va_P D vwCl (mm_wd ad cA σ) H → va_S (mm_AS ad) s.heap H locs → lv_has ls 15 [] → W p l e (mm_rm 9 208) s m args below meth c H locs 0 0 (MQ below (mm_Q D ad cA (some (.int rv)) σ1) args s 0 0 (mm_AS ad)) (F0 m 415 ls [.int w1, .int w0]) := by
  have hx := X.1
  have hb := X.2.1
  have hI := X.2.2.2.2.2.2.2.2.2
  intro w0 w1 σ H locs ls hf hP hS hl
  rw [fx_L_acts_J415] at hf
  refine lv_icmp_ne (tgt := 422) hx hb dL_acts_415 (by decide) (fun c_82 => ?_) (fun c_82 => ?_)
  · replace hf := mm_if c_82 hf
    refine lv_iconst (v := (0 : Int32)) hx hb dL_acts_422 (by decide) ?_
    obtain ⟨rfl, rfl⟩ := mm_ret hf
    exact mm_zret (Or.inl rfl) X hP hS dL_acts_423
  · replace hf := mm_it c_82 hf
    refine lv_iconst (v := (1 : Int32)) hx hb dL_acts_418 (by decide) ?_
    refine lv_goto (tgt := 423) hx hb dL_acts_419 (by decide) ?_
    obtain ⟨rfl, rfl⟩ := mm_ret hf
    exact mm_zret (Or.inr rfl) X hP hS dL_acts_423
def fx_L_acts_J539 (x1 : Int32) (x2 : Int32)  (v5 : Int32) (v9 : Int32) (v10 : Int32) (v11 : Int32) (v12 : Int32) (w0 : Int32) (σ : mm_M) : mm_R := mm_bd (fx_X10_card v5 v9 v10 v11 σ) fun r_106 s_106 => (if v12 = (0 : Int32) then if w0 = (0 : Int32) then if r_106 ≤ (0 : Int32) then some ((0 : Int32), s_106) else if (6 : Int32) ≤ r_106 then some ((0 : Int32), s_106) else mm_bd (fx_X10_cardOf v5 v9 (0 : Int32) s_106) fun r_111 s_111 => (if r_111 = v10 then mm_bd (fx_X10_cardOf v5 v9 (1 : Int32) s_111) fun r_113 s_113 => (if r_113 = v11 then some ((1 : Int32), s_113) else some ((0 : Int32), s_113)) else some ((0 : Int32), s_111)) else if r_106 = (-1000002 : Int32) then some ((1 : Int32), s_106) else some ((0 : Int32), s_106) else if r_106 = (-1000001 : Int32) then some ((1 : Int32), s_106) else some ((0 : Int32), s_106))
set_option maxHeartbeats 4000000 in
set_option maxRecDepth 100000 in
theorem cx_L_acts_J539 {p : Program} {l : Launch} {e : Env} {s : State} {m : MethodId} {args : Array Value} {below : List Frame} {meth : Method} {c : Code} {D : va_G} {ad : mm_A} {cA : Nat → ClassId} (x1 : Int32) (x2 : Int32)  (rv : Int32) (σ1 : mm_M)  (X : mm_X p s m args meth c cL_acts 15 (some .boolean) RL D ad cA) : ∀ (v5 : Int32) (v9 : Int32) (v10 : Int32) (v11 : Int32) (v12 : Int32) (w0 : Int32) (σ : mm_M) (H : Heap) (locs : List Loc) (ls : Array Slot), fx_L_acts_J539 x1 x2 v5 v9 v10 v11 v12 w0 σ = some (rv, σ1) → va_P D vwCl (mm_wd ad cA σ) H → va_S (mm_AS ad) s.heap H locs → lv_has ls 15 [(0, .ref (ad 6 9 0)), (5, .int v5), (9, .int v9), (10, .int v10), (11, .int v11), (12, .int v12)] → W p l e (mm_rm 9 208) s m args below meth c H locs 0 0 (MQ below (mm_Q D ad cA (some (.int rv)) σ1) args s 0 0 (mm_AS ad)) (F0 m 539 ls [.int w0]) := by
  have hx := X.1
  have hb := X.2.1
  have hI := X.2.2.2.2.2.2.2.2.2
  intro v5 v9 v10 v11 v12 w0 σ H locs ls hf hP hS hl
  rw [fx_L_acts_J539] at hf
  refine lv_istore (lv' := [(13, .int w0), (0, .ref (ad 6 9 0)), (5, .int v5), (9, .int v9), (10, .int v10), (11, .int v11), (12, .int v12)]) hx hb dL_acts_539 hl (by decide) rfl (fun ls hl => ?_)
  refine lv_aload_n hx hb dL_acts_541 rfl (lv_at hl 1 rfl) ?_
  refine lv_iload hx hb dL_acts_542 (lv_at hl 2 rfl) ?_
  refine lv_iload hx hb dL_acts_544 (lv_at hl 3 rfl) ?_
  refine lv_iload hx hb dL_acts_546 (lv_at hl 4 rfl) ?_
  refine lv_iload hx hb dL_acts_548 (lv_at hl 5 rfl) ?_
  obtain ⟨r_106, s_106, e_106, hf⟩ := mm_bd_ok hf
  refine mm_callV X hP hS hl.1 [.int v5, .int v9, .int v10, .int v11] [] (cx_X10_card l D ad cA hI v5 v9 v10 v11 σ r_106 s_106 e_106) kp_9 rfl rfl wd_527 wd_528 wd_529 wd_1 wd_530 hd_X10_card ⟨Nat.le_of_ble_eq_true rfl, Nat.le_of_ble_eq_true rfl⟩ rfl (Nat.le_of_ble_eq_true rfl) dL_acts_550 (fun H locs hP hS => ?_)
  refine lv_istore (lv' := [(14, .int r_106), (13, .int w0), (0, .ref (ad 6 9 0)), (5, .int v5), (9, .int v9), (10, .int v10), (11, .int v11), (12, .int v12)]) hx hb dL_acts_553 hl (by decide) rfl (fun ls hl => ?_)
  refine lv_iload hx hb dL_acts_555 (lv_at hl 7 rfl) ?_
  refine lv_if_eq (tgt := 575) hx hb dL_acts_557 (by decide) (fun c_107 => ?_) (fun c_107 => ?_)
  · replace hf := mm_it c_107 hf
    refine lv_iload hx hb dL_acts_575 (lv_at hl 1 rfl) ?_
    refine lv_if_eq (tgt := 595) hx hb dL_acts_577 (by decide) (fun c_108 => ?_) (fun c_108 => ?_)
    · replace hf := mm_it c_108 hf
      refine lv_iload hx hb dL_acts_595 (lv_at hl 0 rfl) ?_
      refine lv_if_le (tgt := 639) hx hb dL_acts_597 (by decide) (fun c_109 => ?_) (fun c_109 => ?_)
      · replace hf := mm_it c_109 hf
        refine lv_iconst (v := (0 : Int32)) hx hb dL_acts_639 (by decide) ?_
        obtain ⟨rfl, rfl⟩ := mm_ret hf
        exact mm_zret (Or.inl rfl) X hP hS dL_acts_640
      · replace hf := mm_if c_109 hf
        refine lv_iload hx hb dL_acts_600 (lv_at hl 0 rfl) ?_
        refine lv_bipush (v := (6 : Int32)) hx hb dL_acts_602 (by decide) ?_
        refine lv_icmp_ge (tgt := 639) hx hb dL_acts_604 (by decide) (fun c_110 => ?_) (fun c_110 => ?_)
        · replace hf := mm_it c_110 hf
          refine lv_iconst (v := (0 : Int32)) hx hb dL_acts_639 (by decide) ?_
          obtain ⟨rfl, rfl⟩ := mm_ret hf
          exact mm_zret (Or.inl rfl) X hP hS dL_acts_640
        · replace hf := mm_if c_110 hf
          refine lv_aload_n hx hb dL_acts_607 rfl (lv_at hl 2 rfl) ?_
          refine lv_iload hx hb dL_acts_608 (lv_at hl 3 rfl) ?_
          refine lv_iload hx hb dL_acts_610 (lv_at hl 4 rfl) ?_
          refine lv_iconst (v := (0 : Int32)) hx hb dL_acts_612 (by decide) ?_
          obtain ⟨r_111, s_111, e_111, hf⟩ := mm_bd_ok hf
          refine mm_callV X hP hS hl.1 [.int v5, .int v9, .int (0 : Int32)] [] (cx_X10_cardOf l D ad cA hI v5 v9 (0 : Int32) s_106 r_111 s_111 e_111) kp_9 rfl rfl wd_419 wd_420 wd_421 wd_1 wd_422 hd_X10_cardOf ⟨Nat.le_of_ble_eq_true rfl, Nat.le_of_ble_eq_true rfl⟩ rfl (Nat.le_of_ble_eq_true rfl) dL_acts_613 (fun H locs hP hS => ?_)
          refine lv_iload hx hb dL_acts_616 (lv_at hl 5 rfl) ?_
          refine lv_icmp_ne (tgt := 639) hx hb dL_acts_618 (by decide) (fun c_112 => ?_) (fun c_112 => ?_)
          · replace hf := mm_if c_112 hf
            refine lv_iconst (v := (0 : Int32)) hx hb dL_acts_639 (by decide) ?_
            obtain ⟨rfl, rfl⟩ := mm_ret hf
            exact mm_zret (Or.inl rfl) X hP hS dL_acts_640
          · replace hf := mm_it c_112 hf
            refine lv_aload_n hx hb dL_acts_621 rfl (lv_at hl 2 rfl) ?_
            refine lv_iload hx hb dL_acts_622 (lv_at hl 3 rfl) ?_
            refine lv_iload hx hb dL_acts_624 (lv_at hl 4 rfl) ?_
            refine lv_iconst (v := (1 : Int32)) hx hb dL_acts_626 (by decide) ?_
            obtain ⟨r_113, s_113, e_113, hf⟩ := mm_bd_ok hf
            refine mm_callV X hP hS hl.1 [.int v5, .int v9, .int (1 : Int32)] [] (cx_X10_cardOf l D ad cA hI v5 v9 (1 : Int32) s_111 r_113 s_113 e_113) kp_9 rfl rfl wd_419 wd_420 wd_421 wd_1 wd_422 hd_X10_cardOf ⟨Nat.le_of_ble_eq_true rfl, Nat.le_of_ble_eq_true rfl⟩ rfl (Nat.le_of_ble_eq_true rfl) dL_acts_627 (fun H locs hP hS => ?_)
            refine lv_iload hx hb dL_acts_630 (lv_at hl 6 rfl) ?_
            refine lv_icmp_ne (tgt := 639) hx hb dL_acts_632 (by decide) (fun c_114 => ?_) (fun c_114 => ?_)
            · replace hf := mm_if c_114 hf
              refine lv_iconst (v := (0 : Int32)) hx hb dL_acts_639 (by decide) ?_
              obtain ⟨rfl, rfl⟩ := mm_ret hf
              exact mm_zret (Or.inl rfl) X hP hS dL_acts_640
            · replace hf := mm_it c_114 hf
              refine lv_iconst (v := (1 : Int32)) hx hb dL_acts_635 (by decide) ?_
              refine lv_goto (tgt := 640) hx hb dL_acts_636 (by decide) ?_
              obtain ⟨rfl, rfl⟩ := mm_ret hf
              exact mm_zret (Or.inr rfl) X hP hS dL_acts_640
    · replace hf := mm_if c_108 hf
      refine lv_iload hx hb dL_acts_580 (lv_at hl 0 rfl) ?_
      refine lv_ldc (v := (-1000002 : Int32)) hx hb X.2.2.2.2.2.1 (X.2.2.2.2.2.2.1 _ wd_481) dL_acts_582 ?_
      refine lv_icmp_ne (tgt := 591) hx hb dL_acts_584 (by decide) (fun c_115 => ?_) (fun c_115 => ?_)
      · replace hf := mm_if c_115 hf
        refine lv_iconst (v := (0 : Int32)) hx hb dL_acts_591 (by decide) ?_
        refine lv_goto (tgt := 640) hx hb dL_acts_592 (by decide) ?_
        obtain ⟨rfl, rfl⟩ := mm_ret hf
        exact mm_zret (Or.inl rfl) X hP hS dL_acts_640
      · replace hf := mm_it c_115 hf
        refine lv_iconst (v := (1 : Int32)) hx hb dL_acts_587 (by decide) ?_
        refine lv_goto (tgt := 640) hx hb dL_acts_588 (by decide) ?_
        obtain ⟨rfl, rfl⟩ := mm_ret hf
        exact mm_zret (Or.inr rfl) X hP hS dL_acts_640
  · replace hf := mm_if c_107 hf
    refine lv_iload hx hb dL_acts_560 (lv_at hl 0 rfl) ?_
    refine lv_ldc (v := (-1000001 : Int32)) hx hb X.2.2.2.2.2.1 (X.2.2.2.2.2.2.1 _ wd_480) dL_acts_562 ?_
    refine lv_icmp_ne (tgt := 571) hx hb dL_acts_564 (by decide) (fun c_116 => ?_) (fun c_116 => ?_)
    · replace hf := mm_if c_116 hf
      refine lv_iconst (v := (0 : Int32)) hx hb dL_acts_571 (by decide) ?_
      refine lv_goto (tgt := 640) hx hb dL_acts_572 (by decide) ?_
      obtain ⟨rfl, rfl⟩ := mm_ret hf
      exact mm_zret (Or.inl rfl) X hP hS dL_acts_640
    · replace hf := mm_it c_116 hf
      refine lv_iconst (v := (1 : Int32)) hx hb dL_acts_567 (by decide) ?_
      refine lv_goto (tgt := 640) hx hb dL_acts_568 (by decide) ?_
      obtain ⟨rfl, rfl⟩ := mm_ret hf
      exact mm_zret (Or.inr rfl) X hP hS dL_acts_640
def fx_L_acts_J538 (x1 : Int32) (x2 : Int32)  (v5 : Int32) (v9 : Int32) (v10 : Int32) (v11 : Int32) (v12 : Int32) (σ : mm_M) : mm_R := fx_L_acts_J539 x1 x2 v5 v9 v10 v11 v12 (0 : Int32) σ
set_option maxHeartbeats 4000000 in
set_option maxRecDepth 100000 in
theorem cx_L_acts_J538 {p : Program} {l : Launch} {e : Env} {s : State} {m : MethodId} {args : Array Value} {below : List Frame} {meth : Method} {c : Code} {D : va_G} {ad : mm_A} {cA : Nat → ClassId} (x1 : Int32) (x2 : Int32)  (rv : Int32) (σ1 : mm_M)  (X : mm_X p s m args meth c cL_acts 15 (some .boolean) RL D ad cA) : ∀ (v5 : Int32) (v9 : Int32) (v10 : Int32) (v11 : Int32) (v12 : Int32) (σ : mm_M) (H : Heap) (locs : List Loc) (ls : Array Slot), fx_L_acts_J538 x1 x2 v5 v9 v10 v11 v12 σ = some (rv, σ1) → va_P D vwCl (mm_wd ad cA σ) H → va_S (mm_AS ad) s.heap H locs → lv_has ls 15 [(0, .ref (ad 6 9 0)), (5, .int v5), (9, .int v9), (10, .int v10), (11, .int v11), (12, .int v12)] → W p l e (mm_rm 9 208) s m args below meth c H locs 0 0 (MQ below (mm_Q D ad cA (some (.int rv)) σ1) args s 0 0 (mm_AS ad)) (F0 m 538 ls []) := by
  have hx := X.1
  have hb := X.2.1
  have hI := X.2.2.2.2.2.2.2.2.2
  intro v5 v9 v10 v11 v12 σ H locs ls hf hP hS hl
  rw [fx_L_acts_J538] at hf
  refine lv_iconst (v := (0 : Int32)) hx hb dL_acts_538 (by decide) ?_
  exact cx_L_acts_J539 x1 x2 rv σ1 X v5 v9 v10 v11 v12 (0 : Int32) σ H locs ls hf hP hS (lv_sub hl [0, 1, 2, 3, 4, 5] rfl)
def fx_L_acts_J489 (x1 : Int32) (x2 : Int32)  (v5 : Int32) (v9 : Int32) (v10 : Int32) (v11 : Int32) (w0 : Int32) (σ : mm_M) : mm_R := if w0 = (0 : Int32) then mm_bd (fx_X10_cartOf v5 (0 : Int32) σ) fun r_76 s_76 => (if r_76 = (-1000004 : Int32) then fx_L_acts_J539 x1 x2 v5 v9 v10 v11 w0 (1 : Int32) s_76 else mm_bd (fx_X10_cartOf v5 (5 : Int32) s_76) fun r_78 s_78 => (if ((r_78 >>> (v9 &&& 31)) &&& (1 : Int32)) = (1 : Int32) then fx_L_acts_J539 x1 x2 v5 v9 v10 v11 w0 (1 : Int32) s_78 else mm_bd (fx_X10_count (1 : Int32) s_78) fun r_80 s_80 => (if r_80 ≤ v9 then fx_L_acts_J538 x1 x2 v5 v9 v10 v11 w0 s_80 else fx_L_acts_J539 x1 x2 v5 v9 v10 v11 w0 (1 : Int32) s_80))) else fx_L_acts_J538 x1 x2 v5 v9 v10 v11 w0 σ
set_option maxHeartbeats 4000000 in
set_option maxRecDepth 100000 in
theorem cx_L_acts_J489 {p : Program} {l : Launch} {e : Env} {s : State} {m : MethodId} {args : Array Value} {below : List Frame} {meth : Method} {c : Code} {D : va_G} {ad : mm_A} {cA : Nat → ClassId} (x1 : Int32) (x2 : Int32)  (rv : Int32) (σ1 : mm_M)  (X : mm_X p s m args meth c cL_acts 15 (some .boolean) RL D ad cA) : ∀ (v5 : Int32) (v9 : Int32) (v10 : Int32) (v11 : Int32) (w0 : Int32) (σ : mm_M) (H : Heap) (locs : List Loc) (ls : Array Slot), fx_L_acts_J489 x1 x2 v5 v9 v10 v11 w0 σ = some (rv, σ1) → va_P D vwCl (mm_wd ad cA σ) H → va_S (mm_AS ad) s.heap H locs → lv_has ls 15 [(0, .ref (ad 6 9 0)), (5, .int v5), (9, .int v9), (10, .int v10), (11, .int v11)] → W p l e (mm_rm 9 208) s m args below meth c H locs 0 0 (MQ below (mm_Q D ad cA (some (.int rv)) σ1) args s 0 0 (mm_AS ad)) (F0 m 489 ls [.int w0]) := by
  have hx := X.1
  have hb := X.2.1
  have hI := X.2.2.2.2.2.2.2.2.2
  intro v5 v9 v10 v11 w0 σ H locs ls hf hP hS hl
  rw [fx_L_acts_J489] at hf
  refine lv_istore (lv' := [(12, .int w0), (0, .ref (ad 6 9 0)), (5, .int v5), (9, .int v9), (10, .int v10), (11, .int v11)]) hx hb dL_acts_489 hl (by decide) rfl (fun ls hl => ?_)
  refine lv_iload hx hb dL_acts_491 (lv_at hl 0 rfl) ?_
  refine lv_if_ne (tgt := 538) hx hb dL_acts_493 (by decide) (fun c_75 => ?_) (fun c_75 => ?_)
  · replace hf := mm_if c_75 hf
    exact cx_L_acts_J538 x1 x2 rv σ1 X v5 v9 v10 v11 w0 σ H locs ls hf hP hS (lv_sub hl [1, 2, 3, 4, 5, 0] rfl)
  · replace hf := mm_it c_75 hf
    refine lv_aload_n hx hb dL_acts_496 rfl (lv_at hl 1 rfl) ?_
    refine lv_iload hx hb dL_acts_497 (lv_at hl 2 rfl) ?_
    refine lv_iconst (v := (0 : Int32)) hx hb dL_acts_499 (by decide) ?_
    obtain ⟨r_76, s_76, e_76, hf⟩ := mm_bd_ok hf
    refine mm_callV X hP hS hl.1 [.int v5, .int (0 : Int32)] [] (cx_X10_cartOf l D ad cA hI v5 (0 : Int32) σ r_76 s_76 e_76) kp_9 rfl rfl wd_389 wd_390 wd_391 wd_1 wd_392 hd_X10_cartOf ⟨Nat.le_of_ble_eq_true rfl, Nat.le_of_ble_eq_true rfl⟩ rfl (Nat.le_of_ble_eq_true rfl) dL_acts_500 (fun H locs hP hS => ?_)
    refine lv_ldc (v := (-1000004 : Int32)) hx hb X.2.2.2.2.2.1 (X.2.2.2.2.2.2.1 _ wd_433) dL_acts_503 ?_
    refine lv_icmp_eq (tgt := 534) hx hb dL_acts_505 (by decide) (fun c_77 => ?_) (fun c_77 => ?_)
    · replace hf := mm_it c_77 hf
      refine lv_iconst (v := (1 : Int32)) hx hb dL_acts_534 (by decide) ?_
      refine lv_goto (tgt := 539) hx hb dL_acts_535 (by decide) ?_
      exact cx_L_acts_J539 x1 x2 rv σ1 X v5 v9 v10 v11 w0 (1 : Int32) s_76 H locs ls hf hP hS (lv_sub hl [1, 2, 3, 4, 5, 0] rfl)
    · replace hf := mm_if c_77 hf
      refine lv_aload_n hx hb dL_acts_508 rfl (lv_at hl 1 rfl) ?_
      refine lv_iload hx hb dL_acts_509 (lv_at hl 2 rfl) ?_
      refine lv_iconst (v := (5 : Int32)) hx hb dL_acts_511 (by decide) ?_
      obtain ⟨r_78, s_78, e_78, hf⟩ := mm_bd_ok hf
      refine mm_callV X hP hS hl.1 [.int v5, .int (5 : Int32)] [] (cx_X10_cartOf l D ad cA hI v5 (5 : Int32) s_76 r_78 s_78 e_78) kp_9 rfl rfl wd_389 wd_390 wd_391 wd_1 wd_392 hd_X10_cartOf ⟨Nat.le_of_ble_eq_true rfl, Nat.le_of_ble_eq_true rfl⟩ rfl (Nat.le_of_ble_eq_true rfl) dL_acts_512 (fun H locs hP hS => ?_)
      refine lv_iload hx hb dL_acts_515 (lv_at hl 3 rfl) ?_
      refine lv_ishr hx hb dL_acts_517 ?_
      refine lv_iconst (v := (1 : Int32)) hx hb dL_acts_518 (by decide) ?_
      refine lv_iand hx hb dL_acts_519 ?_
      refine lv_iconst (v := (1 : Int32)) hx hb dL_acts_520 (by decide) ?_
      refine lv_icmp_eq (tgt := 534) hx hb dL_acts_521 (by decide) (fun c_79 => ?_) (fun c_79 => ?_)
      · replace hf := mm_it c_79 hf
        refine lv_iconst (v := (1 : Int32)) hx hb dL_acts_534 (by decide) ?_
        refine lv_goto (tgt := 539) hx hb dL_acts_535 (by decide) ?_
        exact cx_L_acts_J539 x1 x2 rv σ1 X v5 v9 v10 v11 w0 (1 : Int32) s_78 H locs ls hf hP hS (lv_sub hl [1, 2, 3, 4, 5, 0] rfl)
      · replace hf := mm_if c_79 hf
        refine lv_iload hx hb dL_acts_524 (lv_at hl 3 rfl) ?_
        refine lv_aload_n hx hb dL_acts_526 rfl (lv_at hl 1 rfl) ?_
        refine lv_iconst (v := (1 : Int32)) hx hb dL_acts_527 (by decide) ?_
        obtain ⟨r_80, s_80, e_80, hf⟩ := mm_bd_ok hf
        refine mm_callV X hP hS hl.1 [.int (1 : Int32)] [.int v9] (cx_X10_count l D ad cA hI (1 : Int32) s_78 r_80 s_80 e_80) kp_9 rfl rfl wd_305 wd_306 wd_307 wd_1 wd_308 hd_X10_count ⟨Nat.le_of_ble_eq_true rfl, Nat.le_of_ble_eq_true rfl⟩ rfl (Nat.le_of_ble_eq_true rfl) dL_acts_528 (fun H locs hP hS => ?_)
        refine lv_icmp_ge (tgt := 538) hx hb dL_acts_531 (by decide) (fun c_81 => ?_) (fun c_81 => ?_)
        · replace hf := mm_it c_81 hf
          exact cx_L_acts_J538 x1 x2 rv σ1 X v5 v9 v10 v11 w0 s_80 H locs ls hf hP hS (lv_sub hl [1, 2, 3, 4, 5, 0] rfl)
        · replace hf := mm_if c_81 hf
          refine lv_iconst (v := (1 : Int32)) hx hb dL_acts_534 (by decide) ?_
          refine lv_goto (tgt := 539) hx hb dL_acts_535 (by decide) ?_
          exact cx_L_acts_J539 x1 x2 rv σ1 X v5 v9 v10 v11 w0 (1 : Int32) s_80 H locs ls hf hP hS (lv_sub hl [1, 2, 3, 4, 5, 0] rfl)
def fx_L_acts_J708 (x1 : Int32) (x2 : Int32)  (v5 : Int32) (v9 : Int32) (v10 : Int32) (w0 : Int32) (σ : mm_M) : mm_R := mm_bd (fx_X10_damage v5 v9 σ) fun r_97 s_97 => (if v10 = (0 : Int32) then if w0 = (0 : Int32) then mm_bd (fx_X10_cartOf v5 (2 : Int32) s_97) fun r_100 s_100 => (if r_97 = r_100 then if r_97 < (0 : Int32) then some ((0 : Int32), s_100) else if (10 : Int32) ≤ r_97 then some ((0 : Int32), s_100) else some ((1 : Int32), s_100) else some ((0 : Int32), s_100)) else if r_97 = (-1000002 : Int32) then some ((1 : Int32), s_97) else some ((0 : Int32), s_97) else if r_97 = (-1000001 : Int32) then some ((1 : Int32), s_97) else some ((0 : Int32), s_97))
set_option maxHeartbeats 4000000 in
set_option maxRecDepth 100000 in
theorem cx_L_acts_J708 {p : Program} {l : Launch} {e : Env} {s : State} {m : MethodId} {args : Array Value} {below : List Frame} {meth : Method} {c : Code} {D : va_G} {ad : mm_A} {cA : Nat → ClassId} (x1 : Int32) (x2 : Int32)  (rv : Int32) (σ1 : mm_M)  (X : mm_X p s m args meth c cL_acts 15 (some .boolean) RL D ad cA) : ∀ (v5 : Int32) (v9 : Int32) (v10 : Int32) (w0 : Int32) (σ : mm_M) (H : Heap) (locs : List Loc) (ls : Array Slot), fx_L_acts_J708 x1 x2 v5 v9 v10 w0 σ = some (rv, σ1) → va_P D vwCl (mm_wd ad cA σ) H → va_S (mm_AS ad) s.heap H locs → lv_has ls 15 [(0, .ref (ad 6 9 0)), (5, .int v5), (9, .int v9), (10, .int v10)] → W p l e (mm_rm 9 208) s m args below meth c H locs 0 0 (MQ below (mm_Q D ad cA (some (.int rv)) σ1) args s 0 0 (mm_AS ad)) (F0 m 708 ls [.int w0]) := by
  have hx := X.1
  have hb := X.2.1
  have hI := X.2.2.2.2.2.2.2.2.2
  intro v5 v9 v10 w0 σ H locs ls hf hP hS hl
  rw [fx_L_acts_J708] at hf
  refine lv_istore (lv' := [(11, .int w0), (0, .ref (ad 6 9 0)), (5, .int v5), (9, .int v9), (10, .int v10)]) hx hb dL_acts_708 hl (by decide) rfl (fun ls hl => ?_)
  refine lv_aload_n hx hb dL_acts_710 rfl (lv_at hl 1 rfl) ?_
  refine lv_iload hx hb dL_acts_711 (lv_at hl 2 rfl) ?_
  refine lv_iload hx hb dL_acts_713 (lv_at hl 3 rfl) ?_
  obtain ⟨r_97, s_97, e_97, hf⟩ := mm_bd_ok hf
  refine mm_callV X hP hS hl.1 [.int v5, .int v9] [] (cx_X10_damage l D ad cA hI v5 v9 σ r_97 s_97 e_97) kp_9 rfl rfl wd_552 wd_553 wd_554 wd_1 wd_555 hd_X10_damage ⟨Nat.le_of_ble_eq_true rfl, Nat.le_of_ble_eq_true rfl⟩ rfl (Nat.le_of_ble_eq_true rfl) dL_acts_715 (fun H locs hP hS => ?_)
  refine lv_istore (lv' := [(12, .int r_97), (11, .int w0), (0, .ref (ad 6 9 0)), (5, .int v5), (9, .int v9), (10, .int v10)]) hx hb dL_acts_718 hl (by decide) rfl (fun ls hl => ?_)
  refine lv_iload hx hb dL_acts_720 (lv_at hl 5 rfl) ?_
  refine lv_if_eq (tgt := 740) hx hb dL_acts_722 (by decide) (fun c_98 => ?_) (fun c_98 => ?_)
  · replace hf := mm_it c_98 hf
    refine lv_iload hx hb dL_acts_740 (lv_at hl 1 rfl) ?_
    refine lv_if_eq (tgt := 760) hx hb dL_acts_742 (by decide) (fun c_99 => ?_) (fun c_99 => ?_)
    · replace hf := mm_it c_99 hf
      refine lv_iload hx hb dL_acts_760 (lv_at hl 0 rfl) ?_
      refine lv_aload_n hx hb dL_acts_762 rfl (lv_at hl 2 rfl) ?_
      refine lv_iload hx hb dL_acts_763 (lv_at hl 3 rfl) ?_
      refine lv_iconst (v := (2 : Int32)) hx hb dL_acts_765 (by decide) ?_
      obtain ⟨r_100, s_100, e_100, hf⟩ := mm_bd_ok hf
      refine mm_callV X hP hS hl.1 [.int v5, .int (2 : Int32)] [.int r_97] (cx_X10_cartOf l D ad cA hI v5 (2 : Int32) s_97 r_100 s_100 e_100) kp_9 rfl rfl wd_389 wd_390 wd_391 wd_1 wd_392 hd_X10_cartOf ⟨Nat.le_of_ble_eq_true rfl, Nat.le_of_ble_eq_true rfl⟩ rfl (Nat.le_of_ble_eq_true rfl) dL_acts_766 (fun H locs hP hS => ?_)
      refine lv_icmp_ne (tgt := 788) hx hb dL_acts_769 (by decide) (fun c_101 => ?_) (fun c_101 => ?_)
      · replace hf := mm_if c_101 hf
        refine lv_iconst (v := (0 : Int32)) hx hb dL_acts_788 (by decide) ?_
        obtain ⟨rfl, rfl⟩ := mm_ret hf
        exact mm_zret (Or.inl rfl) X hP hS dL_acts_789
      · replace hf := mm_it c_101 hf
        refine lv_iload hx hb dL_acts_772 (lv_at hl 0 rfl) ?_
        refine lv_if_lt (tgt := 788) hx hb dL_acts_774 (by decide) (fun c_102 => ?_) (fun c_102 => ?_)
        · replace hf := mm_it c_102 hf
          refine lv_iconst (v := (0 : Int32)) hx hb dL_acts_788 (by decide) ?_
          obtain ⟨rfl, rfl⟩ := mm_ret hf
          exact mm_zret (Or.inl rfl) X hP hS dL_acts_789
        · replace hf := mm_if c_102 hf
          refine lv_iload hx hb dL_acts_777 (lv_at hl 0 rfl) ?_
          refine lv_bipush (v := (10 : Int32)) hx hb dL_acts_779 (by decide) ?_
          refine lv_icmp_ge (tgt := 788) hx hb dL_acts_781 (by decide) (fun c_103 => ?_) (fun c_103 => ?_)
          · replace hf := mm_it c_103 hf
            refine lv_iconst (v := (0 : Int32)) hx hb dL_acts_788 (by decide) ?_
            obtain ⟨rfl, rfl⟩ := mm_ret hf
            exact mm_zret (Or.inl rfl) X hP hS dL_acts_789
          · replace hf := mm_if c_103 hf
            refine lv_iconst (v := (1 : Int32)) hx hb dL_acts_784 (by decide) ?_
            refine lv_goto (tgt := 789) hx hb dL_acts_785 (by decide) ?_
            obtain ⟨rfl, rfl⟩ := mm_ret hf
            exact mm_zret (Or.inr rfl) X hP hS dL_acts_789
    · replace hf := mm_if c_99 hf
      refine lv_iload hx hb dL_acts_745 (lv_at hl 0 rfl) ?_
      refine lv_ldc (v := (-1000002 : Int32)) hx hb X.2.2.2.2.2.1 (X.2.2.2.2.2.2.1 _ wd_481) dL_acts_747 ?_
      refine lv_icmp_ne (tgt := 756) hx hb dL_acts_749 (by decide) (fun c_104 => ?_) (fun c_104 => ?_)
      · replace hf := mm_if c_104 hf
        refine lv_iconst (v := (0 : Int32)) hx hb dL_acts_756 (by decide) ?_
        refine lv_goto (tgt := 789) hx hb dL_acts_757 (by decide) ?_
        obtain ⟨rfl, rfl⟩ := mm_ret hf
        exact mm_zret (Or.inl rfl) X hP hS dL_acts_789
      · replace hf := mm_it c_104 hf
        refine lv_iconst (v := (1 : Int32)) hx hb dL_acts_752 (by decide) ?_
        refine lv_goto (tgt := 789) hx hb dL_acts_753 (by decide) ?_
        obtain ⟨rfl, rfl⟩ := mm_ret hf
        exact mm_zret (Or.inr rfl) X hP hS dL_acts_789
  · replace hf := mm_if c_98 hf
    refine lv_iload hx hb dL_acts_725 (lv_at hl 0 rfl) ?_
    refine lv_ldc (v := (-1000001 : Int32)) hx hb X.2.2.2.2.2.1 (X.2.2.2.2.2.2.1 _ wd_480) dL_acts_727 ?_
    refine lv_icmp_ne (tgt := 736) hx hb dL_acts_729 (by decide) (fun c_105 => ?_) (fun c_105 => ?_)
    · replace hf := mm_if c_105 hf
      refine lv_iconst (v := (0 : Int32)) hx hb dL_acts_736 (by decide) ?_
      refine lv_goto (tgt := 789) hx hb dL_acts_737 (by decide) ?_
      obtain ⟨rfl, rfl⟩ := mm_ret hf
      exact mm_zret (Or.inl rfl) X hP hS dL_acts_789
    · replace hf := mm_it c_105 hf
      refine lv_iconst (v := (1 : Int32)) hx hb dL_acts_732 (by decide) ?_
      refine lv_goto (tgt := 789) hx hb dL_acts_733 (by decide) ?_
      obtain ⟨rfl, rfl⟩ := mm_ret hf
      exact mm_zret (Or.inr rfl) X hP hS dL_acts_789
def fx_L_acts_J707 (x1 : Int32) (x2 : Int32)  (v5 : Int32) (v9 : Int32) (v10 : Int32) (σ : mm_M) : mm_R := fx_L_acts_J708 x1 x2 v5 v9 v10 (0 : Int32) σ
set_option maxHeartbeats 4000000 in
set_option maxRecDepth 100000 in
theorem cx_L_acts_J707 {p : Program} {l : Launch} {e : Env} {s : State} {m : MethodId} {args : Array Value} {below : List Frame} {meth : Method} {c : Code} {D : va_G} {ad : mm_A} {cA : Nat → ClassId} (x1 : Int32) (x2 : Int32)  (rv : Int32) (σ1 : mm_M)  (X : mm_X p s m args meth c cL_acts 15 (some .boolean) RL D ad cA) : ∀ (v5 : Int32) (v9 : Int32) (v10 : Int32) (σ : mm_M) (H : Heap) (locs : List Loc) (ls : Array Slot), fx_L_acts_J707 x1 x2 v5 v9 v10 σ = some (rv, σ1) → va_P D vwCl (mm_wd ad cA σ) H → va_S (mm_AS ad) s.heap H locs → lv_has ls 15 [(0, .ref (ad 6 9 0)), (5, .int v5), (9, .int v9), (10, .int v10)] → W p l e (mm_rm 9 208) s m args below meth c H locs 0 0 (MQ below (mm_Q D ad cA (some (.int rv)) σ1) args s 0 0 (mm_AS ad)) (F0 m 707 ls []) := by
  have hx := X.1
  have hb := X.2.1
  have hI := X.2.2.2.2.2.2.2.2.2
  intro v5 v9 v10 σ H locs ls hf hP hS hl
  rw [fx_L_acts_J707] at hf
  refine lv_iconst (v := (0 : Int32)) hx hb dL_acts_707 (by decide) ?_
  exact cx_L_acts_J708 x1 x2 rv σ1 X v5 v9 v10 (0 : Int32) σ H locs ls hf hP hS (lv_sub hl [0, 1, 2, 3] rfl)
def fx_L_acts_J684 (x1 : Int32) (x2 : Int32)  (v5 : Int32) (v9 : Int32) (w0 : Int32) (σ : mm_M) : mm_R := if w0 = (0 : Int32) then mm_bd (fx_X10_cartOf v5 (0 : Int32) σ) fun r_73 s_73 => (if r_73 = (-1000004 : Int32) then fx_L_acts_J708 x1 x2 v5 v9 w0 (1 : Int32) s_73 else fx_L_acts_J707 x1 x2 v5 v9 w0 s_73) else fx_L_acts_J707 x1 x2 v5 v9 w0 σ
set_option maxHeartbeats 4000000 in
set_option maxRecDepth 100000 in
theorem cx_L_acts_J684 {p : Program} {l : Launch} {e : Env} {s : State} {m : MethodId} {args : Array Value} {below : List Frame} {meth : Method} {c : Code} {D : va_G} {ad : mm_A} {cA : Nat → ClassId} (x1 : Int32) (x2 : Int32)  (rv : Int32) (σ1 : mm_M)  (X : mm_X p s m args meth c cL_acts 15 (some .boolean) RL D ad cA) : ∀ (v5 : Int32) (v9 : Int32) (w0 : Int32) (σ : mm_M) (H : Heap) (locs : List Loc) (ls : Array Slot), fx_L_acts_J684 x1 x2 v5 v9 w0 σ = some (rv, σ1) → va_P D vwCl (mm_wd ad cA σ) H → va_S (mm_AS ad) s.heap H locs → lv_has ls 15 [(0, .ref (ad 6 9 0)), (5, .int v5), (9, .int v9)] → W p l e (mm_rm 9 208) s m args below meth c H locs 0 0 (MQ below (mm_Q D ad cA (some (.int rv)) σ1) args s 0 0 (mm_AS ad)) (F0 m 684 ls [.int w0]) := by
  have hx := X.1
  have hb := X.2.1
  have hI := X.2.2.2.2.2.2.2.2.2
  intro v5 v9 w0 σ H locs ls hf hP hS hl
  rw [fx_L_acts_J684] at hf
  refine lv_istore (lv' := [(10, .int w0), (0, .ref (ad 6 9 0)), (5, .int v5), (9, .int v9)]) hx hb dL_acts_684 hl (by decide) rfl (fun ls hl => ?_)
  refine lv_iload hx hb dL_acts_686 (lv_at hl 0 rfl) ?_
  refine lv_if_ne (tgt := 707) hx hb dL_acts_688 (by decide) (fun c_72 => ?_) (fun c_72 => ?_)
  · replace hf := mm_if c_72 hf
    exact cx_L_acts_J707 x1 x2 rv σ1 X v5 v9 w0 σ H locs ls hf hP hS (lv_sub hl [1, 2, 3, 0] rfl)
  · replace hf := mm_it c_72 hf
    refine lv_aload_n hx hb dL_acts_691 rfl (lv_at hl 1 rfl) ?_
    refine lv_iload hx hb dL_acts_692 (lv_at hl 2 rfl) ?_
    refine lv_iconst (v := (0 : Int32)) hx hb dL_acts_694 (by decide) ?_
    obtain ⟨r_73, s_73, e_73, hf⟩ := mm_bd_ok hf
    refine mm_callV X hP hS hl.1 [.int v5, .int (0 : Int32)] [] (cx_X10_cartOf l D ad cA hI v5 (0 : Int32) σ r_73 s_73 e_73) kp_9 rfl rfl wd_389 wd_390 wd_391 wd_1 wd_392 hd_X10_cartOf ⟨Nat.le_of_ble_eq_true rfl, Nat.le_of_ble_eq_true rfl⟩ rfl (Nat.le_of_ble_eq_true rfl) dL_acts_695 (fun H locs hP hS => ?_)
    refine lv_ldc (v := (-1000004 : Int32)) hx hb X.2.2.2.2.2.1 (X.2.2.2.2.2.2.1 _ wd_433) dL_acts_698 ?_
    refine lv_icmp_ne (tgt := 707) hx hb dL_acts_700 (by decide) (fun c_74 => ?_) (fun c_74 => ?_)
    · replace hf := mm_if c_74 hf
      exact cx_L_acts_J707 x1 x2 rv σ1 X v5 v9 w0 s_73 H locs ls hf hP hS (lv_sub hl [1, 2, 3, 0] rfl)
    · replace hf := mm_it c_74 hf
      refine lv_iconst (v := (1 : Int32)) hx hb dL_acts_703 (by decide) ?_
      refine lv_goto (tgt := 708) hx hb dL_acts_704 (by decide) ?_
      exact cx_L_acts_J708 x1 x2 rv σ1 X v5 v9 w0 (1 : Int32) s_73 H locs ls hf hP hS (lv_sub hl [1, 2, 3, 0] rfl)
def fx_L_acts_J877 (x1 : Int32) (x2 : Int32)  (w0 : Int32) (w1 : Int32) (w2 : Int32) (σ : mm_M) : mm_R := if w0 = (w1 + w2) then some ((1 : Int32), σ) else some ((0 : Int32), σ)
set_option maxHeartbeats 4000000 in
set_option maxRecDepth 100000 in
theorem cx_L_acts_J877 {p : Program} {l : Launch} {e : Env} {s : State} {m : MethodId} {args : Array Value} {below : List Frame} {meth : Method} {c : Code} {D : va_G} {ad : mm_A} {cA : Nat → ClassId} (x1 : Int32) (x2 : Int32)  (rv : Int32) (σ1 : mm_M)  (X : mm_X p s m args meth c cL_acts 15 (some .boolean) RL D ad cA) : ∀ (w0 : Int32) (w1 : Int32) (w2 : Int32) (σ : mm_M) (H : Heap) (locs : List Loc) (ls : Array Slot), fx_L_acts_J877 x1 x2 w0 w1 w2 σ = some (rv, σ1) → va_P D vwCl (mm_wd ad cA σ) H → va_S (mm_AS ad) s.heap H locs → lv_has ls 15 [] → W p l e (mm_rm 9 208) s m args below meth c H locs 0 0 (MQ below (mm_Q D ad cA (some (.int rv)) σ1) args s 0 0 (mm_AS ad)) (F0 m 877 ls [.int w2, .int w1, .int w0]) := by
  have hx := X.1
  have hb := X.2.1
  have hI := X.2.2.2.2.2.2.2.2.2
  intro w0 w1 w2 σ H locs ls hf hP hS hl
  rw [fx_L_acts_J877] at hf
  refine lv_iadd hx hb dL_acts_877 ?_
  refine lv_icmp_ne (tgt := 885) hx hb dL_acts_878 (by decide) (fun c_96 => ?_) (fun c_96 => ?_)
  · replace hf := mm_if c_96 hf
    refine lv_iconst (v := (0 : Int32)) hx hb dL_acts_885 (by decide) ?_
    obtain ⟨rfl, rfl⟩ := mm_ret hf
    exact mm_zret (Or.inl rfl) X hP hS dL_acts_886
  · replace hf := mm_it c_96 hf
    refine lv_iconst (v := (1 : Int32)) hx hb dL_acts_881 (by decide) ?_
    refine lv_goto (tgt := 886) hx hb dL_acts_882 (by decide) ?_
    obtain ⟨rfl, rfl⟩ := mm_ret hf
    exact mm_zret (Or.inr rfl) X hP hS dL_acts_886
def fx_L_acts_J828 (x1 : Int32) (x2 : Int32)  (v3 : Int32) (v4 : Int32) (v9 : Int32) (v10 : Int32) (w0 : Int32) (σ : mm_M) : mm_R := if v4 = (0 : Int32) then if w0 = (-1000002 : Int32) then some ((1 : Int32), σ) else some ((0 : Int32), σ) else if w0 < (0 : Int32) then some ((0 : Int32), σ) else mm_bd (fx_X10_count (6 : Int32) σ) fun r_69 s_69 => (if v3 = (16 : Int32) then fx_L_acts_J877 x1 x2 r_69 v10 ((5 : Int32) - v9) s_69 else fx_L_acts_J877 x1 x2 r_69 v10 (1 : Int32) s_69)
set_option maxHeartbeats 4000000 in
set_option maxRecDepth 100000 in
theorem cx_L_acts_J828 {p : Program} {l : Launch} {e : Env} {s : State} {m : MethodId} {args : Array Value} {below : List Frame} {meth : Method} {c : Code} {D : va_G} {ad : mm_A} {cA : Nat → ClassId} (x1 : Int32) (x2 : Int32)  (rv : Int32) (σ1 : mm_M)  (X : mm_X p s m args meth c cL_acts 15 (some .boolean) RL D ad cA) : ∀ (v3 : Int32) (v4 : Int32) (v9 : Int32) (v10 : Int32) (w0 : Int32) (σ : mm_M) (H : Heap) (locs : List Loc) (ls : Array Slot), fx_L_acts_J828 x1 x2 v3 v4 v9 v10 w0 σ = some (rv, σ1) → va_P D vwCl (mm_wd ad cA σ) H → va_S (mm_AS ad) s.heap H locs → lv_has ls 15 [(0, .ref (ad 6 9 0)), (3, .int v3), (4, .int v4), (9, .int v9), (10, .int v10)] → W p l e (mm_rm 9 208) s m args below meth c H locs 0 0 (MQ below (mm_Q D ad cA (some (.int rv)) σ1) args s 0 0 (mm_AS ad)) (F0 m 828 ls [.int w0]) := by
  have hx := X.1
  have hb := X.2.1
  have hI := X.2.2.2.2.2.2.2.2.2
  intro v3 v4 v9 v10 w0 σ H locs ls hf hP hS hl
  rw [fx_L_acts_J828] at hf
  refine lv_istore (lv' := [(11, .int w0), (0, .ref (ad 6 9 0)), (3, .int v3), (4, .int v4), (9, .int v9), (10, .int v10)]) hx hb dL_acts_828 hl (by decide) rfl (fun ls hl => ?_)
  refine lv_iload hx hb dL_acts_830 (lv_at hl 3 rfl) ?_
  refine lv_if_ne (tgt := 850) hx hb dL_acts_832 (by decide) (fun c_67 => ?_) (fun c_67 => ?_)
  · replace hf := mm_if c_67 hf
    refine lv_iload hx hb dL_acts_850 (lv_at hl 0 rfl) ?_
    refine lv_if_lt (tgt := 885) hx hb dL_acts_852 (by decide) (fun c_68 => ?_) (fun c_68 => ?_)
    · replace hf := mm_it c_68 hf
      refine lv_iconst (v := (0 : Int32)) hx hb dL_acts_885 (by decide) ?_
      obtain ⟨rfl, rfl⟩ := mm_ret hf
      exact mm_zret (Or.inl rfl) X hP hS dL_acts_886
    · replace hf := mm_if c_68 hf
      refine lv_aload_n hx hb dL_acts_855 rfl (lv_at hl 1 rfl) ?_
      refine lv_bipush (v := (6 : Int32)) hx hb dL_acts_856 (by decide) ?_
      obtain ⟨r_69, s_69, e_69, hf⟩ := mm_bd_ok hf
      refine mm_callV X hP hS hl.1 [.int (6 : Int32)] [] (cx_X10_count l D ad cA hI (6 : Int32) σ r_69 s_69 e_69) kp_9 rfl rfl wd_305 wd_306 wd_307 wd_1 wd_308 hd_X10_count ⟨Nat.le_of_ble_eq_true rfl, Nat.le_of_ble_eq_true rfl⟩ rfl (Nat.le_of_ble_eq_true rfl) dL_acts_858 (fun H locs hP hS => ?_)
      refine lv_iload hx hb dL_acts_861 (lv_at hl 5 rfl) ?_
      refine lv_iload_n hx hb dL_acts_863 rfl (lv_at hl 2 rfl) ?_
      refine lv_bipush (v := (16 : Int32)) hx hb dL_acts_864 (by decide) ?_
      refine lv_icmp_ne (tgt := 876) hx hb dL_acts_866 (by decide) (fun c_70 => ?_) (fun c_70 => ?_)
      · replace hf := mm_if c_70 hf
        refine lv_iconst (v := (1 : Int32)) hx hb dL_acts_876 (by decide) ?_
        exact cx_L_acts_J877 x1 x2 rv σ1 X r_69 v10 (1 : Int32) s_69 H locs ls hf hP hS (lv_sub hl [] rfl)
      · replace hf := mm_it c_70 hf
        refine lv_iconst (v := (5 : Int32)) hx hb dL_acts_869 (by decide) ?_
        refine lv_iload hx hb dL_acts_870 (lv_at hl 4 rfl) ?_
        refine lv_isub hx hb dL_acts_872 ?_
        refine lv_goto (tgt := 877) hx hb dL_acts_873 (by decide) ?_
        exact cx_L_acts_J877 x1 x2 rv σ1 X r_69 v10 ((5 : Int32) - v9) s_69 H locs ls hf hP hS (lv_sub hl [] rfl)
  · replace hf := mm_it c_67 hf
    refine lv_iload hx hb dL_acts_835 (lv_at hl 0 rfl) ?_
    refine lv_ldc (v := (-1000002 : Int32)) hx hb X.2.2.2.2.2.1 (X.2.2.2.2.2.2.1 _ wd_481) dL_acts_837 ?_
    refine lv_icmp_ne (tgt := 846) hx hb dL_acts_839 (by decide) (fun c_71 => ?_) (fun c_71 => ?_)
    · replace hf := mm_if c_71 hf
      refine lv_iconst (v := (0 : Int32)) hx hb dL_acts_846 (by decide) ?_
      refine lv_goto (tgt := 886) hx hb dL_acts_847 (by decide) ?_
      obtain ⟨rfl, rfl⟩ := mm_ret hf
      exact mm_zret (Or.inl rfl) X hP hS dL_acts_886
    · replace hf := mm_it c_71 hf
      refine lv_iconst (v := (1 : Int32)) hx hb dL_acts_842 (by decide) ?_
      refine lv_goto (tgt := 886) hx hb dL_acts_843 (by decide) ?_
      obtain ⟨rfl, rfl⟩ := mm_ret hf
      exact mm_zret (Or.inr rfl) X hP hS dL_acts_886
def fx_L_acts_J1006 (x1 : Int32) (x2 : Int32)  (v8 : Int32) (σ : mm_M) : mm_R := mm_bd (fx_X10_steps v8 v8 σ) fun r_122 s_122 => (if r_122 = (0 : Int32) then some ((1 : Int32), s_122) else some ((0 : Int32), s_122))
set_option maxHeartbeats 4000000 in
set_option maxRecDepth 100000 in
theorem cx_L_acts_J1006 {p : Program} {l : Launch} {e : Env} {s : State} {m : MethodId} {args : Array Value} {below : List Frame} {meth : Method} {c : Code} {D : va_G} {ad : mm_A} {cA : Nat → ClassId} (x1 : Int32) (x2 : Int32)  (rv : Int32) (σ1 : mm_M)  (X : mm_X p s m args meth c cL_acts 15 (some .boolean) RL D ad cA) : ∀ (v8 : Int32) (σ : mm_M) (H : Heap) (locs : List Loc) (ls : Array Slot), fx_L_acts_J1006 x1 x2 v8 σ = some (rv, σ1) → va_P D vwCl (mm_wd ad cA σ) H → va_S (mm_AS ad) s.heap H locs → lv_has ls 15 [(0, .ref (ad 6 9 0)), (8, .int v8)] → W p l e (mm_rm 9 208) s m args below meth c H locs 0 0 (MQ below (mm_Q D ad cA (some (.int rv)) σ1) args s 0 0 (mm_AS ad)) (F0 m 1006 ls []) := by
  have hx := X.1
  have hb := X.2.1
  have hI := X.2.2.2.2.2.2.2.2.2
  intro v8 σ H locs ls hf hP hS hl
  rw [fx_L_acts_J1006] at hf
  refine lv_aload_n hx hb dL_acts_1006 rfl (lv_at hl 0 rfl) ?_
  refine lv_iload hx hb dL_acts_1007 (lv_at hl 1 rfl) ?_
  refine lv_iload hx hb dL_acts_1009 (lv_at hl 1 rfl) ?_
  obtain ⟨r_122, s_122, e_122, hf⟩ := mm_bd_ok hf
  refine mm_callV X hP hS hl.1 [.int v8, .int v8] [] (cx_X10_steps l D ad cA hI v8 v8 σ r_122 s_122 e_122) kp_9 rfl rfl wd_698 wd_699 wd_700 wd_1 wd_701 hd_X10_steps ⟨Nat.le_of_ble_eq_true rfl, Nat.le_of_ble_eq_true rfl⟩ rfl (Nat.le_of_ble_eq_true rfl) dL_acts_1011 (fun H locs hP hS => ?_)
  refine lv_if_ne (tgt := 1021) hx hb dL_acts_1014 (by decide) (fun c_123 => ?_) (fun c_123 => ?_)
  · replace hf := mm_if c_123 hf
    refine lv_iconst (v := (0 : Int32)) hx hb dL_acts_1021 (by decide) ?_
    obtain ⟨rfl, rfl⟩ := mm_ret hf
    exact mm_zret (Or.inl rfl) X hP hS dL_acts_1022
  · replace hf := mm_it c_123 hf
    refine lv_iconst (v := (1 : Int32)) hx hb dL_acts_1017 (by decide) ?_
    refine lv_goto (tgt := 1022) hx hb dL_acts_1018 (by decide) ?_
    obtain ⟨rfl, rfl⟩ := mm_ret hf
    exact mm_zret (Or.inr rfl) X hP hS dL_acts_1022
def fx_L_acts_J984 (x1 : Int32) (x2 : Int32)  (v8 : Int32) (v11 : Int32) (σ : mm_M) : mm_R := if (0 : Int32) ≤ v11 then if (7 : Int32) ≤ v11 then some ((0 : Int32), σ) else fx_L_acts_J1006 x1 x2 v8 σ else if v11 < (-1000004 : Int32) then some ((0 : Int32), σ) else fx_L_acts_J1006 x1 x2 v8 σ
set_option maxHeartbeats 4000000 in
set_option maxRecDepth 100000 in
theorem cx_L_acts_J984 {p : Program} {l : Launch} {e : Env} {s : State} {m : MethodId} {args : Array Value} {below : List Frame} {meth : Method} {c : Code} {D : va_G} {ad : mm_A} {cA : Nat → ClassId} (x1 : Int32) (x2 : Int32)  (rv : Int32) (σ1 : mm_M)  (X : mm_X p s m args meth c cL_acts 15 (some .boolean) RL D ad cA) : ∀ (v8 : Int32) (v11 : Int32) (σ : mm_M) (H : Heap) (locs : List Loc) (ls : Array Slot), fx_L_acts_J984 x1 x2 v8 v11 σ = some (rv, σ1) → va_P D vwCl (mm_wd ad cA σ) H → va_S (mm_AS ad) s.heap H locs → lv_has ls 15 [(0, .ref (ad 6 9 0)), (8, .int v8), (11, .int v11)] → W p l e (mm_rm 9 208) s m args below meth c H locs 0 0 (MQ below (mm_Q D ad cA (some (.int rv)) σ1) args s 0 0 (mm_AS ad)) (F0 m 984 ls []) := by
  have hx := X.1
  have hb := X.2.1
  have hI := X.2.2.2.2.2.2.2.2.2
  intro v8 v11 σ H locs ls hf hP hS hl
  rw [fx_L_acts_J984] at hf
  refine lv_iload hx hb dL_acts_984 (lv_at hl 2 rfl) ?_
  refine lv_if_ge (tgt := 999) hx hb dL_acts_986 (by decide) (fun c_93 => ?_) (fun c_93 => ?_)
  · replace hf := mm_it c_93 hf
    refine lv_iload hx hb dL_acts_999 (lv_at hl 2 rfl) ?_
    refine lv_bipush (v := (7 : Int32)) hx hb dL_acts_1001 (by decide) ?_
    refine lv_icmp_ge (tgt := 1021) hx hb dL_acts_1003 (by decide) (fun c_94 => ?_) (fun c_94 => ?_)
    · replace hf := mm_it c_94 hf
      refine lv_iconst (v := (0 : Int32)) hx hb dL_acts_1021 (by decide) ?_
      obtain ⟨rfl, rfl⟩ := mm_ret hf
      exact mm_zret (Or.inl rfl) X hP hS dL_acts_1022
    · replace hf := mm_if c_94 hf
      exact cx_L_acts_J1006 x1 x2 rv σ1 X v8 σ H locs ls hf hP hS (lv_sub hl [0, 1] rfl)
  · replace hf := mm_if c_93 hf
    refine lv_iload hx hb dL_acts_989 (lv_at hl 2 rfl) ?_
    refine lv_ldc (v := (-1000004 : Int32)) hx hb X.2.2.2.2.2.1 (X.2.2.2.2.2.2.1 _ wd_433) dL_acts_991 ?_
    refine lv_icmp_lt (tgt := 1021) hx hb dL_acts_993 (by decide) (fun c_95 => ?_) (fun c_95 => ?_)
    · replace hf := mm_it c_95 hf
      refine lv_iconst (v := (0 : Int32)) hx hb dL_acts_1021 (by decide) ?_
      obtain ⟨rfl, rfl⟩ := mm_ret hf
      exact mm_zret (Or.inl rfl) X hP hS dL_acts_1022
    · replace hf := mm_if c_95 hf
      refine lv_goto (tgt := 1006) hx hb dL_acts_996 (by decide) ?_
      exact cx_L_acts_J1006 x1 x2 rv σ1 X v8 σ H locs ls hf hP hS (lv_sub hl [0, 1] rfl)
def fx_L_acts_J917 (x1 : Int32) (x2 : Int32)  (v4 : Int32) (v8 : Int32) (v9 : Int32) (w0 : Int32) (σ : mm_M) : mm_R := mm_bd (fx_L_low (x2 >>> ((4 : Int32) &&& 31)) (50 : Int32) σ) fun r_58 s_58 => (mm_bd (fx_X10_best w0 ((1 : Int32) + r_58) (0 : Int32) s_58) fun r_59 s_59 => (if v4 ≤ (0 : Int32) then if r_59 = (-1000001 : Int32) then fx_L_acts_J984 x1 x2 v8 r_59 s_59 else some ((0 : Int32), s_59) else mm_bd (fx_X10_would w0 v9 (2 : Int32) s_59) fun r_62 s_62 => (if r_62 < (0 : Int32) then some ((0 : Int32), s_62) else mm_bd (fx_X10_would w0 v9 (3 : Int32) s_62) fun r_64 s_64 => (mm_bd (fx_X10_cartOf w0 (3 : Int32) s_64) fun r_65 s_65 => (if r_64 < r_65 then some ((0 : Int32), s_65) else fx_L_acts_J984 x1 x2 v8 r_59 s_65)))))
set_option maxHeartbeats 4000000 in
set_option maxRecDepth 100000 in
theorem cx_L_acts_J917 {p : Program} {l : Launch} {e : Env} {s : State} {m : MethodId} {args : Array Value} {below : List Frame} {meth : Method} {c : Code} {D : va_G} {ad : mm_A} {cA : Nat → ClassId} (x1 : Int32) (x2 : Int32)  (rv : Int32) (σ1 : mm_M)  (X : mm_X p s m args meth c cL_acts 15 (some .boolean) RL D ad cA) : ∀ (v4 : Int32) (v8 : Int32) (v9 : Int32) (w0 : Int32) (σ : mm_M) (H : Heap) (locs : List Loc) (ls : Array Slot), fx_L_acts_J917 x1 x2 v4 v8 v9 w0 σ = some (rv, σ1) → va_P D vwCl (mm_wd ad cA σ) H → va_S (mm_AS ad) s.heap H locs → lv_has ls 15 [(0, .ref (ad 6 9 0)), (2, .int x2), (4, .int v4), (8, .int v8), (9, .int v9)] → W p l e (mm_rm 9 208) s m args below meth c H locs 0 0 (MQ below (mm_Q D ad cA (some (.int rv)) σ1) args s 0 0 (mm_AS ad)) (F0 m 917 ls [.int w0]) := by
  have hx := X.1
  have hb := X.2.1
  have hI := X.2.2.2.2.2.2.2.2.2
  intro v4 v8 v9 w0 σ H locs ls hf hP hS hl
  rw [fx_L_acts_J917] at hf
  refine lv_istore (lv' := [(10, .int w0), (0, .ref (ad 6 9 0)), (2, .int x2), (4, .int v4), (8, .int v8), (9, .int v9)]) hx hb dL_acts_917 hl (by decide) rfl (fun ls hl => ?_)
  refine lv_aload_n hx hb dL_acts_919 rfl (lv_at hl 1 rfl) ?_
  refine lv_iload hx hb dL_acts_920 (lv_at hl 0 rfl) ?_
  refine lv_iconst (v := (1 : Int32)) hx hb dL_acts_922 (by decide) ?_
  refine lv_iload_n hx hb dL_acts_923 rfl (lv_at hl 2 rfl) ?_
  refine lv_iconst (v := (4 : Int32)) hx hb dL_acts_924 (by decide) ?_
  refine lv_ishr hx hb dL_acts_925 ?_
  refine lv_bipush (v := (50 : Int32)) hx hb dL_acts_926 (by decide) ?_
  obtain ⟨r_58, s_58, e_58, hf⟩ := mm_bd_ok hf
  refine mm_callS X hP hS hl.1 [.int (x2 >>> ((4 : Int32) &&& 31)), .int (50 : Int32)] [.int (1 : Int32), .int w0, .ref (ad 6 9 0)] (cx_L_low l D ad cA hI (x2 >>> ((4 : Int32) &&& 31)) (50 : Int32) σ r_58 s_58 e_58) wd_348 wd_349 wd_0 wd_350 hd_L_low ⟨Nat.le_of_ble_eq_true rfl, Nat.le_of_ble_eq_true rfl⟩ rfl (Nat.le_of_ble_eq_true rfl) dL_acts_928 (fun H locs hP hS => ?_)
  refine lv_iadd hx hb dL_acts_931 ?_
  refine lv_iconst (v := (0 : Int32)) hx hb dL_acts_932 (by decide) ?_
  obtain ⟨r_59, s_59, e_59, hf⟩ := mm_bd_ok hf
  refine mm_callV X hP hS hl.1 [.int w0, .int ((1 : Int32) + r_58), .int (0 : Int32)] [] (cx_X10_best l D ad cA hI w0 ((1 : Int32) + r_58) (0 : Int32) s_58 r_59 s_59 e_59) kp_9 rfl rfl wd_677 wd_678 wd_679 wd_1 wd_680 hd_X10_best ⟨Nat.le_of_ble_eq_true rfl, Nat.le_of_ble_eq_true rfl⟩ rfl (Nat.le_of_ble_eq_true rfl) dL_acts_933 (fun H locs hP hS => ?_)
  refine lv_istore (lv' := [(11, .int r_59), (10, .int w0), (0, .ref (ad 6 9 0)), (2, .int x2), (4, .int v4), (8, .int v8), (9, .int v9)]) hx hb dL_acts_936 hl (by decide) rfl (fun ls hl => ?_)
  refine lv_iload hx hb dL_acts_938 (lv_at hl 4 rfl) ?_
  refine lv_if_le (tgt := 977) hx hb dL_acts_940 (by decide) (fun c_60 => ?_) (fun c_60 => ?_)
  · replace hf := mm_it c_60 hf
    refine lv_iload hx hb dL_acts_977 (lv_at hl 0 rfl) ?_
    refine lv_ldc (v := (-1000001 : Int32)) hx hb X.2.2.2.2.2.1 (X.2.2.2.2.2.2.1 _ wd_480) dL_acts_979 ?_
    refine lv_icmp_ne (tgt := 1021) hx hb dL_acts_981 (by decide) (fun c_61 => ?_) (fun c_61 => ?_)
    · replace hf := mm_if c_61 hf
      refine lv_iconst (v := (0 : Int32)) hx hb dL_acts_1021 (by decide) ?_
      obtain ⟨rfl, rfl⟩ := mm_ret hf
      exact mm_zret (Or.inl rfl) X hP hS dL_acts_1022
    · replace hf := mm_it c_61 hf
      exact cx_L_acts_J984 x1 x2 rv σ1 X v8 r_59 s_59 H locs ls hf hP hS (lv_sub hl [2, 5, 0] rfl)
  · replace hf := mm_if c_60 hf
    refine lv_aload_n hx hb dL_acts_943 rfl (lv_at hl 2 rfl) ?_
    refine lv_iload hx hb dL_acts_944 (lv_at hl 1 rfl) ?_
    refine lv_iload hx hb dL_acts_946 (lv_at hl 6 rfl) ?_
    refine lv_iconst (v := (2 : Int32)) hx hb dL_acts_948 (by decide) ?_
    obtain ⟨r_62, s_62, e_62, hf⟩ := mm_bd_ok hf
    refine mm_callV X hP hS hl.1 [.int w0, .int v9, .int (2 : Int32)] [] (cx_X10_would l D ad cA hI w0 v9 (2 : Int32) s_59 r_62 s_62 e_62) kp_9 rfl rfl wd_694 wd_695 wd_696 wd_1 wd_697 hd_X10_would ⟨Nat.le_of_ble_eq_true rfl, Nat.le_of_ble_eq_true rfl⟩ rfl (Nat.le_of_ble_eq_true rfl) dL_acts_949 (fun H locs hP hS => ?_)
    refine lv_if_lt (tgt := 1021) hx hb dL_acts_952 (by decide) (fun c_63 => ?_) (fun c_63 => ?_)
    · replace hf := mm_it c_63 hf
      refine lv_iconst (v := (0 : Int32)) hx hb dL_acts_1021 (by decide) ?_
      obtain ⟨rfl, rfl⟩ := mm_ret hf
      exact mm_zret (Or.inl rfl) X hP hS dL_acts_1022
    · replace hf := mm_if c_63 hf
      refine lv_aload_n hx hb dL_acts_955 rfl (lv_at hl 2 rfl) ?_
      refine lv_iload hx hb dL_acts_956 (lv_at hl 1 rfl) ?_
      refine lv_iload hx hb dL_acts_958 (lv_at hl 6 rfl) ?_
      refine lv_iconst (v := (3 : Int32)) hx hb dL_acts_960 (by decide) ?_
      obtain ⟨r_64, s_64, e_64, hf⟩ := mm_bd_ok hf
      refine mm_callV X hP hS hl.1 [.int w0, .int v9, .int (3 : Int32)] [] (cx_X10_would l D ad cA hI w0 v9 (3 : Int32) s_62 r_64 s_64 e_64) kp_9 rfl rfl wd_694 wd_695 wd_696 wd_1 wd_697 hd_X10_would ⟨Nat.le_of_ble_eq_true rfl, Nat.le_of_ble_eq_true rfl⟩ rfl (Nat.le_of_ble_eq_true rfl) dL_acts_961 (fun H locs hP hS => ?_)
      refine lv_aload_n hx hb dL_acts_964 rfl (lv_at hl 2 rfl) ?_
      refine lv_iload hx hb dL_acts_965 (lv_at hl 1 rfl) ?_
      refine lv_iconst (v := (3 : Int32)) hx hb dL_acts_967 (by decide) ?_
      obtain ⟨r_65, s_65, e_65, hf⟩ := mm_bd_ok hf
      refine mm_callV X hP hS hl.1 [.int w0, .int (3 : Int32)] [.int r_64] (cx_X10_cartOf l D ad cA hI w0 (3 : Int32) s_64 r_65 s_65 e_65) kp_9 rfl rfl wd_389 wd_390 wd_391 wd_1 wd_392 hd_X10_cartOf ⟨Nat.le_of_ble_eq_true rfl, Nat.le_of_ble_eq_true rfl⟩ rfl (Nat.le_of_ble_eq_true rfl) dL_acts_968 (fun H locs hP hS => ?_)
      refine lv_icmp_lt (tgt := 1021) hx hb dL_acts_971 (by decide) (fun c_66 => ?_) (fun c_66 => ?_)
      · replace hf := mm_it c_66 hf
        refine lv_iconst (v := (0 : Int32)) hx hb dL_acts_1021 (by decide) ?_
        obtain ⟨rfl, rfl⟩ := mm_ret hf
        exact mm_zret (Or.inl rfl) X hP hS dL_acts_1022
      · replace hf := mm_if c_66 hf
        refine lv_goto (tgt := 984) hx hb dL_acts_974 (by decide) ?_
        exact cx_L_acts_J984 x1 x2 rv σ1 X v8 r_59 s_65 H locs ls hf hP hS (lv_sub hl [2, 5, 0] rfl)
def fx_L_acts_J59 (x1 : Int32) (x2 : Int32)  (v3 : Int32) (v4 : Int32) (v5 : Int32) (v6 : Int32) (v7 : Int32) (w0 : Int32) (σ : mm_M) : mm_R := if (3 : Int32) ≤ v3 then if (6 : Int32) ≤ v3 then if v3 = (6 : Int32) then mm_bd (fx_L_low (x2 >>> ((7 : Int32) &&& 31)) (5 : Int32) σ) fun r_46 s_46 => (mm_bd (fx_X10_cellOf w0 (1 : Int32) s_46) fun r_47 s_47 => (mm_bd (fx_X10_wall v6 r_46 s_47) fun r_48 s_48 => (if v7 = (0 : Int32) then if r_46 = (4 : Int32) then fx_L_acts_J331 x1 x2 r_48 (-1000001 : Int32) s_48 else fx_L_acts_J331 x1 x2 r_48 ((1 : Int32) - ((r_47 >>> (r_46 &&& 31)) &&& (1 : Int32))) s_48 else fx_L_acts_J331 x1 x2 r_48 (-1000001 : Int32) s_48))) else if v3 = (7 : Int32) then mm_bd (fx_L_low (x2 >>> ((7 : Int32) &&& 31)) (5 : Int32) σ) fun r_39 s_39 => (mm_bd (fx_X10_count (3 : Int32) s_39) fun r_40 s_40 => (mm_bd (fx_X10_flag r_39 v6 s_40) fun r_41 s_41 => (if v7 = (0 : Int32) then if r_39 = (4 : Int32) then fx_L_acts_J415 x1 x2 r_41 (-1000001 : Int32) s_41 else if r_39 ≤ r_40 then if r_39 = r_40 then fx_L_acts_J415 x1 x2 r_41 (r_40 + (1 : Int32)) s_41 else fx_L_acts_J415 x1 x2 r_41 r_40 s_41 else fx_L_acts_J415 x1 x2 r_41 (-1000002 : Int32) s_41 else fx_L_acts_J415 x1 x2 r_41 (-1000001 : Int32) s_41))) else if (12 : Int32) ≤ v3 then if v3 = (12 : Int32) then mm_bd (fx_L_low x2 (21 : Int32) σ) fun r_27 s_27 => (mm_li (r_27 - (10 : Int32)) fun y_28 => (if v5 = v4 then fx_L_acts_J684 x1 x2 v5 y_28 (1 : Int32) s_27 else if y_28 < (-9 : Int32) then fx_L_acts_J684 x1 x2 v5 y_28 (1 : Int32) s_27 else if y_28 ≤ (9 : Int32) then fx_L_acts_J684 x1 x2 v5 y_28 (0 : Int32) s_27 else fx_L_acts_J684 x1 x2 v5 y_28 (1 : Int32) s_27)) else if (17 : Int32) ≤ v3 then if v3 = (17 : Int32) then mm_bd (fx_L_low x2 (4 : Int32) σ) fun r_19 s_19 => (if v4 = (0 : Int32) then fx_L_acts_J917 x1 x2 v4 w0 r_19 (0 : Int32) s_19 else mm_bd (fx_L_low (x2 >>> ((2 : Int32) &&& 31)) v4 s_19) fun r_21 s_21 => (fx_L_acts_J917 x1 x2 v4 w0 r_19 r_21 s_21)) else mm_bd (fx_L_types x2 σ) fun r_15 s_15 => (if r_15 = (0 : Int32) then some ((0 : Int32), s_15) else mm_bd (fx_L_reads  s_15) fun r_17 s_17 => (if r_17 = (0 : Int32) then some ((0 : Int32), s_17) else some ((1 : Int32), s_17))) else mm_bd (fx_X10_count (1 : Int32) σ) fun r_22 s_22 => (mm_bd (fx_X10_count (6 : Int32) s_22) fun r_23 s_23 => (if v3 = (16 : Int32) then mm_bd (fx_X10_round  s_23) fun r_26 s_26 => (fx_L_acts_J828 x1 x2 v3 v4 r_22 r_23 r_26 s_26) else mm_bd (fx_X10_phase  s_23) fun r_25 s_25 => (fx_L_acts_J828 x1 x2 v3 v4 r_22 r_23 r_25 s_25))) else mm_bd (fx_L_low x2 (6 : Int32) σ) fun r_32 s_32 => (mm_bd (fx_L_low (x2 >>> ((3 : Int32) &&& 31)) (8 : Int32) s_32) fun r_33 s_33 => (mm_bd (fx_L_low (x2 >>> ((6 : Int32) &&& 31)) (30 : Int32) s_33) fun r_34 s_34 => (if v5 = v4 then fx_L_acts_J489 x1 x2 v5 r_32 r_33 r_34 (1 : Int32) s_34 else if r_32 = (5 : Int32) then fx_L_acts_J489 x1 x2 v5 r_32 r_33 r_34 (1 : Int32) s_34 else if r_33 = (7 : Int32) then fx_L_acts_J489 x1 x2 v5 r_32 r_33 r_34 (1 : Int32) s_34 else if r_34 = (0 : Int32) then fx_L_acts_J489 x1 x2 v5 r_32 r_33 r_34 (1 : Int32) s_34 else fx_L_acts_J489 x1 x2 v5 r_32 r_33 r_34 (0 : Int32) s_34))) else mm_bd (fx_L_low (x2 >>> ((7 : Int32) &&& 31)) (10 : Int32) σ) fun r_51 s_51 => (mm_bd (fx_X10_cellOf w0 (0 : Int32) s_51) fun r_52 s_52 => (mm_bd (fx_X10_cellOf w0 (2 : Int32) s_52) fun r_53 s_53 => (if r_53 = (-1000004 : Int32) then fx_L_acts_J218 x1 x2 v6 v7 r_51 r_52 (0 : Int32) s_53 else fx_L_acts_J218 x1 x2 v6 v7 r_51 r_52 (1 : Int32) s_53))) else mm_bd (fx_L_low (x2 >>> ((7 : Int32) &&& 31)) (5 : Int32) σ) fun r_55 s_55 => (if v7 = (0 : Int32) then if r_55 = (4 : Int32) then fx_L_acts_J92 x1 x2 v4 v6 w0 r_55 (1 : Int32) s_55 else fx_L_acts_J92 x1 x2 v4 v6 w0 r_55 (0 : Int32) s_55 else fx_L_acts_J92 x1 x2 v4 v6 w0 r_55 (1 : Int32) s_55)
set_option maxHeartbeats 4000000 in
set_option maxRecDepth 100000 in
theorem cx_L_acts_J59 {p : Program} {l : Launch} {e : Env} {s : State} {m : MethodId} {args : Array Value} {below : List Frame} {meth : Method} {c : Code} {D : va_G} {ad : mm_A} {cA : Nat → ClassId} (x1 : Int32) (x2 : Int32)  (rv : Int32) (σ1 : mm_M)  (X : mm_X p s m args meth c cL_acts 15 (some .boolean) RL D ad cA) : ∀ (v3 : Int32) (v4 : Int32) (v5 : Int32) (v6 : Int32) (v7 : Int32) (w0 : Int32) (σ : mm_M) (H : Heap) (locs : List Loc) (ls : Array Slot), fx_L_acts_J59 x1 x2 v3 v4 v5 v6 v7 w0 σ = some (rv, σ1) → va_P D vwCl (mm_wd ad cA σ) H → va_S (mm_AS ad) s.heap H locs → lv_has ls 15 [(0, .ref (ad 6 9 0)), (2, .int x2), (3, .int v3), (4, .int v4), (5, .int v5), (6, .int v6), (7, .int v7)] → W p l e (mm_rm 9 208) s m args below meth c H locs 0 0 (MQ below (mm_Q D ad cA (some (.int rv)) σ1) args s 0 0 (mm_AS ad)) (F0 m 59 ls [.int w0]) := by
  have hx := X.1
  have hb := X.2.1
  have hI := X.2.2.2.2.2.2.2.2.2
  intro v3 v4 v5 v6 v7 w0 σ H locs ls hf hP hS hl
  rw [fx_L_acts_J59] at hf
  refine lv_istore (lv' := [(8, .int w0), (0, .ref (ad 6 9 0)), (2, .int x2), (3, .int v3), (4, .int v4), (5, .int v5), (6, .int v6), (7, .int v7)]) hx hb dL_acts_59 hl (by decide) rfl (fun ls hl => ?_)
  refine lv_iload_n hx hb dL_acts_61 rfl (lv_at hl 3 rfl) ?_
  refine lv_iconst (v := (3 : Int32)) hx hb dL_acts_62 (by decide) ?_
  refine lv_icmp_ge (tgt := 175) hx hb dL_acts_63 (by decide) (fun c_7 => ?_) (fun c_7 => ?_)
  · replace hf := mm_it c_7 hf
    refine lv_iload_n hx hb dL_acts_175 rfl (lv_at hl 3 rfl) ?_
    refine lv_bipush (v := (6 : Int32)) hx hb dL_acts_176 (by decide) ?_
    refine lv_icmp_ge (tgt := 273) hx hb dL_acts_178 (by decide) (fun c_8 => ?_) (fun c_8 => ?_)
    · replace hf := mm_it c_8 hf
      refine lv_iload_n hx hb dL_acts_273 rfl (lv_at hl 3 rfl) ?_
      refine lv_bipush (v := (6 : Int32)) hx hb dL_acts_274 (by decide) ?_
      refine lv_icmp_ne (tgt := 340) hx hb dL_acts_276 (by decide) (fun c_9 => ?_) (fun c_9 => ?_)
      · replace hf := mm_if c_9 hf
        refine lv_iload_n hx hb dL_acts_340 rfl (lv_at hl 3 rfl) ?_
        refine lv_bipush (v := (7 : Int32)) hx hb dL_acts_341 (by decide) ?_
        refine lv_icmp_ne (tgt := 424) hx hb dL_acts_343 (by decide) (fun c_10 => ?_) (fun c_10 => ?_)
        · replace hf := mm_if c_10 hf
          refine lv_iload_n hx hb dL_acts_424 rfl (lv_at hl 3 rfl) ?_
          refine lv_bipush (v := (12 : Int32)) hx hb dL_acts_425 (by decide) ?_
          refine lv_icmp_ge (tgt := 641) hx hb dL_acts_427 (by decide) (fun c_11 => ?_) (fun c_11 => ?_)
          · replace hf := mm_it c_11 hf
            refine lv_iload_n hx hb dL_acts_641 rfl (lv_at hl 3 rfl) ?_
            refine lv_bipush (v := (12 : Int32)) hx hb dL_acts_642 (by decide) ?_
            refine lv_icmp_ne (tgt := 790) hx hb dL_acts_644 (by decide) (fun c_12 => ?_) (fun c_12 => ?_)
            · replace hf := mm_if c_12 hf
              refine lv_iload_n hx hb dL_acts_790 rfl (lv_at hl 3 rfl) ?_
              refine lv_bipush (v := (17 : Int32)) hx hb dL_acts_791 (by decide) ?_
              refine lv_icmp_ge (tgt := 887) hx hb dL_acts_793 (by decide) (fun c_13 => ?_) (fun c_13 => ?_)
              · replace hf := mm_it c_13 hf
                refine lv_iload_n hx hb dL_acts_887 rfl (lv_at hl 3 rfl) ?_
                refine lv_bipush (v := (17 : Int32)) hx hb dL_acts_888 (by decide) ?_
                refine lv_icmp_ne (tgt := 1023) hx hb dL_acts_890 (by decide) (fun c_14 => ?_) (fun c_14 => ?_)
                · replace hf := mm_if c_14 hf
                  refine lv_aload_n hx hb dL_acts_1023 rfl (lv_at hl 1 rfl) ?_
                  refine lv_iload_n hx hb dL_acts_1024 rfl (lv_at hl 2 rfl) ?_
                  obtain ⟨r_15, s_15, e_15, hf⟩ := mm_bd_ok hf
                  refine mm_callS X hP hS hl.1 [.ref (ad 6 9 0), .int x2] [] (cx_L_types l D ad cA hI x2 σ r_15 s_15 e_15) wd_721 wd_722 wd_0 wd_723 hd_L_types ⟨Nat.le_of_ble_eq_true rfl, Nat.le_of_ble_eq_true rfl⟩ rfl (Nat.le_of_ble_eq_true rfl) dL_acts_1025 (fun H locs hP hS => ?_)
                  refine lv_if_eq (tgt := 1042) hx hb dL_acts_1028 (by decide) (fun c_16 => ?_) (fun c_16 => ?_)
                  · replace hf := mm_it c_16 hf
                    refine lv_iconst (v := (0 : Int32)) hx hb dL_acts_1042 (by decide) ?_
                    obtain ⟨rfl, rfl⟩ := mm_ret hf
                    exact mm_zret (Or.inl rfl) X hP hS dL_acts_1043
                  · replace hf := mm_if c_16 hf
                    refine lv_aload_n hx hb dL_acts_1031 rfl (lv_at hl 1 rfl) ?_
                    obtain ⟨r_17, s_17, e_17, hf⟩ := mm_bd_ok hf
                    refine mm_callS X hP hS hl.1 [.ref (ad 6 9 0)] [] (cx_L_reads l D ad cA hI  s_15 r_17 s_17 e_17) wd_740 wd_741 wd_0 wd_742 hd_L_reads ⟨Nat.le_of_ble_eq_true rfl, Nat.le_of_ble_eq_true rfl⟩ rfl (Nat.le_of_ble_eq_true rfl) dL_acts_1032 (fun H locs hP hS => ?_)
                    refine lv_if_eq (tgt := 1042) hx hb dL_acts_1035 (by decide) (fun c_18 => ?_) (fun c_18 => ?_)
                    · replace hf := mm_it c_18 hf
                      refine lv_iconst (v := (0 : Int32)) hx hb dL_acts_1042 (by decide) ?_
                      obtain ⟨rfl, rfl⟩ := mm_ret hf
                      exact mm_zret (Or.inl rfl) X hP hS dL_acts_1043
                    · replace hf := mm_if c_18 hf
                      refine lv_iconst (v := (1 : Int32)) hx hb dL_acts_1038 (by decide) ?_
                      refine lv_goto (tgt := 1043) hx hb dL_acts_1039 (by decide) ?_
                      obtain ⟨rfl, rfl⟩ := mm_ret hf
                      exact mm_zret (Or.inr rfl) X hP hS dL_acts_1043
                · replace hf := mm_it c_14 hf
                  refine lv_iload_n hx hb dL_acts_893 rfl (lv_at hl 2 rfl) ?_
                  refine lv_iconst (v := (4 : Int32)) hx hb dL_acts_894 (by decide) ?_
                  obtain ⟨r_19, s_19, e_19, hf⟩ := mm_bd_ok hf
                  refine mm_callS X hP hS hl.1 [.int x2, .int (4 : Int32)] [] (cx_L_low l D ad cA hI x2 (4 : Int32) σ r_19 s_19 e_19) wd_348 wd_349 wd_0 wd_350 hd_L_low ⟨Nat.le_of_ble_eq_true rfl, Nat.le_of_ble_eq_true rfl⟩ rfl (Nat.le_of_ble_eq_true rfl) dL_acts_895 (fun H locs hP hS => ?_)
                  refine lv_istore (lv' := [(9, .int r_19), (8, .int w0), (0, .ref (ad 6 9 0)), (2, .int x2), (3, .int v3), (4, .int v4), (5, .int v5), (6, .int v6), (7, .int v7)]) hx hb dL_acts_898 hl (by decide) rfl (fun ls hl => ?_)
                  refine lv_iload hx hb dL_acts_900 (lv_at hl 5 rfl) ?_
                  refine lv_if_ne (tgt := 909) hx hb dL_acts_902 (by decide) (fun c_20 => ?_) (fun c_20 => ?_)
                  · replace hf := mm_if c_20 hf
                    refine lv_iload_n hx hb dL_acts_909 rfl (lv_at hl 3 rfl) ?_
                    refine lv_iconst (v := (2 : Int32)) hx hb dL_acts_910 (by decide) ?_
                    refine lv_ishr hx hb dL_acts_911 ?_
                    refine lv_iload hx hb dL_acts_912 (lv_at hl 5 rfl) ?_
                    obtain ⟨r_21, s_21, e_21, hf⟩ := mm_bd_ok hf
                    refine mm_callS X hP hS hl.1 [.int (x2 >>> ((2 : Int32) &&& 31)), .int v4] [] (cx_L_low l D ad cA hI (x2 >>> ((2 : Int32) &&& 31)) v4 s_19 r_21 s_21 e_21) wd_348 wd_349 wd_0 wd_350 hd_L_low ⟨Nat.le_of_ble_eq_true rfl, Nat.le_of_ble_eq_true rfl⟩ rfl (Nat.le_of_ble_eq_true rfl) dL_acts_914 (fun H locs hP hS => ?_)
                    exact cx_L_acts_J917 x1 x2 rv σ1 X v4 w0 r_19 r_21 s_21 H locs ls hf hP hS (lv_sub hl [2, 3, 5, 1, 0] rfl)
                  · replace hf := mm_it c_20 hf
                    refine lv_iconst (v := (0 : Int32)) hx hb dL_acts_905 (by decide) ?_
                    refine lv_goto (tgt := 917) hx hb dL_acts_906 (by decide) ?_
                    exact cx_L_acts_J917 x1 x2 rv σ1 X v4 w0 r_19 (0 : Int32) s_19 H locs ls hf hP hS (lv_sub hl [2, 3, 5, 1, 0] rfl)
              · replace hf := mm_if c_13 hf
                refine lv_aload_n hx hb dL_acts_796 rfl (lv_at hl 1 rfl) ?_
                refine lv_iconst (v := (1 : Int32)) hx hb dL_acts_797 (by decide) ?_
                obtain ⟨r_22, s_22, e_22, hf⟩ := mm_bd_ok hf
                refine mm_callV X hP hS hl.1 [.int (1 : Int32)] [] (cx_X10_count l D ad cA hI (1 : Int32) σ r_22 s_22 e_22) kp_9 rfl rfl wd_305 wd_306 wd_307 wd_1 wd_308 hd_X10_count ⟨Nat.le_of_ble_eq_true rfl, Nat.le_of_ble_eq_true rfl⟩ rfl (Nat.le_of_ble_eq_true rfl) dL_acts_798 (fun H locs hP hS => ?_)
                refine lv_istore (lv' := [(9, .int r_22), (8, .int w0), (0, .ref (ad 6 9 0)), (2, .int x2), (3, .int v3), (4, .int v4), (5, .int v5), (6, .int v6), (7, .int v7)]) hx hb dL_acts_801 hl (by decide) rfl (fun ls hl => ?_)
                refine lv_aload_n hx hb dL_acts_803 rfl (lv_at hl 2 rfl) ?_
                refine lv_bipush (v := (6 : Int32)) hx hb dL_acts_804 (by decide) ?_
                obtain ⟨r_23, s_23, e_23, hf⟩ := mm_bd_ok hf
                refine mm_callV X hP hS hl.1 [.int (6 : Int32)] [] (cx_X10_count l D ad cA hI (6 : Int32) s_22 r_23 s_23 e_23) kp_9 rfl rfl wd_305 wd_306 wd_307 wd_1 wd_308 hd_X10_count ⟨Nat.le_of_ble_eq_true rfl, Nat.le_of_ble_eq_true rfl⟩ rfl (Nat.le_of_ble_eq_true rfl) dL_acts_806 (fun H locs hP hS => ?_)
                refine lv_istore (lv' := [(10, .int r_23), (9, .int r_22), (8, .int w0), (0, .ref (ad 6 9 0)), (2, .int x2), (3, .int v3), (4, .int v4), (5, .int v5), (6, .int v6), (7, .int v7)]) hx hb dL_acts_809 hl (by decide) rfl (fun ls hl => ?_)
                refine lv_iload_n hx hb dL_acts_811 rfl (lv_at hl 5 rfl) ?_
                refine lv_bipush (v := (16 : Int32)) hx hb dL_acts_812 (by decide) ?_
                refine lv_icmp_ne (tgt := 824) hx hb dL_acts_814 (by decide) (fun c_24 => ?_) (fun c_24 => ?_)
                · replace hf := mm_if c_24 hf
                  refine lv_aload_n hx hb dL_acts_824 rfl (lv_at hl 3 rfl) ?_
                  obtain ⟨r_25, s_25, e_25, hf⟩ := mm_bd_ok hf
                  refine mm_callV X hP hS hl.1 [] [] (cx_X10_phase l D ad cA hI  s_23 r_25 s_25 e_25) kp_9 rfl rfl wd_672 wd_673 wd_674 wd_1 wd_675 hd_X10_phase ⟨Nat.le_of_ble_eq_true rfl, Nat.le_of_ble_eq_true rfl⟩ rfl (Nat.le_of_ble_eq_true rfl) dL_acts_825 (fun H locs hP hS => ?_)
                  exact cx_L_acts_J828 x1 x2 rv σ1 X v3 v4 r_22 r_23 r_25 s_25 H locs ls hf hP hS (lv_sub hl [3, 5, 6, 1, 0] rfl)
                · replace hf := mm_it c_24 hf
                  refine lv_aload_n hx hb dL_acts_817 rfl (lv_at hl 3 rfl) ?_
                  obtain ⟨r_26, s_26, e_26, hf⟩ := mm_bd_ok hf
                  refine mm_callV X hP hS hl.1 [] [] (cx_X10_round l D ad cA hI  s_23 r_26 s_26 e_26) kp_9 rfl rfl wd_567 wd_568 wd_569 wd_1 wd_570 hd_X10_round ⟨Nat.le_of_ble_eq_true rfl, Nat.le_of_ble_eq_true rfl⟩ rfl (Nat.le_of_ble_eq_true rfl) dL_acts_818 (fun H locs hP hS => ?_)
                  refine lv_goto (tgt := 828) hx hb dL_acts_821 (by decide) ?_
                  exact cx_L_acts_J828 x1 x2 rv σ1 X v3 v4 r_22 r_23 r_26 s_26 H locs ls hf hP hS (lv_sub hl [3, 5, 6, 1, 0] rfl)
            · replace hf := mm_it c_12 hf
              refine lv_iload_n hx hb dL_acts_647 rfl (lv_at hl 2 rfl) ?_
              refine lv_bipush (v := (21 : Int32)) hx hb dL_acts_648 (by decide) ?_
              obtain ⟨r_27, s_27, e_27, hf⟩ := mm_bd_ok hf
              refine mm_callS X hP hS hl.1 [.int x2, .int (21 : Int32)] [] (cx_L_low l D ad cA hI x2 (21 : Int32) σ r_27 s_27 e_27) wd_348 wd_349 wd_0 wd_350 hd_L_low ⟨Nat.le_of_ble_eq_true rfl, Nat.le_of_ble_eq_true rfl⟩ rfl (Nat.le_of_ble_eq_true rfl) dL_acts_650 (fun H locs hP hS => ?_)
              refine lv_bipush (v := (10 : Int32)) hx hb dL_acts_653 (by decide) ?_
              refine lv_isub hx hb dL_acts_655 ?_
              obtain ⟨y_28, e_28, hf⟩ := mm_li_ok hf
              rw [← e_28]
              refine lv_istore (lv' := [(9, .int y_28), (8, .int w0), (0, .ref (ad 6 9 0)), (2, .int x2), (3, .int v3), (4, .int v4), (5, .int v5), (6, .int v6), (7, .int v7)]) hx hb dL_acts_656 hl (by decide) rfl (fun ls hl => ?_)
              refine lv_iload hx hb dL_acts_658 (lv_at hl 6 rfl) ?_
              refine lv_iload hx hb dL_acts_660 (lv_at hl 5 rfl) ?_
              refine lv_icmp_eq (tgt := 679) hx hb dL_acts_662 (by decide) (fun c_29 => ?_) (fun c_29 => ?_)
              · replace hf := mm_it c_29 hf
                refine lv_iconst (v := (1 : Int32)) hx hb dL_acts_679 (by decide) ?_
                refine lv_goto (tgt := 684) hx hb dL_acts_680 (by decide) ?_
                exact cx_L_acts_J684 x1 x2 rv σ1 X v5 y_28 (1 : Int32) s_27 H locs ls hf hP hS (lv_sub hl [2, 6, 0] rfl)
              · replace hf := mm_if c_29 hf
                refine lv_iload hx hb dL_acts_665 (lv_at hl 0 rfl) ?_
                refine lv_bipush (v := (-9 : Int32)) hx hb dL_acts_667 (by decide) ?_
                refine lv_icmp_lt (tgt := 679) hx hb dL_acts_669 (by decide) (fun c_30 => ?_) (fun c_30 => ?_)
                · replace hf := mm_it c_30 hf
                  refine lv_iconst (v := (1 : Int32)) hx hb dL_acts_679 (by decide) ?_
                  refine lv_goto (tgt := 684) hx hb dL_acts_680 (by decide) ?_
                  exact cx_L_acts_J684 x1 x2 rv σ1 X v5 y_28 (1 : Int32) s_27 H locs ls hf hP hS (lv_sub hl [2, 6, 0] rfl)
                · replace hf := mm_if c_30 hf
                  refine lv_iload hx hb dL_acts_672 (lv_at hl 0 rfl) ?_
                  refine lv_bipush (v := (9 : Int32)) hx hb dL_acts_674 (by decide) ?_
                  refine lv_icmp_le (tgt := 683) hx hb dL_acts_676 (by decide) (fun c_31 => ?_) (fun c_31 => ?_)
                  · replace hf := mm_it c_31 hf
                    refine lv_iconst (v := (0 : Int32)) hx hb dL_acts_683 (by decide) ?_
                    exact cx_L_acts_J684 x1 x2 rv σ1 X v5 y_28 (0 : Int32) s_27 H locs ls hf hP hS (lv_sub hl [2, 6, 0] rfl)
                  · replace hf := mm_if c_31 hf
                    refine lv_iconst (v := (1 : Int32)) hx hb dL_acts_679 (by decide) ?_
                    refine lv_goto (tgt := 684) hx hb dL_acts_680 (by decide) ?_
                    exact cx_L_acts_J684 x1 x2 rv σ1 X v5 y_28 (1 : Int32) s_27 H locs ls hf hP hS (lv_sub hl [2, 6, 0] rfl)
          · replace hf := mm_if c_11 hf
            refine lv_iload_n hx hb dL_acts_430 rfl (lv_at hl 2 rfl) ?_
            refine lv_bipush (v := (6 : Int32)) hx hb dL_acts_431 (by decide) ?_
            obtain ⟨r_32, s_32, e_32, hf⟩ := mm_bd_ok hf
            refine mm_callS X hP hS hl.1 [.int x2, .int (6 : Int32)] [] (cx_L_low l D ad cA hI x2 (6 : Int32) σ r_32 s_32 e_32) wd_348 wd_349 wd_0 wd_350 hd_L_low ⟨Nat.le_of_ble_eq_true rfl, Nat.le_of_ble_eq_true rfl⟩ rfl (Nat.le_of_ble_eq_true rfl) dL_acts_433 (fun H locs hP hS => ?_)
            refine lv_istore (lv' := [(9, .int r_32), (8, .int w0), (0, .ref (ad 6 9 0)), (2, .int x2), (3, .int v3), (4, .int v4), (5, .int v5), (6, .int v6), (7, .int v7)]) hx hb dL_acts_436 hl (by decide) rfl (fun ls hl => ?_)
            refine lv_iload_n hx hb dL_acts_438 rfl (lv_at hl 3 rfl) ?_
            refine lv_iconst (v := (3 : Int32)) hx hb dL_acts_439 (by decide) ?_
            refine lv_ishr hx hb dL_acts_440 ?_
            refine lv_bipush (v := (8 : Int32)) hx hb dL_acts_441 (by decide) ?_
            obtain ⟨r_33, s_33, e_33, hf⟩ := mm_bd_ok hf
            refine mm_callS X hP hS hl.1 [.int (x2 >>> ((3 : Int32) &&& 31)), .int (8 : Int32)] [] (cx_L_low l D ad cA hI (x2 >>> ((3 : Int32) &&& 31)) (8 : Int32) s_32 r_33 s_33 e_33) wd_348 wd_349 wd_0 wd_350 hd_L_low ⟨Nat.le_of_ble_eq_true rfl, Nat.le_of_ble_eq_true rfl⟩ rfl (Nat.le_of_ble_eq_true rfl) dL_acts_443 (fun H locs hP hS => ?_)
            refine lv_istore (lv' := [(10, .int r_33), (9, .int r_32), (8, .int w0), (0, .ref (ad 6 9 0)), (2, .int x2), (3, .int v3), (4, .int v4), (5, .int v5), (6, .int v6), (7, .int v7)]) hx hb dL_acts_446 hl (by decide) rfl (fun ls hl => ?_)
            refine lv_iload_n hx hb dL_acts_448 rfl (lv_at hl 4 rfl) ?_
            refine lv_bipush (v := (6 : Int32)) hx hb dL_acts_449 (by decide) ?_
            refine lv_ishr hx hb dL_acts_451 ?_
            refine lv_bipush (v := (30 : Int32)) hx hb dL_acts_452 (by decide) ?_
            obtain ⟨r_34, s_34, e_34, hf⟩ := mm_bd_ok hf
            refine mm_callS X hP hS hl.1 [.int (x2 >>> ((6 : Int32) &&& 31)), .int (30 : Int32)] [] (cx_L_low l D ad cA hI (x2 >>> ((6 : Int32) &&& 31)) (30 : Int32) s_33 r_34 s_34 e_34) wd_348 wd_349 wd_0 wd_350 hd_L_low ⟨Nat.le_of_ble_eq_true rfl, Nat.le_of_ble_eq_true rfl⟩ rfl (Nat.le_of_ble_eq_true rfl) dL_acts_454 (fun H locs hP hS => ?_)
            refine lv_istore (lv' := [(11, .int r_34), (10, .int r_33), (9, .int r_32), (8, .int w0), (0, .ref (ad 6 9 0)), (2, .int x2), (3, .int v3), (4, .int v4), (5, .int v5), (6, .int v6), (7, .int v7)]) hx hb dL_acts_457 hl (by decide) rfl (fun ls hl => ?_)
            refine lv_iload hx hb dL_acts_459 (lv_at hl 8 rfl) ?_
            refine lv_iload hx hb dL_acts_461 (lv_at hl 7 rfl) ?_
            refine lv_icmp_eq (tgt := 484) hx hb dL_acts_463 (by decide) (fun c_35 => ?_) (fun c_35 => ?_)
            · replace hf := mm_it c_35 hf
              refine lv_iconst (v := (1 : Int32)) hx hb dL_acts_484 (by decide) ?_
              refine lv_goto (tgt := 489) hx hb dL_acts_485 (by decide) ?_
              exact cx_L_acts_J489 x1 x2 rv σ1 X v5 r_32 r_33 r_34 (1 : Int32) s_34 H locs ls hf hP hS (lv_sub hl [4, 8, 2, 1, 0] rfl)
            · replace hf := mm_if c_35 hf
              refine lv_iload hx hb dL_acts_466 (lv_at hl 2 rfl) ?_
              refine lv_iconst (v := (5 : Int32)) hx hb dL_acts_468 (by decide) ?_
              refine lv_icmp_eq (tgt := 484) hx hb dL_acts_469 (by decide) (fun c_36 => ?_) (fun c_36 => ?_)
              · replace hf := mm_it c_36 hf
                refine lv_iconst (v := (1 : Int32)) hx hb dL_acts_484 (by decide) ?_
                refine lv_goto (tgt := 489) hx hb dL_acts_485 (by decide) ?_
                exact cx_L_acts_J489 x1 x2 rv σ1 X v5 r_32 r_33 r_34 (1 : Int32) s_34 H locs ls hf hP hS (lv_sub hl [4, 8, 2, 1, 0] rfl)
              · replace hf := mm_if c_36 hf
                refine lv_iload hx hb dL_acts_472 (lv_at hl 1 rfl) ?_
                refine lv_bipush (v := (7 : Int32)) hx hb dL_acts_474 (by decide) ?_
                refine lv_icmp_eq (tgt := 484) hx hb dL_acts_476 (by decide) (fun c_37 => ?_) (fun c_37 => ?_)
                · replace hf := mm_it c_37 hf
                  refine lv_iconst (v := (1 : Int32)) hx hb dL_acts_484 (by decide) ?_
                  refine lv_goto (tgt := 489) hx hb dL_acts_485 (by decide) ?_
                  exact cx_L_acts_J489 x1 x2 rv σ1 X v5 r_32 r_33 r_34 (1 : Int32) s_34 H locs ls hf hP hS (lv_sub hl [4, 8, 2, 1, 0] rfl)
                · replace hf := mm_if c_37 hf
                  refine lv_iload hx hb dL_acts_479 (lv_at hl 0 rfl) ?_
                  refine lv_if_ne (tgt := 488) hx hb dL_acts_481 (by decide) (fun c_38 => ?_) (fun c_38 => ?_)
                  · replace hf := mm_if c_38 hf
                    refine lv_iconst (v := (0 : Int32)) hx hb dL_acts_488 (by decide) ?_
                    exact cx_L_acts_J489 x1 x2 rv σ1 X v5 r_32 r_33 r_34 (0 : Int32) s_34 H locs ls hf hP hS (lv_sub hl [4, 8, 2, 1, 0] rfl)
                  · replace hf := mm_it c_38 hf
                    refine lv_iconst (v := (1 : Int32)) hx hb dL_acts_484 (by decide) ?_
                    refine lv_goto (tgt := 489) hx hb dL_acts_485 (by decide) ?_
                    exact cx_L_acts_J489 x1 x2 rv σ1 X v5 r_32 r_33 r_34 (1 : Int32) s_34 H locs ls hf hP hS (lv_sub hl [4, 8, 2, 1, 0] rfl)
        · replace hf := mm_it c_10 hf
          refine lv_iload_n hx hb dL_acts_346 rfl (lv_at hl 2 rfl) ?_
          refine lv_bipush (v := (7 : Int32)) hx hb dL_acts_347 (by decide) ?_
          refine lv_ishr hx hb dL_acts_349 ?_
          refine lv_iconst (v := (5 : Int32)) hx hb dL_acts_350 (by decide) ?_
          obtain ⟨r_39, s_39, e_39, hf⟩ := mm_bd_ok hf
          refine mm_callS X hP hS hl.1 [.int (x2 >>> ((7 : Int32) &&& 31)), .int (5 : Int32)] [] (cx_L_low l D ad cA hI (x2 >>> ((7 : Int32) &&& 31)) (5 : Int32) σ r_39 s_39 e_39) wd_348 wd_349 wd_0 wd_350 hd_L_low ⟨Nat.le_of_ble_eq_true rfl, Nat.le_of_ble_eq_true rfl⟩ rfl (Nat.le_of_ble_eq_true rfl) dL_acts_351 (fun H locs hP hS => ?_)
          refine lv_istore (lv' := [(9, .int r_39), (8, .int w0), (0, .ref (ad 6 9 0)), (2, .int x2), (3, .int v3), (4, .int v4), (5, .int v5), (6, .int v6), (7, .int v7)]) hx hb dL_acts_354 hl (by decide) rfl (fun ls hl => ?_)
          refine lv_aload_n hx hb dL_acts_356 rfl (lv_at hl 2 rfl) ?_
          refine lv_iconst (v := (3 : Int32)) hx hb dL_acts_357 (by decide) ?_
          obtain ⟨r_40, s_40, e_40, hf⟩ := mm_bd_ok hf
          refine mm_callV X hP hS hl.1 [.int (3 : Int32)] [] (cx_X10_count l D ad cA hI (3 : Int32) s_39 r_40 s_40 e_40) kp_9 rfl rfl wd_305 wd_306 wd_307 wd_1 wd_308 hd_X10_count ⟨Nat.le_of_ble_eq_true rfl, Nat.le_of_ble_eq_true rfl⟩ rfl (Nat.le_of_ble_eq_true rfl) dL_acts_358 (fun H locs hP hS => ?_)
          refine lv_istore (lv' := [(10, .int r_40), (9, .int r_39), (8, .int w0), (0, .ref (ad 6 9 0)), (2, .int x2), (3, .int v3), (4, .int v4), (5, .int v5), (6, .int v6), (7, .int v7)]) hx hb dL_acts_361 hl (by decide) rfl (fun ls hl => ?_)
          refine lv_aload_n hx hb dL_acts_363 rfl (lv_at hl 3 rfl) ?_
          refine lv_iload hx hb dL_acts_364 (lv_at hl 1 rfl) ?_
          refine lv_iload hx hb dL_acts_366 (lv_at hl 8 rfl) ?_
          obtain ⟨r_41, s_41, e_41, hf⟩ := mm_bd_ok hf
          refine mm_callV X hP hS hl.1 [.int r_39, .int v6] [] (cx_X10_flag l D ad cA hI r_39 v6 s_40 r_41 s_41 e_41) kp_9 rfl rfl wd_518 wd_519 wd_520 wd_1 wd_521 hd_X10_flag ⟨Nat.le_of_ble_eq_true rfl, Nat.le_of_ble_eq_true rfl⟩ rfl (Nat.le_of_ble_eq_true rfl) dL_acts_368 (fun H locs hP hS => ?_)
          refine lv_iload hx hb dL_acts_371 (lv_at hl 9 rfl) ?_
          refine lv_if_ne (tgt := 382) hx hb dL_acts_373 (by decide) (fun c_42 => ?_) (fun c_42 => ?_)
          · replace hf := mm_if c_42 hf
            refine lv_ldc (v := (-1000001 : Int32)) hx hb X.2.2.2.2.2.1 (X.2.2.2.2.2.2.1 _ wd_480) dL_acts_382 ?_
            refine lv_goto (tgt := 415) hx hb dL_acts_384 (by decide) ?_
            exact cx_L_acts_J415 x1 x2 rv σ1 X r_41 (-1000001 : Int32) s_41 H locs ls hf hP hS (lv_sub hl [] rfl)
          · replace hf := mm_it c_42 hf
            refine lv_iload hx hb dL_acts_376 (lv_at hl 1 rfl) ?_
            refine lv_iconst (v := (4 : Int32)) hx hb dL_acts_378 (by decide) ?_
            refine lv_icmp_ne (tgt := 387) hx hb dL_acts_379 (by decide) (fun c_43 => ?_) (fun c_43 => ?_)
            · replace hf := mm_if c_43 hf
              refine lv_iload hx hb dL_acts_387 (lv_at hl 1 rfl) ?_
              refine lv_iload hx hb dL_acts_389 (lv_at hl 0 rfl) ?_
              refine lv_icmp_le (tgt := 399) hx hb dL_acts_391 (by decide) (fun c_44 => ?_) (fun c_44 => ?_)
              · replace hf := mm_it c_44 hf
                refine lv_iload hx hb dL_acts_399 (lv_at hl 1 rfl) ?_
                refine lv_iload hx hb dL_acts_401 (lv_at hl 0 rfl) ?_
                refine lv_icmp_ne (tgt := 413) hx hb dL_acts_403 (by decide) (fun c_45 => ?_) (fun c_45 => ?_)
                · replace hf := mm_if c_45 hf
                  refine lv_iload hx hb dL_acts_413 (lv_at hl 0 rfl) ?_
                  exact cx_L_acts_J415 x1 x2 rv σ1 X r_41 r_40 s_41 H locs ls hf hP hS (lv_sub hl [] rfl)
                · replace hf := mm_it c_45 hf
                  refine lv_iload hx hb dL_acts_406 (lv_at hl 0 rfl) ?_
                  refine lv_iconst (v := (1 : Int32)) hx hb dL_acts_408 (by decide) ?_
                  refine lv_iadd hx hb dL_acts_409 ?_
                  refine lv_goto (tgt := 415) hx hb dL_acts_410 (by decide) ?_
                  exact cx_L_acts_J415 x1 x2 rv σ1 X r_41 (r_40 + (1 : Int32)) s_41 H locs ls hf hP hS (lv_sub hl [] rfl)
              · replace hf := mm_if c_44 hf
                refine lv_ldc (v := (-1000002 : Int32)) hx hb X.2.2.2.2.2.1 (X.2.2.2.2.2.2.1 _ wd_481) dL_acts_394 ?_
                refine lv_goto (tgt := 415) hx hb dL_acts_396 (by decide) ?_
                exact cx_L_acts_J415 x1 x2 rv σ1 X r_41 (-1000002 : Int32) s_41 H locs ls hf hP hS (lv_sub hl [] rfl)
            · replace hf := mm_it c_43 hf
              refine lv_ldc (v := (-1000001 : Int32)) hx hb X.2.2.2.2.2.1 (X.2.2.2.2.2.2.1 _ wd_480) dL_acts_382 ?_
              refine lv_goto (tgt := 415) hx hb dL_acts_384 (by decide) ?_
              exact cx_L_acts_J415 x1 x2 rv σ1 X r_41 (-1000001 : Int32) s_41 H locs ls hf hP hS (lv_sub hl [] rfl)
      · replace hf := mm_it c_9 hf
        refine lv_iload_n hx hb dL_acts_279 rfl (lv_at hl 2 rfl) ?_
        refine lv_bipush (v := (7 : Int32)) hx hb dL_acts_280 (by decide) ?_
        refine lv_ishr hx hb dL_acts_282 ?_
        refine lv_iconst (v := (5 : Int32)) hx hb dL_acts_283 (by decide) ?_
        obtain ⟨r_46, s_46, e_46, hf⟩ := mm_bd_ok hf
        refine mm_callS X hP hS hl.1 [.int (x2 >>> ((7 : Int32) &&& 31)), .int (5 : Int32)] [] (cx_L_low l D ad cA hI (x2 >>> ((7 : Int32) &&& 31)) (5 : Int32) σ r_46 s_46 e_46) wd_348 wd_349 wd_0 wd_350 hd_L_low ⟨Nat.le_of_ble_eq_true rfl, Nat.le_of_ble_eq_true rfl⟩ rfl (Nat.le_of_ble_eq_true rfl) dL_acts_284 (fun H locs hP hS => ?_)
        refine lv_istore (lv' := [(9, .int r_46), (8, .int w0), (0, .ref (ad 6 9 0)), (2, .int x2), (3, .int v3), (4, .int v4), (5, .int v5), (6, .int v6), (7, .int v7)]) hx hb dL_acts_287 hl (by decide) rfl (fun ls hl => ?_)
        refine lv_aload_n hx hb dL_acts_289 rfl (lv_at hl 2 rfl) ?_
        refine lv_iload hx hb dL_acts_290 (lv_at hl 1 rfl) ?_
        refine lv_iconst (v := (1 : Int32)) hx hb dL_acts_292 (by decide) ?_
        obtain ⟨r_47, s_47, e_47, hf⟩ := mm_bd_ok hf
        refine mm_callV X hP hS hl.1 [.int w0, .int (1 : Int32)] [] (cx_X10_cellOf l D ad cA hI w0 (1 : Int32) s_46 r_47 s_47 e_47) kp_9 rfl rfl wd_357 wd_358 wd_359 wd_1 wd_360 hd_X10_cellOf ⟨Nat.le_of_ble_eq_true rfl, Nat.le_of_ble_eq_true rfl⟩ rfl (Nat.le_of_ble_eq_true rfl) dL_acts_293 (fun H locs hP hS => ?_)
        refine lv_istore (lv' := [(10, .int r_47), (9, .int r_46), (8, .int w0), (0, .ref (ad 6 9 0)), (2, .int x2), (3, .int v3), (4, .int v4), (5, .int v5), (6, .int v6), (7, .int v7)]) hx hb dL_acts_296 hl (by decide) rfl (fun ls hl => ?_)
        refine lv_aload_n hx hb dL_acts_298 rfl (lv_at hl 3 rfl) ?_
        refine lv_iload hx hb dL_acts_299 (lv_at hl 8 rfl) ?_
        refine lv_iload hx hb dL_acts_301 (lv_at hl 1 rfl) ?_
        obtain ⟨r_48, s_48, e_48, hf⟩ := mm_bd_ok hf
        refine mm_callV X hP hS hl.1 [.int v6, .int r_46] [] (cx_X10_wall l D ad cA hI v6 r_46 s_47 r_48 s_48 e_48) kp_9 rfl rfl wd_492 wd_493 wd_494 wd_1 wd_495 hd_X10_wall ⟨Nat.le_of_ble_eq_true rfl, Nat.le_of_ble_eq_true rfl⟩ rfl (Nat.le_of_ble_eq_true rfl) dL_acts_303 (fun H locs hP hS => ?_)
        refine lv_iload hx hb dL_acts_306 (lv_at hl 9 rfl) ?_
        refine lv_if_ne (tgt := 317) hx hb dL_acts_308 (by decide) (fun c_49 => ?_) (fun c_49 => ?_)
        · replace hf := mm_if c_49 hf
          refine lv_ldc (v := (-1000001 : Int32)) hx hb X.2.2.2.2.2.1 (X.2.2.2.2.2.2.1 _ wd_480) dL_acts_317 ?_
          refine lv_goto (tgt := 331) hx hb dL_acts_319 (by decide) ?_
          exact cx_L_acts_J331 x1 x2 rv σ1 X r_48 (-1000001 : Int32) s_48 H locs ls hf hP hS (lv_sub hl [] rfl)
        · replace hf := mm_it c_49 hf
          refine lv_iload hx hb dL_acts_311 (lv_at hl 1 rfl) ?_
          refine lv_iconst (v := (4 : Int32)) hx hb dL_acts_313 (by decide) ?_
          refine lv_icmp_ne (tgt := 322) hx hb dL_acts_314 (by decide) (fun c_50 => ?_) (fun c_50 => ?_)
          · replace hf := mm_if c_50 hf
            refine lv_iconst (v := (1 : Int32)) hx hb dL_acts_322 (by decide) ?_
            refine lv_iload hx hb dL_acts_323 (lv_at hl 0 rfl) ?_
            refine lv_iload hx hb dL_acts_325 (lv_at hl 1 rfl) ?_
            refine lv_ishr hx hb dL_acts_327 ?_
            refine lv_iconst (v := (1 : Int32)) hx hb dL_acts_328 (by decide) ?_
            refine lv_iand hx hb dL_acts_329 ?_
            refine lv_isub hx hb dL_acts_330 ?_
            exact cx_L_acts_J331 x1 x2 rv σ1 X r_48 ((1 : Int32) - ((r_47 >>> (r_46 &&& 31)) &&& (1 : Int32))) s_48 H locs ls hf hP hS (lv_sub hl [] rfl)
          · replace hf := mm_it c_50 hf
            refine lv_ldc (v := (-1000001 : Int32)) hx hb X.2.2.2.2.2.1 (X.2.2.2.2.2.2.1 _ wd_480) dL_acts_317 ?_
            refine lv_goto (tgt := 331) hx hb dL_acts_319 (by decide) ?_
            exact cx_L_acts_J331 x1 x2 rv σ1 X r_48 (-1000001 : Int32) s_48 H locs ls hf hP hS (lv_sub hl [] rfl)
    · replace hf := mm_if c_8 hf
      refine lv_iload_n hx hb dL_acts_181 rfl (lv_at hl 2 rfl) ?_
      refine lv_bipush (v := (7 : Int32)) hx hb dL_acts_182 (by decide) ?_
      refine lv_ishr hx hb dL_acts_184 ?_
      refine lv_bipush (v := (10 : Int32)) hx hb dL_acts_185 (by decide) ?_
      obtain ⟨r_51, s_51, e_51, hf⟩ := mm_bd_ok hf
      refine mm_callS X hP hS hl.1 [.int (x2 >>> ((7 : Int32) &&& 31)), .int (10 : Int32)] [] (cx_L_low l D ad cA hI (x2 >>> ((7 : Int32) &&& 31)) (10 : Int32) σ r_51 s_51 e_51) wd_348 wd_349 wd_0 wd_350 hd_L_low ⟨Nat.le_of_ble_eq_true rfl, Nat.le_of_ble_eq_true rfl⟩ rfl (Nat.le_of_ble_eq_true rfl) dL_acts_187 (fun H locs hP hS => ?_)
      refine lv_istore (lv' := [(9, .int r_51), (8, .int w0), (0, .ref (ad 6 9 0)), (2, .int x2), (3, .int v3), (4, .int v4), (5, .int v5), (6, .int v6), (7, .int v7)]) hx hb dL_acts_190 hl (by decide) rfl (fun ls hl => ?_)
      refine lv_aload_n hx hb dL_acts_192 rfl (lv_at hl 2 rfl) ?_
      refine lv_iload hx hb dL_acts_193 (lv_at hl 1 rfl) ?_
      refine lv_iconst (v := (0 : Int32)) hx hb dL_acts_195 (by decide) ?_
      obtain ⟨r_52, s_52, e_52, hf⟩ := mm_bd_ok hf
      refine mm_callV X hP hS hl.1 [.int w0, .int (0 : Int32)] [] (cx_X10_cellOf l D ad cA hI w0 (0 : Int32) s_51 r_52 s_52 e_52) kp_9 rfl rfl wd_357 wd_358 wd_359 wd_1 wd_360 hd_X10_cellOf ⟨Nat.le_of_ble_eq_true rfl, Nat.le_of_ble_eq_true rfl⟩ rfl (Nat.le_of_ble_eq_true rfl) dL_acts_196 (fun H locs hP hS => ?_)
      refine lv_istore (lv' := [(10, .int r_52), (9, .int r_51), (8, .int w0), (0, .ref (ad 6 9 0)), (2, .int x2), (3, .int v3), (4, .int v4), (5, .int v5), (6, .int v6), (7, .int v7)]) hx hb dL_acts_199 hl (by decide) rfl (fun ls hl => ?_)
      refine lv_aload_n hx hb dL_acts_201 rfl (lv_at hl 3 rfl) ?_
      refine lv_iload hx hb dL_acts_202 (lv_at hl 2 rfl) ?_
      refine lv_iconst (v := (2 : Int32)) hx hb dL_acts_204 (by decide) ?_
      obtain ⟨r_53, s_53, e_53, hf⟩ := mm_bd_ok hf
      refine mm_callV X hP hS hl.1 [.int w0, .int (2 : Int32)] [] (cx_X10_cellOf l D ad cA hI w0 (2 : Int32) s_52 r_53 s_53 e_53) kp_9 rfl rfl wd_357 wd_358 wd_359 wd_1 wd_360 hd_X10_cellOf ⟨Nat.le_of_ble_eq_true rfl, Nat.le_of_ble_eq_true rfl⟩ rfl (Nat.le_of_ble_eq_true rfl) dL_acts_205 (fun H locs hP hS => ?_)
      refine lv_ldc (v := (-1000004 : Int32)) hx hb X.2.2.2.2.2.1 (X.2.2.2.2.2.2.1 _ wd_433) dL_acts_208 ?_
      refine lv_icmp_eq (tgt := 217) hx hb dL_acts_210 (by decide) (fun c_54 => ?_) (fun c_54 => ?_)
      · replace hf := mm_it c_54 hf
        refine lv_iconst (v := (0 : Int32)) hx hb dL_acts_217 (by decide) ?_
        exact cx_L_acts_J218 x1 x2 rv σ1 X v6 v7 r_51 r_52 (0 : Int32) s_53 H locs ls hf hP hS (lv_sub hl [3, 8, 9, 1, 0] rfl)
      · replace hf := mm_if c_54 hf
        refine lv_iconst (v := (1 : Int32)) hx hb dL_acts_213 (by decide) ?_
        refine lv_goto (tgt := 218) hx hb dL_acts_214 (by decide) ?_
        exact cx_L_acts_J218 x1 x2 rv σ1 X v6 v7 r_51 r_52 (1 : Int32) s_53 H locs ls hf hP hS (lv_sub hl [3, 8, 9, 1, 0] rfl)
  · replace hf := mm_if c_7 hf
    refine lv_iload_n hx hb dL_acts_66 rfl (lv_at hl 2 rfl) ?_
    refine lv_bipush (v := (7 : Int32)) hx hb dL_acts_67 (by decide) ?_
    refine lv_ishr hx hb dL_acts_69 ?_
    refine lv_iconst (v := (5 : Int32)) hx hb dL_acts_70 (by decide) ?_
    obtain ⟨r_55, s_55, e_55, hf⟩ := mm_bd_ok hf
    refine mm_callS X hP hS hl.1 [.int (x2 >>> ((7 : Int32) &&& 31)), .int (5 : Int32)] [] (cx_L_low l D ad cA hI (x2 >>> ((7 : Int32) &&& 31)) (5 : Int32) σ r_55 s_55 e_55) wd_348 wd_349 wd_0 wd_350 hd_L_low ⟨Nat.le_of_ble_eq_true rfl, Nat.le_of_ble_eq_true rfl⟩ rfl (Nat.le_of_ble_eq_true rfl) dL_acts_71 (fun H locs hP hS => ?_)
    refine lv_istore (lv' := [(9, .int r_55), (8, .int w0), (0, .ref (ad 6 9 0)), (2, .int x2), (3, .int v3), (4, .int v4), (5, .int v5), (6, .int v6), (7, .int v7)]) hx hb dL_acts_74 hl (by decide) rfl (fun ls hl => ?_)
    refine lv_iload hx hb dL_acts_76 (lv_at hl 8 rfl) ?_
    refine lv_if_ne (tgt := 87) hx hb dL_acts_78 (by decide) (fun c_56 => ?_) (fun c_56 => ?_)
    · replace hf := mm_if c_56 hf
      refine lv_iconst (v := (1 : Int32)) hx hb dL_acts_87 (by decide) ?_
      refine lv_goto (tgt := 92) hx hb dL_acts_88 (by decide) ?_
      exact cx_L_acts_J92 x1 x2 rv σ1 X v4 v6 w0 r_55 (1 : Int32) s_55 H locs ls hf hP hS (lv_sub hl [2, 5, 7, 1, 0] rfl)
    · replace hf := mm_it c_56 hf
      refine lv_iload hx hb dL_acts_81 (lv_at hl 0 rfl) ?_
      refine lv_iconst (v := (4 : Int32)) hx hb dL_acts_83 (by decide) ?_
      refine lv_icmp_ne (tgt := 91) hx hb dL_acts_84 (by decide) (fun c_57 => ?_) (fun c_57 => ?_)
      · replace hf := mm_if c_57 hf
        refine lv_iconst (v := (0 : Int32)) hx hb dL_acts_91 (by decide) ?_
        exact cx_L_acts_J92 x1 x2 rv σ1 X v4 v6 w0 r_55 (0 : Int32) s_55 H locs ls hf hP hS (lv_sub hl [2, 5, 7, 1, 0] rfl)
      · replace hf := mm_it c_57 hf
        refine lv_iconst (v := (1 : Int32)) hx hb dL_acts_87 (by decide) ?_
        refine lv_goto (tgt := 92) hx hb dL_acts_88 (by decide) ?_
        exact cx_L_acts_J92 x1 x2 rv σ1 X v4 v6 w0 r_55 (1 : Int32) s_55 H locs ls hf hP hS (lv_sub hl [2, 5, 7, 1, 0] rfl)
def fx_L_acts_J46 (x1 : Int32) (x2 : Int32)  (v3 : Int32) (v4 : Int32) (v5 : Int32) (v6 : Int32) (w0 : Int32) (σ : mm_M) : mm_R := if w0 = (0 : Int32) then fx_L_acts_J59 x1 x2 v3 v4 v5 v6 w0 v6 σ else fx_L_acts_J59 x1 x2 v3 v4 v5 v6 w0 (0 : Int32) σ
set_option maxHeartbeats 4000000 in
set_option maxRecDepth 100000 in
theorem cx_L_acts_J46 {p : Program} {l : Launch} {e : Env} {s : State} {m : MethodId} {args : Array Value} {below : List Frame} {meth : Method} {c : Code} {D : va_G} {ad : mm_A} {cA : Nat → ClassId} (x1 : Int32) (x2 : Int32)  (rv : Int32) (σ1 : mm_M)  (X : mm_X p s m args meth c cL_acts 15 (some .boolean) RL D ad cA) : ∀ (v3 : Int32) (v4 : Int32) (v5 : Int32) (v6 : Int32) (w0 : Int32) (σ : mm_M) (H : Heap) (locs : List Loc) (ls : Array Slot), fx_L_acts_J46 x1 x2 v3 v4 v5 v6 w0 σ = some (rv, σ1) → va_P D vwCl (mm_wd ad cA σ) H → va_S (mm_AS ad) s.heap H locs → lv_has ls 15 [(0, .ref (ad 6 9 0)), (2, .int x2), (3, .int v3), (4, .int v4), (5, .int v5), (6, .int v6)] → W p l e (mm_rm 9 208) s m args below meth c H locs 0 0 (MQ below (mm_Q D ad cA (some (.int rv)) σ1) args s 0 0 (mm_AS ad)) (F0 m 46 ls [.int w0]) := by
  have hx := X.1
  have hb := X.2.1
  have hI := X.2.2.2.2.2.2.2.2.2
  intro v3 v4 v5 v6 w0 σ H locs ls hf hP hS hl
  rw [fx_L_acts_J46] at hf
  refine lv_istore (lv' := [(7, .int w0), (0, .ref (ad 6 9 0)), (2, .int x2), (3, .int v3), (4, .int v4), (5, .int v5), (6, .int v6)]) hx hb dL_acts_46 hl (by decide) rfl (fun ls hl => ?_)
  refine lv_iload hx hb dL_acts_48 (lv_at hl 0 rfl) ?_
  refine lv_if_eq (tgt := 57) hx hb dL_acts_50 (by decide) (fun c_6 => ?_) (fun c_6 => ?_)
  · replace hf := mm_it c_6 hf
    refine lv_iload hx hb dL_acts_57 (lv_at hl 6 rfl) ?_
    exact cx_L_acts_J59 x1 x2 rv σ1 X v3 v4 v5 v6 w0 v6 σ H locs ls hf hP hS (lv_sub hl [1, 2, 3, 4, 5, 6, 0] rfl)
  · replace hf := mm_if c_6 hf
    refine lv_iconst (v := (0 : Int32)) hx hb dL_acts_53 (by decide) ?_
    refine lv_goto (tgt := 59) hx hb dL_acts_54 (by decide) ?_
    exact cx_L_acts_J59 x1 x2 rv σ1 X v3 v4 v5 v6 w0 (0 : Int32) σ H locs ls hf hP hS (lv_sub hl [1, 2, 3, 4, 5, 6, 0] rfl)
def fx_L_acts (x1 : Int32) (x2 : Int32) (σ : mm_M) : mm_R := mm_bd (fx_L_low x1 (20 : Int32) σ) fun r_1 s_1 => (mm_bd (fx_X10_count (0 : Int32) s_1) fun r_2 s_2 => (mm_bd (fx_L_low (x1 >>> ((5 : Int32) &&& 31)) (r_2 + (1 : Int32)) s_2) fun r_3 s_3 => (mm_bd (fx_L_low x2 (66 : Int32) s_3) fun r_4 s_4 => (if r_4 ≤ (63 : Int32) then fx_L_acts_J46 x1 x2 r_1 r_2 r_3 r_4 (0 : Int32) s_4 else fx_L_acts_J46 x1 x2 r_1 r_2 r_3 r_4 (1 : Int32) s_4))))
set_option maxHeartbeats 4000000 in
set_option maxRecDepth 100000 in
theorem cx_L_acts (l : Launch) (D : va_G) (ad : mm_A) (cA : Nat → ClassId) (hI : mm_Inj ad) (x1 : Int32) (x2 : Int32)  (σ : mm_M) (rv : Int32) (σ1 : mm_M) (hf : fx_L_acts x1 x2 σ = some (rv, σ1)) : Met l yL_acts (Cond.code yL_acts cL_acts 15 (some .boolean) :: tb) (mm_rm 9 208) (mm_pre D ad cA [.ref (ad 6 9 0), .int x1, .int x2] σ) (mm_Q D ad cA (some (.int rv)) σ1) 0 0 (mm_AS ad) := by
  refine mm_start (by decide +kernel) hI (Nat.le_of_ble_eq_true rfl) ?_
  intro p e s m args below meth c X hP ls hl
  have hl : lv_has ls 15 [(0, .ref (ad 6 9 0)), (1, .int x1), (2, .int x2)] := hl
  have hx := X.1
  have hb := X.2.1
  have hS : va_S (mm_AS ad) s.heap s.heap [] := va_S.rf
  have hgen : ∀ (H : Heap) (locs : List Loc), va_P D vwCl (mm_wd ad cA σ) H → va_S (mm_AS ad) s.heap H locs → W p l e (mm_rm 9 208) s m args below meth c H locs 0 0 (MQ below (mm_Q D ad cA (some (.int rv)) σ1) args s 0 0 (mm_AS ad)) (F0 m 0 ls []) := by
    intro H locs hP hS
    rw [fx_L_acts] at hf
    refine lv_iload_n hx hb dL_acts_0 rfl (lv_at hl 1 rfl) ?_
    refine lv_bipush (v := (20 : Int32)) hx hb dL_acts_1 (by decide) ?_
    obtain ⟨r_1, s_1, e_1, hf⟩ := mm_bd_ok hf
    refine mm_callS X hP hS hl.1 [.int x1, .int (20 : Int32)] [] (cx_L_low l D ad cA hI x1 (20 : Int32) σ r_1 s_1 e_1) wd_348 wd_349 wd_0 wd_350 hd_L_low ⟨Nat.le_of_ble_eq_true rfl, Nat.le_of_ble_eq_true rfl⟩ rfl (Nat.le_of_ble_eq_true rfl) dL_acts_3 (fun H locs hP hS => ?_)
    refine lv_istore_n (lv' := [(3, .int r_1), (0, .ref (ad 6 9 0)), (1, .int x1), (2, .int x2)]) hx hb dL_acts_6 rfl hl (by decide) rfl (fun ls hl => ?_)
    refine lv_aload_n hx hb dL_acts_7 rfl (lv_at hl 1 rfl) ?_
    refine lv_iconst (v := (0 : Int32)) hx hb dL_acts_8 (by decide) ?_
    obtain ⟨r_2, s_2, e_2, hf⟩ := mm_bd_ok hf
    refine mm_callV X hP hS hl.1 [.int (0 : Int32)] [] (cx_X10_count l D ad cA hI (0 : Int32) s_1 r_2 s_2 e_2) kp_9 rfl rfl wd_305 wd_306 wd_307 wd_1 wd_308 hd_X10_count ⟨Nat.le_of_ble_eq_true rfl, Nat.le_of_ble_eq_true rfl⟩ rfl (Nat.le_of_ble_eq_true rfl) dL_acts_9 (fun H locs hP hS => ?_)
    refine lv_istore (lv' := [(4, .int r_2), (3, .int r_1), (0, .ref (ad 6 9 0)), (1, .int x1), (2, .int x2)]) hx hb dL_acts_12 hl (by decide) rfl (fun ls hl => ?_)
    refine lv_iload_n hx hb dL_acts_14 rfl (lv_at hl 3 rfl) ?_
    refine lv_iconst (v := (5 : Int32)) hx hb dL_acts_15 (by decide) ?_
    refine lv_ishr hx hb dL_acts_16 ?_
    refine lv_iload hx hb dL_acts_17 (lv_at hl 0 rfl) ?_
    refine lv_iconst (v := (1 : Int32)) hx hb dL_acts_19 (by decide) ?_
    refine lv_iadd hx hb dL_acts_20 ?_
    obtain ⟨r_3, s_3, e_3, hf⟩ := mm_bd_ok hf
    refine mm_callS X hP hS hl.1 [.int (x1 >>> ((5 : Int32) &&& 31)), .int (r_2 + (1 : Int32))] [] (cx_L_low l D ad cA hI (x1 >>> ((5 : Int32) &&& 31)) (r_2 + (1 : Int32)) s_2 r_3 s_3 e_3) wd_348 wd_349 wd_0 wd_350 hd_L_low ⟨Nat.le_of_ble_eq_true rfl, Nat.le_of_ble_eq_true rfl⟩ rfl (Nat.le_of_ble_eq_true rfl) dL_acts_21 (fun H locs hP hS => ?_)
    refine lv_istore (lv' := [(5, .int r_3), (4, .int r_2), (3, .int r_1), (0, .ref (ad 6 9 0)), (1, .int x1), (2, .int x2)]) hx hb dL_acts_24 hl (by decide) rfl (fun ls hl => ?_)
    refine lv_iload_n hx hb dL_acts_26 rfl (lv_at hl 5 rfl) ?_
    refine lv_bipush (v := (66 : Int32)) hx hb dL_acts_27 (by decide) ?_
    obtain ⟨r_4, s_4, e_4, hf⟩ := mm_bd_ok hf
    refine mm_callS X hP hS hl.1 [.int x2, .int (66 : Int32)] [] (cx_L_low l D ad cA hI x2 (66 : Int32) s_3 r_4 s_4 e_4) wd_348 wd_349 wd_0 wd_350 hd_L_low ⟨Nat.le_of_ble_eq_true rfl, Nat.le_of_ble_eq_true rfl⟩ rfl (Nat.le_of_ble_eq_true rfl) dL_acts_29 (fun H locs hP hS => ?_)
    refine lv_istore (lv' := [(6, .int r_4), (5, .int r_3), (4, .int r_2), (3, .int r_1), (0, .ref (ad 6 9 0)), (1, .int x1), (2, .int x2)]) hx hb dL_acts_32 hl (by decide) rfl (fun ls hl => ?_)
    refine lv_iload hx hb dL_acts_34 (lv_at hl 0 rfl) ?_
    refine lv_bipush (v := (63 : Int32)) hx hb dL_acts_36 (by decide) ?_
    refine lv_icmp_le (tgt := 45) hx hb dL_acts_38 (by decide) (fun c_5 => ?_) (fun c_5 => ?_)
    · replace hf := mm_it c_5 hf
      refine lv_iconst (v := (0 : Int32)) hx hb dL_acts_45 (by decide) ?_
      exact cx_L_acts_J46 x1 x2 rv σ1 X r_1 r_2 r_3 r_4 (0 : Int32) s_4 H locs ls hf hP hS (lv_sub hl [4, 6, 3, 2, 1, 0] rfl)
    · replace hf := mm_if c_5 hf
      refine lv_iconst (v := (1 : Int32)) hx hb dL_acts_41 (by decide) ?_
      refine lv_goto (tgt := 46) hx hb dL_acts_42 (by decide) ?_
      exact cx_L_acts_J46 x1 x2 rv σ1 X r_1 r_2 r_3 r_4 (1 : Int32) s_4 H locs ls hf hP hS (lv_sub hl [4, 6, 3, 2, 1, 0] rfl)
  exact hgen _ _ hP hS
