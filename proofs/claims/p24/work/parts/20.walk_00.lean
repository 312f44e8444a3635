def fx_X1_copyFrom (r0 : Nat) (r1 : Nat) (σ : mm_M) : mm_R := mm_lt (mm_w σ r0 2 0 (va_cpy (σ r1 2 0) (σ r0 2 0) (0 : Int32).toNatClampNeg (0 : Int32).toNatClampNeg (64 : Int32).toNatClampNeg)) fun s_1 => (mm_lt (mm_w s_1 r0 3 0 (va_cpy (s_1 r1 3 0) (s_1 r0 3 0) (0 : Int32).toNatClampNeg (0 : Int32).toNatClampNeg (64 : Int32).toNatClampNeg)) fun s_2 => (mm_lt (mm_w s_2 r0 4 0 (va_cpy (s_2 r1 4 0) (s_2 r0 4 0) (0 : Int32).toNatClampNeg (0 : Int32).toNatClampNeg (4 : Int32).toNatClampNeg)) fun s_3 => (mm_lt (mm_u s_3 r0 1 0 3 (s_3 r1 1 0 3)) fun s_4 => (some (0, s_4)))))
set_option maxHeartbeats 4000000 in
set_option maxRecDepth 100000 in
theorem cx_X1_copyFrom (l : Launch) (D : va_G) (ad : mm_A) (cA : Nat → ClassId) (hI : mm_Inj ad) (r0 : Nat) (r1 : Nat) (hr0 : r0 < 6) (hr1 : r1 < 6) (σ : mm_M) (rv : Int32) (σ1 : mm_M) (hf : fx_X1_copyFrom r0 r1 σ = some (rv, σ1)) : Met l yX1_copyFrom (Cond.code yX1_copyFrom cX1_copyFrom 2 none :: tb) (mm_rm 1 18) (mm_pre D ad cA [.ref (ad r0 1 0), .ref (ad r1 1 0)] σ) (mm_Q D ad cA none σ1) 0 0 (mm_AS ad) := by
  refine mm_start (by decide +kernel) hI (Nat.le_of_ble_eq_true rfl) ?_
  intro p e s m args below meth c X hP ls hl
  have hl : lv_has ls 2 [(0, .ref (ad r0 1 0)), (1, .ref (ad r1 1 0))] := hl
  have hx := X.1
  have hb := X.2.1
  have hS : va_S (mm_AS ad) s.heap s.heap [] := va_S.rf
  have hgen : ∀ (H : Heap) (locs : List Loc), va_P D vwCl (mm_wd ad cA σ) H → va_S (mm_AS ad) s.heap H locs → W p l e (mm_rm 1 18) s m args below meth c H locs 0 0 (MQ below (mm_Q D ad cA none σ1) args s 0 0 (mm_AS ad)) (F0 m 0 ls []) := by
    intro H locs hP hS
    rw [fx_X1_copyFrom] at hf
    refine lv_aload_n hx hb dX1_copyFrom_0 rfl (lv_at hl 1 rfl) ?_
    refine gf_1_0 X hP hr1 wd_36 dX1_copyFrom_1 ?_
    refine lv_iconst (v := (0 : Int32)) hx hb dX1_copyFrom_4 (by decide) ?_
    refine lv_aload_n hx hb dX1_copyFrom_5 rfl (lv_at hl 0 rfl) ?_
    refine gf_1_0 X hP hr0 wd_36 dX1_copyFrom_6 ?_
    refine lv_iconst (v := (0 : Int32)) hx hb dX1_copyFrom_9 (by decide) ?_
    refine lv_bipush (v := (64 : Int32)) hx hb dX1_copyFrom_10 (by decide) ?_
    refine mm_copy X hP hS hl.1 (mm_kr r1 hr1 2 (by decide)) rfl (mm_kr r0 hr0 2 (by decide)) (fun _ => rfl) wd_336 (by decide) (by decide) (by decide) (by decide) (by decide) (Nat.le_of_ble_eq_true rfl) (Nat.le_of_ble_eq_true rfl) dX1_copyFrom_12 (fun H locs hP hS => ?_)
    obtain ⟨s_1, e_1, hf⟩ := mm_lt_ok hf
    rw [← e_1] at hP
    refine lv_aload_n hx hb dX1_copyFrom_15 rfl (lv_at hl 1 rfl) ?_
    refine gf_1_1 X hP hr1 wd_38 dX1_copyFrom_16 ?_
    refine lv_iconst (v := (0 : Int32)) hx hb dX1_copyFrom_19 (by decide) ?_
    refine lv_aload_n hx hb dX1_copyFrom_20 rfl (lv_at hl 0 rfl) ?_
    refine gf_1_1 X hP hr0 wd_38 dX1_copyFrom_21 ?_
    refine lv_iconst (v := (0 : Int32)) hx hb dX1_copyFrom_24 (by decide) ?_
    refine lv_bipush (v := (64 : Int32)) hx hb dX1_copyFrom_25 (by decide) ?_
    refine mm_copy X hP hS hl.1 (mm_kr r1 hr1 3 (by decide)) rfl (mm_kr r0 hr0 3 (by decide)) (fun _ => rfl) wd_336 (by decide) (by decide) (by decide) (by decide) (by decide) (Nat.le_of_ble_eq_true rfl) (Nat.le_of_ble_eq_true rfl) dX1_copyFrom_27 (fun H locs hP hS => ?_)
    obtain ⟨s_2, e_2, hf⟩ := mm_lt_ok hf
    rw [← e_2] at hP
    refine lv_aload_n hx hb dX1_copyFrom_30 rfl (lv_at hl 1 rfl) ?_
    refine gf_1_2 X hP hr1 wd_39 dX1_copyFrom_31 ?_
    refine lv_iconst (v := (0 : Int32)) hx hb dX1_copyFrom_34 (by decide) ?_
    refine lv_aload_n hx hb dX1_copyFrom_35 rfl (lv_at hl 0 rfl) ?_
    refine gf_1_2 X hP hr0 wd_39 dX1_copyFrom_36 ?_
    refine lv_iconst (v := (0 : Int32)) hx hb dX1_copyFrom_39 (by decide) ?_
    refine lv_iconst (v := (4 : Int32)) hx hb dX1_copyFrom_40 (by decide) ?_
    refine mm_copy X hP hS hl.1 (mm_kr r1 hr1 4 (by decide)) rfl (mm_kr r0 hr0 4 (by decide)) (fun _ => rfl) wd_336 (by decide) (by decide) (by decide) (by decide) (by decide) (Nat.le_of_ble_eq_true rfl) (Nat.le_of_ble_eq_true rfl) dX1_copyFrom_41 (fun H locs hP hS => ?_)
    obtain ⟨s_3, e_3, hf⟩ := mm_lt_ok hf
    rw [← e_3] at hP
    refine lv_aload_n hx hb dX1_copyFrom_44 rfl (lv_at hl 0 rfl) ?_
    refine lv_aload_n hx hb dX1_copyFrom_45 rfl (lv_at hl 1 rfl) ?_
    refine gf_1_3 X hP hr1 wd_42 dX1_copyFrom_46 ?_
    refine pf_1_3 X hP hS hr0 wd_42  dX1_copyFrom_49 (fun H locs hP hS => ?_)
    obtain ⟨s_4, e_4, hf⟩ := mm_lt_ok hf
    rw [← e_4] at hP
    obtain ⟨rfl, rfl⟩ := mm_ret hf
    exact mm_vret X hP hS dX1_copyFrom_52
  exact hgen _ _ hP hS
def fx_X3_copyFrom (r0 : Nat) (n0 : Nat) (r1 : Nat) (n1 : Nat) (σ : mm_M) : mm_R := mm_lt (mm_w σ r0 7 n0 (va_cpy (σ r1 7 n1) (σ r0 7 n0) (0 : Int32).toNatClampNeg (0 : Int32).toNatClampNeg (5 : Int32).toNatClampNeg)) fun s_1 => (mm_lt (mm_w s_1 r0 8 n0 (va_cpy (s_1 r1 8 n1) (s_1 r0 8 n0) (0 : Int32).toNatClampNeg (0 : Int32).toNatClampNeg (5 : Int32).toNatClampNeg)) fun s_2 => (mm_lt (mm_u s_2 r0 6 n0 2 (s_2 r1 6 n1 2)) fun s_3 => (mm_lt (mm_u s_3 r0 6 n0 3 (s_3 r1 6 n1 3)) fun s_4 => (mm_lt (mm_u s_4 r0 6 n0 4 (s_4 r1 6 n1 4)) fun s_5 => (mm_lt (mm_u s_5 r0 6 n0 5 (s_5 r1 6 n1 5)) fun s_6 => (mm_lt (mm_u s_6 r0 6 n0 6 (s_6 r1 6 n1 6)) fun s_7 => (mm_lt (mm_u s_7 r0 6 n0 7 (s_7 r1 6 n1 7)) fun s_8 => (mm_lt (mm_u s_8 r0 6 n0 8 (s_8 r1 6 n1 8)) fun s_9 => (some (0, s_9))))))))))
set_option maxHeartbeats 4000000 in
set_option maxRecDepth 100000 in
theorem cx_X3_copyFrom (l : Launch) (D : va_G) (ad : mm_A) (cA : Nat → ClassId) (hI : mm_Inj ad) (r0 : Nat) (n0 : Nat) (r1 : Nat) (n1 : Nat) (hr0 : r0 < 6) (hn0 : n0 < 4) (hr1 : r1 < 6) (hn1 : n1 < 4) (σ : mm_M) (rv : Int32) (σ1 : mm_M) (hf : fx_X3_copyFrom r0 n0 r1 n1 σ = some (rv, σ1)) : Met l yX3_copyFrom (Cond.code yX3_copyFrom cX3_copyFrom 2 none :: tb) (mm_rm 1 18) (mm_pre D ad cA [.ref (ad r0 6 n0), .ref (ad r1 6 n1)] σ) (mm_Q D ad cA none σ1) 0 0 (mm_AS ad) := by
  refine mm_start (by decide +kernel) hI (Nat.le_of_ble_eq_true rfl) ?_
  intro p e s m args below meth c X hP ls hl
  have hl : lv_has ls 2 [(0, .ref (ad r0 6 n0)), (1, .ref (ad r1 6 n1))] := hl
  have hx := X.1
  have hb := X.2.1
  have hS : va_S (mm_AS ad) s.heap s.heap [] := va_S.rf
  have hgen : ∀ (H : Heap) (locs : List Loc), va_P D vwCl (mm_wd ad cA σ) H → va_S (mm_AS ad) s.heap H locs → W p l e (mm_rm 1 18) s m args below meth c H locs 0 0 (MQ below (mm_Q D ad cA none σ1) args s 0 0 (mm_AS ad)) (F0 m 0 ls []) := by
    intro H locs hP hS
    rw [fx_X3_copyFrom] at hf
    refine lv_aload_n hx hb dX3_copyFrom_0 rfl (lv_at hl 1 rfl) ?_
    refine gf_6_0 X hP hr1 hn1 wd_62 dX3_copyFrom_1 ?_
    refine lv_iconst (v := (0 : Int32)) hx hb dX3_copyFrom_4 (by decide) ?_
    refine lv_aload_n hx hb dX3_copyFrom_5 rfl (lv_at hl 0 rfl) ?_
    refine gf_6_0 X hP hr0 hn0 wd_62 dX3_copyFrom_6 ?_
    refine lv_iconst (v := (0 : Int32)) hx hb dX3_copyFrom_9 (by decide) ?_
    refine lv_iconst (v := (5 : Int32)) hx hb dX3_copyFrom_10 (by decide) ?_
    refine mm_copy X hP hS hl.1 (mm_kc r1 hr1 n1 hn1 1 (by decide)) rfl (mm_kc r0 hr0 n0 hn0 1 (by decide)) (fun _ => rfl) wd_343 (by decide) (by decide) (by decide) (by decide) (by decide) (Nat.le_of_ble_eq_true rfl) (Nat.le_of_ble_eq_true rfl) dX3_copyFrom_11 (fun H locs hP hS => ?_)
    obtain ⟨s_1, e_1, hf⟩ := mm_lt_ok hf
    rw [← e_1] at hP
    refine lv_aload_n hx hb dX3_copyFrom_14 rfl (lv_at hl 1 rfl) ?_
    refine gf_6_1 X hP hr1 hn1 wd_65 dX3_copyFrom_15 ?_
    refine lv_iconst (v := (0 : Int32)) hx hb dX3_copyFrom_18 (by decide) ?_
    refine lv_aload_n hx hb dX3_copyFrom_19 rfl (lv_at hl 0 rfl) ?_
    refine gf_6_1 X hP hr0 hn0 wd_65 dX3_copyFrom_20 ?_
    refine lv_iconst (v := (0 : Int32)) hx hb dX3_copyFrom_23 (by decide) ?_
    refine lv_iconst (v := (5 : Int32)) hx hb dX3_copyFrom_24 (by decide) ?_
    refine mm_copy X hP hS hl.1 (mm_kc r1 hr1 n1 hn1 2 (by decide)) rfl (mm_kc r0 hr0 n0 hn0 2 (by decide)) (fun _ => rfl) wd_343 (by decide) (by decide) (by decide) (by decide) (by decide) (Nat.le_of_ble_eq_true rfl) (Nat.le_of_ble_eq_true rfl) dX3_copyFrom_25 (fun H locs hP hS => ?_)
    obtain ⟨s_2, e_2, hf⟩ := mm_lt_ok hf
    rw [← e_2] at hP
    refine lv_aload_n hx hb dX3_copyFrom_28 rfl (lv_at hl 0 rfl) ?_
    refine lv_aload_n hx hb dX3_copyFrom_29 rfl (lv_at hl 1 rfl) ?_
    refine gf_6_2 X hP hr1 hn1 wd_68 dX3_copyFrom_30 ?_
    refine pf_6_2 X hP hS hr0 hn0 wd_68  dX3_copyFrom_33 (fun H locs hP hS => ?_)
    obtain ⟨s_3, e_3, hf⟩ := mm_lt_ok hf
    rw [← e_3] at hP
    refine lv_aload_n hx hb dX3_copyFrom_36 rfl (lv_at hl 0 rfl) ?_
    refine lv_aload_n hx hb dX3_copyFrom_37 rfl (lv_at hl 1 rfl) ?_
    refine gf_6_3 X hP hr1 hn1 wd_70 dX3_copyFrom_38 ?_
    refine pf_6_3 X hP hS hr0 hn0 wd_70  dX3_copyFrom_41 (fun H locs hP hS => ?_)
    obtain ⟨s_4, e_4, hf⟩ := mm_lt_ok hf
    rw [← e_4] at hP
    refine lv_aload_n hx hb dX3_copyFrom_44 rfl (lv_at hl 0 rfl) ?_
    refine lv_aload_n hx hb dX3_copyFrom_45 rfl (lv_at hl 1 rfl) ?_
    refine gf_6_4 X hP hr1 hn1 wd_75 dX3_copyFrom_46 ?_
    refine pf_6_4 X hP hS hr0 hn0 wd_75  dX3_copyFrom_49 (fun H locs hP hS => ?_)
    obtain ⟨s_5, e_5, hf⟩ := mm_lt_ok hf
    rw [← e_5] at hP
    refine lv_aload_n hx hb dX3_copyFrom_52 rfl (lv_at hl 0 rfl) ?_
    refine lv_aload_n hx hb dX3_copyFrom_53 rfl (lv_at hl 1 rfl) ?_
    refine gf_6_5 X hP hr1 hn1 wd_78 dX3_copyFrom_54 ?_
    refine pf_6_5 X hP hS hr0 hn0 wd_78  dX3_copyFrom_57 (fun H locs hP hS => ?_)
    obtain ⟨s_6, e_6, hf⟩ := mm_lt_ok hf
    rw [← e_6] at hP
    refine lv_aload_n hx hb dX3_copyFrom_60 rfl (lv_at hl 0 rfl) ?_
    refine lv_aload_n hx hb dX3_copyFrom_61 rfl (lv_at hl 1 rfl) ?_
    refine gf_6_6 X hP hr1 hn1 wd_80 dX3_copyFrom_62 ?_
    refine pf_6_6 X hP hS hr0 hn0 wd_80  dX3_copyFrom_65 (fun H locs hP hS => ?_)
    obtain ⟨s_7, e_7, hf⟩ := mm_lt_ok hf
    rw [← e_7] at hP
    refine lv_aload_n hx hb dX3_copyFrom_68 rfl (lv_at hl 0 rfl) ?_
    refine lv_aload_n hx hb dX3_copyFrom_69 rfl (lv_at hl 1 rfl) ?_
    refine gf_6_7 X hP hr1 hn1 wd_83 dX3_copyFrom_70 ?_
    refine pf_6_7 X hP hS hr0 hn0 wd_83  dX3_copyFrom_73 (fun H locs hP hS => ?_)
    obtain ⟨s_8, e_8, hf⟩ := mm_lt_ok hf
    rw [← e_8] at hP
    refine lv_aload_n hx hb dX3_copyFrom_76 rfl (lv_at hl 0 rfl) ?_
    refine lv_aload_n hx hb dX3_copyFrom_77 rfl (lv_at hl 1 rfl) ?_
    refine gf_6_8 X hP hr1 hn1 wd_86 dX3_copyFrom_78 ?_
    refine pf_6_8 X hP hS hr0 hn0 wd_86  dX3_copyFrom_81 (fun H locs hP hS => ?_)
    obtain ⟨s_9, e_9, hf⟩ := mm_lt_ok hf
    rw [← e_9] at hP
    obtain ⟨rfl, rfl⟩ := mm_ret hf
    exact mm_vret X hP hS dX3_copyFrom_84
  exact hgen _ _ hP hS
def fx_X8_copyFrom_L13 (r0 : Nat) (r1 : Nat)  : Nat → Int32 → mm_M → mm_R
  | 0, _, _ => none
  | fu + 1, v2, σ => if (4 : Int32) ≤ v2 then mm_lt (mm_u σ r0 0 0 2 (σ r1 0 0 2)) fun s_3 => (mm_lt (mm_u s_3 r0 0 0 3 (s_3 r1 0 0 3)) fun s_4 => (mm_lt (mm_u s_4 r0 0 0 4 (s_4 r1 0 0 4)) fun s_5 => (mm_lt (mm_u s_5 r0 0 0 5 (s_5 r1 0 0 5)) fun s_6 => (mm_lt (mm_u s_6 r0 0 0 6 (s_6 r1 0 0 6)) fun s_7 => (mm_lt (mm_u s_7 r0 0 0 7 (s_7 r1 0 0 7)) fun s_8 => (some (0, s_8))))))) else mm_gd (mm_ix v2 4 = true) (mm_gd (mm_ix v2 4 = true) (mm_bd (fx_X3_copyFrom r0 v2.toNatClampNeg r1 v2.toNatClampNeg σ) fun _ s_11 => (mm_li (v2 + (1 : Int32)) fun y_12 => (fx_X8_copyFrom_L13 r0 r1 fu y_12 s_11))))
set_option maxHeartbeats 4000000 in
set_option maxRecDepth 100000 in
theorem cx_X8_copyFrom_L13 {p : Program} {l : Launch} {e : Env} {s : State} {m : MethodId} {args : Array Value} {below : List Frame} {meth : Method} {c : Code} {D : va_G} {ad : mm_A} {cA : Nat → ClassId} (r0 : Nat) (r1 : Nat) (hr0 : r0 < 6) (hr1 : r1 < 6) (rv : Int32) (σ1 : mm_M)  (X : mm_X p s m args meth c cX8_copyFrom 3 none RX8 D ad cA) : ∀ (fu : Nat), ∀ (v2 : Int32) (σ : mm_M) (H : Heap) (locs : List Loc) (ls : Array Slot), fx_X8_copyFrom_L13 r0 r1 fu v2 σ = some (rv, σ1) → va_P D vwCl (mm_wd ad cA σ) H → va_S (mm_AS ad) s.heap H locs → lv_has ls 3 [(0, .ref (ad r0 0 0)), (1, .ref (ad r1 0 0)), (2, .int v2)] → W p l e (mm_rm 2 39) s m args below meth c H locs 0 0 (MQ below (mm_Q D ad cA none σ1) args s 0 0 (mm_AS ad)) (F0 m 13 ls []) := by
  have hx := X.1
  have hb := X.2.1
  have hI := X.2.2.2.2.2.2.2.2.2
  intro fu
  induction fu with
  | zero =>
    intro v2 σ H locs ls hf
    exact mm_no hf
  | succ fu ih =>
    intro v2 σ H locs ls hf hP hS hl
    rw [fx_X8_copyFrom_L13] at hf
    refine lv_iload_n hx hb dX8_copyFrom_13 rfl (lv_at hl 2 rfl) ?_
    refine lv_iconst (v := (4 : Int32)) hx hb dX8_copyFrom_14 (by decide) ?_
    refine lv_icmp_ge (tgt := 39) hx hb dX8_copyFrom_15 (by decide) (fun c_2 => ?_) (fun c_2 => ?_)
    · replace hf := mm_it c_2 hf
      refine lv_aload_n hx hb dX8_copyFrom_39 rfl (lv_at hl 0 rfl) ?_
      refine lv_aload_n hx hb dX8_copyFrom_40 rfl (lv_at hl 1 rfl) ?_
      refine gf_0_2 X hP hr1 wd_117 dX8_copyFrom_41 ?_
      refine pf_0_2 X hP hS hr0 wd_117  dX8_copyFrom_44 (fun H locs hP hS => ?_)
      obtain ⟨s_3, e_3, hf⟩ := mm_lt_ok hf
      rw [← e_3] at hP
      refine lv_aload_n hx hb dX8_copyFrom_47 rfl (lv_at hl 0 rfl) ?_
      refine lv_aload_n hx hb dX8_copyFrom_48 rfl (lv_at hl 1 rfl) ?_
      refine gf_0_3 X hP hr1 wd_120 dX8_copyFrom_49 ?_
      refine pf_0_3 X hP hS hr0 wd_120  dX8_copyFrom_52 (fun H locs hP hS => ?_)
      obtain ⟨s_4, e_4, hf⟩ := mm_lt_ok hf
      rw [← e_4] at hP
      refine lv_aload_n hx hb dX8_copyFrom_55 rfl (lv_at hl 0 rfl) ?_
      refine lv_aload_n hx hb dX8_copyFrom_56 rfl (lv_at hl 1 rfl) ?_
      refine gf_0_4 X hP hr1 wd_123 dX8_copyFrom_57 ?_
      refine pf_0_4 X hP hS hr0 wd_123  dX8_copyFrom_60 (fun H locs hP hS => ?_)
      obtain ⟨s_5, e_5, hf⟩ := mm_lt_ok hf
      rw [← e_5] at hP
      refine lv_aload_n hx hb dX8_copyFrom_63 rfl (lv_at hl 0 rfl) ?_
      refine lv_aload_n hx hb dX8_copyFrom_64 rfl (lv_at hl 1 rfl) ?_
      refine gf_0_5 X hP hr1 wd_125 dX8_copyFrom_65 ?_
      refine pf_0_5 X hP hS hr0 wd_125  dX8_copyFrom_68 (fun H locs hP hS => ?_)
      obtain ⟨s_6, e_6, hf⟩ := mm_lt_ok hf
      rw [← e_6] at hP
      refine lv_aload_n hx hb dX8_copyFrom_71 rfl (lv_at hl 0 rfl) ?_
      refine lv_aload_n hx hb dX8_copyFrom_72 rfl (lv_at hl 1 rfl) ?_
      refine gf_0_6 X hP hr1 wd_127 dX8_copyFrom_73 ?_
      refine pf_0_6 X hP hS hr0 wd_127  dX8_copyFrom_76 (fun H locs hP hS => ?_)
      obtain ⟨s_7, e_7, hf⟩ := mm_lt_ok hf
      rw [← e_7] at hP
      refine lv_aload_n hx hb dX8_copyFrom_79 rfl (lv_at hl 0 rfl) ?_
      refine lv_aload_n hx hb dX8_copyFrom_80 rfl (lv_at hl 1 rfl) ?_
      refine gf_0_7 X hP hr1 wd_130 dX8_copyFrom_81 ?_
      refine pf_0_7 X hP hS hr0 wd_130  dX8_copyFrom_84 (fun H locs hP hS => ?_)
      obtain ⟨s_8, e_8, hf⟩ := mm_lt_ok hf
      rw [← e_8] at hP
      obtain ⟨rfl, rfl⟩ := mm_ret hf
      exact mm_vret X hP hS dX8_copyFrom_87
    · replace hf := mm_if c_2 hf
      refine lv_aload_n hx hb dX8_copyFrom_18 rfl (lv_at hl 0 rfl) ?_
      refine gf_0_1 X hP hr0 wd_110 dX8_copyFrom_19 ?_
      refine lv_iload_n hx hb dX8_copyFrom_22 rfl (lv_at hl 2 rfl) ?_
      obtain ⟨h_9, hf⟩ := mm_gd_ok hf
      refine mm_cart X hP hr0 h_9 dX8_copyFrom_23 ?_
      refine lv_aload_n hx hb dX8_copyFrom_24 rfl (lv_at hl 1 rfl) ?_
      refine gf_0_1 X hP hr1 wd_110 dX8_copyFrom_25 ?_
      refine lv_iload_n hx hb dX8_copyFrom_28 rfl (lv_at hl 2 rfl) ?_
      obtain ⟨h_10, hf⟩ := mm_gd_ok hf
      refine mm_cart X hP hr1 h_10 dX8_copyFrom_29 ?_
      obtain ⟨r_11, s_11, e_11, hf⟩ := mm_bd_ok hf
      refine mm_callV X hP hS hl.1 [.ref (ad r1 6 v2.toNatClampNeg)] [] (cx_X3_copyFrom l D ad cA hI r0 v2.toNatClampNeg r1 v2.toNatClampNeg hr0 (mm_ix_lt h_10) hr1 (mm_ix_lt h_10) σ r_11 s_11 e_11) (mm_kc r0 hr0 v2.toNatClampNeg (mm_ix_lt h_10) 0 (by decide)) rfl rfl wd_339 wd_340 wd_341 wd_4 wd_342 hd_X3_copyFrom ⟨Nat.le_of_ble_eq_true rfl, Nat.le_of_ble_eq_true rfl⟩ rfl (Nat.le_of_ble_eq_true rfl) dX8_copyFrom_30 (fun H locs hP hS => ?_)
      obtain ⟨y_12, e_12, hf⟩ := mm_li_ok hf
      refine lv_iinc (v := y_12) (lv' := [(2, .int y_12), (0, .ref (ad r0 0 0)), (1, .ref (ad r1 0 0))]) hx hb dX8_copyFrom_33 hl (k := 2) rfl (by rw [e_12]; rfl) (by decide) rfl (fun ls hl => ?_)
      refine lv_goto (tgt := 13) hx hb dX8_copyFrom_36 (by decide) ?_
      exact ih y_12 s_11 H locs ls  hf hP hS (lv_sub hl [1, 2, 0] rfl)
def fx_X8_copyFrom (r0 : Nat) (r1 : Nat) (σ : mm_M) : mm_R := mm_bd (fx_X1_copyFrom r0 r1 σ) fun _ s_1 => (fx_X8_copyFrom_L13 r0 r1 mm_FU (0 : Int32) s_1)
set_option maxHeartbeats 4000000 in
set_option maxRecDepth 100000 in
theorem cx_X8_copyFrom (l : Launch) (D : va_G) (ad : mm_A) (cA : Nat → ClassId) (hI : mm_Inj ad) (r0 : Nat) (r1 : Nat) (hr0 : r0 < 6) (hr1 : r1 < 6) (σ : mm_M) (rv : Int32) (σ1 : mm_M) (hf : fx_X8_copyFrom r0 r1 σ = some (rv, σ1)) : Met l yX8_copyFrom (Cond.code yX8_copyFrom cX8_copyFrom 3 none :: tb) (mm_rm 2 39) (mm_pre D ad cA [.ref (ad r0 0 0), .ref (ad r1 0 0)] σ) (mm_Q D ad cA none σ1) 0 0 (mm_AS ad) := by
  refine mm_start (by decide +kernel) hI (Nat.le_of_ble_eq_true rfl) ?_
  intro p e s m args below meth c X hP ls hl
  have hl : lv_has ls 3 [(0, .ref (ad r0 0 0)), (1, .ref (ad r1 0 0))] := hl
  have hx := X.1
  have hb := X.2.1
  have hS : va_S (mm_AS ad) s.heap s.heap [] := va_S.rf
  have hgen : ∀ (H : Heap) (locs : List Loc), va_P D vwCl (mm_wd ad cA σ) H → va_S (mm_AS ad) s.heap H locs → W p l e (mm_rm 2 39) s m args below meth c H locs 0 0 (MQ below (mm_Q D ad cA none σ1) args s 0 0 (mm_AS ad)) (F0 m 0 ls []) := by
    intro H locs hP hS
    rw [fx_X8_copyFrom] at hf
    refine lv_aload_n hx hb dX8_copyFrom_0 rfl (lv_at hl 0 rfl) ?_
    refine gf_0_0 X hP hr0 wd_106 dX8_copyFrom_1 ?_
    refine lv_aload_n hx hb dX8_copyFrom_4 rfl (lv_at hl 1 rfl) ?_
    refine gf_0_0 X hP hr1 wd_106 dX8_copyFrom_5 ?_
    obtain ⟨r_1, s_1, e_1, hf⟩ := mm_bd_ok hf
    refine mm_callV X hP hS hl.1 [.ref (ad r1 1 0)] [] (cx_X1_copyFrom l D ad cA hI r0 r1 hr0 hr1 σ r_1 s_1 e_1) (mm_kr r0 hr0 1 (by decide)) rfl rfl wd_332 wd_333 wd_334 wd_3 wd_335 hd_X1_copyFrom ⟨Nat.le_of_ble_eq_true rfl, Nat.le_of_ble_eq_true rfl⟩ rfl (Nat.le_of_ble_eq_true rfl) dX8_copyFrom_8 (fun H locs hP hS => ?_)
    refine lv_iconst (v := (0 : Int32)) hx hb dX8_copyFrom_11 (by decide) ?_
    refine lv_istore_n (lv' := [(2, .int (0 : Int32)), (0, .ref (ad r0 0 0)), (1, .ref (ad r1 0 0))]) hx hb dX8_copyFrom_12 rfl hl (by decide) rfl (fun ls hl => ?_)
    exact cx_X8_copyFrom_L13 r0 r1 hr0 hr1 rv σ1 X mm_FU (0 : Int32) s_1 H locs ls hf hP hS (lv_sub hl [1, 2, 0] rfl)
  exact hgen _ _ hP hS
def fx_X10_freshTrial  (σ : mm_M) : mm_R := mm_bd (fx_X8_copyFrom 1 0 σ) fun _ s_1 => (some (0, s_1))
set_option maxHeartbeats 4000000 in
set_option maxRecDepth 100000 in
theorem cx_X10_freshTrial (l : Launch) (D : va_G) (ad : mm_A) (cA : Nat → ClassId) (hI : mm_Inj ad)   (σ : mm_M) (rv : Int32) (σ1 : mm_M) (hf : fx_X10_freshTrial  σ = some (rv, σ1)) : Met l yX10_freshTrial (Cond.code yX10_freshTrial cX10_freshTrial 1 (some (.object "LockedCarts$Race")) :: tb) (mm_rm 3 61) (mm_pre D ad cA [.ref (ad 6 9 0)] σ) (mm_Q D ad cA (some (.ref (ad 1 0 0))) σ1) 0 0 (mm_AS ad) := by
  refine mm_start (by decide +kernel) hI (Nat.le_of_ble_eq_true rfl) ?_
  intro p e s m args below meth c X hP ls hl
  have hl : lv_has ls 1 [(0, .ref (ad 6 9 0))] := hl
  have hx := X.1
  have hb := X.2.1
  have hS : va_S (mm_AS ad) s.heap s.heap [] := va_S.rf
  have hgen : ∀ (H : Heap) (locs : List Loc), va_P D vwCl (mm_wd ad cA σ) H → va_S (mm_AS ad) s.heap H locs → W p l e (mm_rm 3 61) s m args below meth c H locs 0 0 (MQ below (mm_Q D ad cA (some (.ref (ad 1 0 0))) σ1) args s 0 0 (mm_AS ad)) (F0 m 0 ls []) := by
    intro H locs hP hS
    rw [fx_X10_freshTrial] at hf
    refine lv_aload_n hx hb dX10_freshTrial_0 rfl (lv_at hl 0 rfl) ?_
    refine gf_9_1 X hP  wd_284 dX10_freshTrial_1 ?_
    refine lv_aload_n hx hb dX10_freshTrial_4 rfl (lv_at hl 0 rfl) ?_
    refine gf_9_0 X hP  wd_283 dX10_freshTrial_5 ?_
    obtain ⟨r_1, s_1, e_1, hf⟩ := mm_bd_ok hf
    refine mm_callV X hP hS hl.1 [.ref (ad 0 0 0)] [] (cx_X8_copyFrom l D ad cA hI 1 0 (by decide) (by decide) σ r_1 s_1 e_1) (mm_kr 1 (by decide) 0 (by decide)) rfl rfl wd_445 wd_329 wd_330 wd_2 wd_331 hd_X8_copyFrom ⟨Nat.le_of_ble_eq_true rfl, Nat.le_of_ble_eq_true rfl⟩ rfl (Nat.le_of_ble_eq_true rfl) dX10_freshTrial_8 (fun H locs hP hS => ?_)
    refine lv_aload_n hx hb dX10_freshTrial_11 rfl (lv_at hl 0 rfl) ?_
    refine gf_9_1 X hP  wd_284 dX10_freshTrial_12 ?_
    obtain ⟨rfl, rfl⟩ := mm_ret hf
    exact mm_aret X hP hS dX10_freshTrial_15
  exact hgen _ _ hP hS
def fx_X10_isCell (x0 : Int32) (σ : mm_M) : mm_R := if x0 < (0 : Int32) then some ((0 : Int32), σ) else if (64 : Int32) ≤ x0 then some ((0 : Int32), σ) else some ((1 : Int32), σ)
set_option maxHeartbeats 4000000 in
set_option maxRecDepth 100000 in
theorem cx_X10_isCell (l : Launch) (D : va_G) (ad : mm_A) (cA : Nat → ClassId) (hI : mm_Inj ad) (x0 : Int32)  (σ : mm_M) (rv : Int32) (σ1 : mm_M) (hf : fx_X10_isCell x0 σ = some (rv, σ1)) : Met l yX10_isCell (Cond.code yX10_isCell cX10_isCell 1 (some .boolean) :: tb) (mm_rm 0 0) (mm_pre D ad cA [.int x0] σ) (mm_Q D ad cA (some (.int rv)) σ1) 0 0 (mm_AS ad) := by
  refine mm_start (by decide +kernel) hI (Nat.le_of_ble_eq_true rfl) ?_
  intro p e s m args below meth c X hP ls hl
  have hl : lv_has ls 1 [(0, .int x0)] := hl
  have hx := X.1
  have hb := X.2.1
  have hS : va_S (mm_AS ad) s.heap s.heap [] := va_S.rf
  have hgen : ∀ (H : Heap) (locs : List Loc), va_P D vwCl (mm_wd ad cA σ) H → va_S (mm_AS ad) s.heap H locs → W p l e (mm_rm 0 0) s m args below meth c H locs 0 0 (MQ below (mm_Q D ad cA (some (.int rv)) σ1) args s 0 0 (mm_AS ad)) (F0 m 0 ls []) := by
    intro H locs hP hS
    rw [fx_X10_isCell] at hf
    refine lv_iload_n hx hb dX10_isCell_0 rfl (lv_at hl 0 rfl) ?_
    refine lv_if_lt (tgt := 14) hx hb dX10_isCell_1 (by decide) (fun c_1 => ?_) (fun c_1 => ?_)
    · replace hf := mm_it c_1 hf
      refine lv_iconst (v := (0 : Int32)) hx hb dX10_isCell_14 (by decide) ?_
      obtain ⟨rfl, rfl⟩ := mm_ret hf
      exact mm_zret (Or.inl rfl) X hP hS dX10_isCell_15
    · replace hf := mm_if c_1 hf
      refine lv_iload_n hx hb dX10_isCell_4 rfl (lv_at hl 0 rfl) ?_
      refine lv_bipush (v := (64 : Int32)) hx hb dX10_isCell_5 (by decide) ?_
      refine lv_icmp_ge (tgt := 14) hx hb dX10_isCell_7 (by decide) (fun c_2 => ?_) (fun c_2 => ?_)
      · replace hf := mm_it c_2 hf
        refine lv_iconst (v := (0 : Int32)) hx hb dX10_isCell_14 (by decide) ?_
        obtain ⟨rfl, rfl⟩ := mm_ret hf
        exact mm_zret (Or.inl rfl) X hP hS dX10_isCell_15
      · replace hf := mm_if c_2 hf
        refine lv_iconst (v := (1 : Int32)) hx hb dX10_isCell_10 (by decide) ?_
        refine lv_goto (tgt := 15) hx hb dX10_isCell_11 (by decide) ?_
        obtain ⟨rfl, rfl⟩ := mm_ret hf
        exact mm_zret (Or.inr rfl) X hP hS dX10_isCell_15
  exact hgen _ _ hP hS
def fx_X10_isWithin (x0 : Int32) (x1 : Int32) (x2 : Int32) (σ : mm_M) : mm_R := if x0 < x1 then some ((0 : Int32), σ) else if x2 < x0 then some ((0 : Int32), σ) else some ((1 : Int32), σ)
set_option maxHeartbeats 4000000 in
set_option maxRecDepth 100000 in
theorem cx_X10_isWithin (l : Launch) (D : va_G) (ad : mm_A) (cA : Nat → ClassId) (hI : mm_Inj ad) (x0 : Int32) (x1 : Int32) (x2 : Int32)  (σ : mm_M) (rv : Int32) (σ1 : mm_M) (hf : fx_X10_isWithin x0 x1 x2 σ = some (rv, σ1)) : Met l yX10_isWithin (Cond.code yX10_isWithin cX10_isWithin 3 (some .boolean) :: tb) (mm_rm 0 0) (mm_pre D ad cA [.int x0, .int x1, .int x2] σ) (mm_Q D ad cA (some (.int rv)) σ1) 0 0 (mm_AS ad) := by
  refine mm_start (by decide +kernel) hI (Nat.le_of_ble_eq_true rfl) ?_
  intro p e s m args below meth c X hP ls hl
  have hl : lv_has ls 3 [(0, .int x0), (1, .int x1), (2, .int x2)] := hl
  have hx := X.1
  have hb := X.2.1
  have hS : va_S (mm_AS ad) s.heap s.heap [] := va_S.rf
  have hgen : ∀ (H : Heap) (locs : List Loc), va_P D vwCl (mm_wd ad cA σ) H → va_S (mm_AS ad) s.heap H locs → W p l e (mm_rm 0 0) s m args below meth c H locs 0 0 (MQ below (mm_Q D ad cA (some (.int rv)) σ1) args s 0 0 (mm_AS ad)) (F0 m 0 ls []) := by
    intro H locs hP hS
    rw [fx_X10_isWithin] at hf
    refine lv_iload_n hx hb dX10_isWithin_0 rfl (lv_at hl 0 rfl) ?_
    refine lv_iload_n hx hb dX10_isWithin_1 rfl (lv_at hl 1 rfl) ?_
    refine lv_icmp_lt (tgt := 14) hx hb dX10_isWithin_2 (by decide) (fun c_1 => ?_) (fun c_1 => ?_)
    · replace hf := mm_it c_1 hf
      refine lv_iconst (v := (0 : Int32)) hx hb dX10_isWithin_14 (by decide) ?_
      obtain ⟨rfl, rfl⟩ := mm_ret hf
      exact mm_zret (Or.inl rfl) X hP hS dX10_isWithin_15
    · replace hf := mm_if c_1 hf
      refine lv_iload_n hx hb dX10_isWithin_5 rfl (lv_at hl 0 rfl) ?_
      refine lv_iload_n hx hb dX10_isWithin_6 rfl (lv_at hl 2 rfl) ?_
      refine lv_icmp_gt (tgt := 14) hx hb dX10_isWithin_7 (by decide) (fun c_2 => ?_) (fun c_2 => ?_)
      · replace hf := mm_it c_2 hf
        refine lv_iconst (v := (0 : Int32)) hx hb dX10_isWithin_14 (by decide) ?_
        obtain ⟨rfl, rfl⟩ := mm_ret hf
        exact mm_zret (Or.inl rfl) X hP hS dX10_isWithin_15
      · replace hf := mm_if c_2 hf
        refine lv_iconst (v := (1 : Int32)) hx hb dX10_isWithin_10 (by decide) ?_
        refine lv_goto (tgt := 15) hx hb dX10_isWithin_11 (by decide) ?_
        obtain ⟨rfl, rfl⟩ := mm_ret hf
        exact mm_zret (Or.inr rfl) X hP hS dX10_isWithin_15
  exact hgen _ _ hP hS
def fx_X8_cartOn_L2 (r0 : Nat) (x1 : Int32)  : Nat → Int32 → mm_M → mm_R
  | 0, _, _ => none
  | fu + 1, v2, σ => if (σ r0 0 0 2) ≤ v2 then some ((-1 : Int32), σ) else mm_gd (mm_ix v2 4 = true) (if (σ r0 6 v2.toNatClampNeg 3) = x1 then if x1 = (-1 : Int32) then mm_li (v2 + (1 : Int32)) fun y_6 => (fx_X8_cartOn_L2 r0 x1 fu y_6 σ) else some (v2, σ) else mm_li (v2 + (1 : Int32)) fun y_4 => (fx_X8_cartOn_L2 r0 x1 fu y_4 σ))
set_option maxHeartbeats 4000000 in
set_option maxRecDepth 100000 in
theorem cx_X8_cartOn_L2 {p : Program} {l : Launch} {e : Env} {s : State} {m : MethodId} {args : Array Value} {below : List Frame} {meth : Method} {c : Code} {D : va_G} {ad : mm_A} {cA : Nat → ClassId} (r0 : Nat) (x1 : Int32) (hr0 : r0 < 6) (rv : Int32) (σ1 : mm_M)  (X : mm_X p s m args meth c cX8_cartOn 3 (some .int) RX8 D ad cA) : ∀ (fu : Nat), ∀ (v2 : Int32) (σ : mm_M) (H : Heap) (locs : List Loc) (ls : Array Slot), fx_X8_cartOn_L2 r0 x1 fu v2 σ = some (rv, σ1) → va_P D vwCl (mm_wd ad cA σ) H → va_S (mm_AS ad) s.heap H locs → lv_has ls 3 [(0, .ref (ad r0 0 0)), (1, .int x1), (2, .int v2)] → W p l e (mm_rm 0 0) s m args below meth c H locs 0 0 (MQ below (mm_Q D ad cA (some (.int rv)) σ1) args s 0 0 (mm_AS ad)) (F0 m 2 ls []) := by
  have hx := X.1
  have hb := X.2.1
  have hI := X.2.2.2.2.2.2.2.2.2
  intro fu
  induction fu with
  | zero =>
    intro v2 σ H locs ls hf
    exact mm_no hf
  | succ fu ih =>
    intro v2 σ H locs ls hf hP hS hl
    rw [fx_X8_cartOn_L2] at hf
    refine lv_iload_n hx hb dX8_cartOn_2 rfl (lv_at hl 2 rfl) ?_
    refine lv_aload_n hx hb dX8_cartOn_3 rfl (lv_at hl 0 rfl) ?_
    refine gf_0_2 X hP hr0 wd_117 dX8_cartOn_4 ?_
    refine lv_icmp_ge (tgt := 36) hx hb dX8_cartOn_7 (by decide) (fun c_1 => ?_) (fun c_1 => ?_)
    · replace hf := mm_it c_1 hf
      refine lv_iconst (v := (-1 : Int32)) hx hb dX8_cartOn_36 (by decide) ?_
      obtain ⟨rfl, rfl⟩ := mm_ret hf
      exact mm_iret X hP hS dX8_cartOn_37
    · replace hf := mm_if c_1 hf
      refine lv_aload_n hx hb dX8_cartOn_10 rfl (lv_at hl 0 rfl) ?_
      refine gf_0_1 X hP hr0 wd_110 dX8_cartOn_11 ?_
      refine lv_iload_n hx hb dX8_cartOn_14 rfl (lv_at hl 2 rfl) ?_
      obtain ⟨h_2, hf⟩ := mm_gd_ok hf
      refine mm_cart X hP hr0 h_2 dX8_cartOn_15 ?_
      refine gf_6_3 X hP hr0 (mm_ix_lt h_2) wd_72 dX8_cartOn_16 ?_
      refine lv_iload_n hx hb dX8_cartOn_19 rfl (lv_at hl 1 rfl) ?_
      refine lv_icmp_ne (tgt := 30) hx hb dX8_cartOn_20 (by decide) (fun c_3 => ?_) (fun c_3 => ?_)
      · replace hf := mm_if c_3 hf
        obtain ⟨y_4, e_4, hf⟩ := mm_li_ok hf
        refine lv_iinc (v := y_4) (lv' := [(2, .int y_4), (0, .ref (ad r0 0 0)), (1, .int x1)]) hx hb dX8_cartOn_30 hl (k := 2) rfl (by rw [e_4]; rfl) (by decide) rfl (fun ls hl => ?_)
        refine lv_goto (tgt := 2) hx hb dX8_cartOn_33 (by decide) ?_
        exact ih y_4 σ H locs ls  hf hP hS (lv_sub hl [1, 2, 0] rfl)
      · replace hf := mm_it c_3 hf
        refine lv_iload_n hx hb dX8_cartOn_23 rfl (lv_at hl 1 rfl) ?_
        refine lv_iconst (v := (-1 : Int32)) hx hb dX8_cartOn_24 (by decide) ?_
        refine lv_icmp_eq (tgt := 30) hx hb dX8_cartOn_25 (by decide) (fun c_5 => ?_) (fun c_5 => ?_)
        · replace hf := mm_it c_5 hf
          obtain ⟨y_6, e_6, hf⟩ := mm_li_ok hf
          refine lv_iinc (v := y_6) (lv' := [(2, .int y_6), (0, .ref (ad r0 0 0)), (1, .int x1)]) hx hb dX8_cartOn_30 hl (k := 2) rfl (by rw [e_6]; rfl) (by decide) rfl (fun ls hl => ?_)
          refine lv_goto (tgt := 2) hx hb dX8_cartOn_33 (by decide) ?_
          exact ih y_6 σ H locs ls  hf hP hS (lv_sub hl [1, 2, 0] rfl)
        · replace hf := mm_if c_5 hf
          refine lv_iload_n hx hb dX8_cartOn_28 rfl (lv_at hl 2 rfl) ?_
          obtain ⟨rfl, rfl⟩ := mm_ret hf
          exact mm_iret X hP hS dX8_cartOn_29
def fx_X8_cartOn (r0 : Nat) (x1 : Int32) (σ : mm_M) : mm_R := fx_X8_cartOn_L2 r0 x1 mm_FU (0 : Int32) σ
set_option maxHeartbeats 4000000 in
set_option maxRecDepth 100000 in
theorem cx_X8_cartOn (l : Launch) (D : va_G) (ad : mm_A) (cA : Nat → ClassId) (hI : mm_Inj ad) (r0 : Nat) (x1 : Int32) (hr0 : r0 < 6) (σ : mm_M) (rv : Int32) (σ1 : mm_M) (hf : fx_X8_cartOn r0 x1 σ = some (rv, σ1)) : Met l yX8_cartOn (Cond.code yX8_cartOn cX8_cartOn 3 (some .int) :: tb) (mm_rm 0 0) (mm_pre D ad cA [.ref (ad r0 0 0), .int x1] σ) (mm_Q D ad cA (some (.int rv)) σ1) 0 0 (mm_AS ad) := by
  refine mm_start (by decide +kernel) hI (Nat.le_of_ble_eq_true rfl) ?_
  intro p e s m args below meth c X hP ls hl
  have hl : lv_has ls 3 [(0, .ref (ad r0 0 0)), (1, .int x1)] := hl
  have hx := X.1
  have hb := X.2.1
  have hS : va_S (mm_AS ad) s.heap s.heap [] := va_S.rf
  have hgen : ∀ (H : Heap) (locs : List Loc), va_P D vwCl (mm_wd ad cA σ) H → va_S (mm_AS ad) s.heap H locs → W p l e (mm_rm 0 0) s m args below meth c H locs 0 0 (MQ below (mm_Q D ad cA (some (.int rv)) σ1) args s 0 0 (mm_AS ad)) (F0 m 0 ls []) := by
    intro H locs hP hS
    rw [fx_X8_cartOn] at hf
    refine lv_iconst (v := (0 : Int32)) hx hb dX8_cartOn_0 (by decide) ?_
    refine lv_istore_n (lv' := [(2, .int (0 : Int32)), (0, .ref (ad r0 0 0)), (1, .int x1)]) hx hb dX8_cartOn_1 rfl hl (by decide) rfl (fun ls hl => ?_)
    exact cx_X8_cartOn_L2 r0 x1 hr0 rv σ1 X mm_FU (0 : Int32) σ H locs ls hf hP hS (lv_sub hl [1, 2, 0] rfl)
  exact hgen _ _ hP hS
def fx_X8_setKind_J38 (r0 : Nat) (x1 : Int32) (x2 : Int32)   (σ : mm_M) : mm_R := mm_gd (mm_ix x1 64 = true) (mm_li (σ r0 2 0 x1.toNatClampNeg) fun y_9 => (mm_gd (mm_ix x1 64 = true) (mm_lt (mm_u σ r0 2 0 x1.toNatClampNeg x2) fun s_11 => (some (y_9, s_11)))))
set_option maxHeartbeats 4000000 in
set_option maxRecDepth 100000 in
theorem cx_X8_setKind_J38 {p : Program} {l : Launch} {e : Env} {s : State} {m : MethodId} {args : Array Value} {below : List Frame} {meth : Method} {c : Code} {D : va_G} {ad : mm_A} {cA : Nat → ClassId} (r0 : Nat) (x1 : Int32) (x2 : Int32) (hr0 : r0 < 6) (rv : Int32) (σ1 : mm_M)  (X : mm_X p s m args meth c cX8_setKind 4 (some .int) RX8 D ad cA) : ∀ (σ : mm_M) (H : Heap) (locs : List Loc) (ls : Array Slot), fx_X8_setKind_J38 r0 x1 x2  σ = some (rv, σ1) → va_P D vwCl (mm_wd ad cA σ) H → va_S (mm_AS ad) s.heap H locs → lv_has ls 4 [(0, .ref (ad r0 0 0)), (1, .int x1), (2, .int x2)] → W p l e (mm_rm 1 22) s m args below meth c H locs 0 0 (MQ below (mm_Q D ad cA (some (.int rv)) σ1) args s 0 0 (mm_AS ad)) (F0 m 38 ls []) := by
  have hx := X.1
  have hb := X.2.1
  have hI := X.2.2.2.2.2.2.2.2.2
  intro σ H locs ls hf hP hS hl
  rw [fx_X8_setKind_J38] at hf
  refine lv_aload_n hx hb dX8_setKind_38 rfl (lv_at hl 0 rfl) ?_
  refine gf_0_0 X hP hr0 wd_106 dX8_setKind_39 ?_
  refine gf_1_0 X hP hr0 wd_37 dX8_setKind_42 ?_
  refine lv_iload_n hx hb dX8_setKind_45 rfl (lv_at hl 1 rfl) ?_
  obtain ⟨h_8, hf⟩ := mm_gd_ok hf
  refine al_2 X hP hr0 h_8 dX8_setKind_46 ?_
  obtain ⟨y_9, e_9, hf⟩ := mm_li_ok hf
  rw [← e_9]
  refine lv_istore_n (lv' := [(3, .int y_9), (0, .ref (ad r0 0 0)), (1, .int x1), (2, .int x2)]) hx hb dX8_setKind_47 rfl hl (by decide) rfl (fun ls hl => ?_)
  refine lv_aload_n hx hb dX8_setKind_48 rfl (lv_at hl 1 rfl) ?_
  refine gf_0_0 X hP hr0 wd_106 dX8_setKind_49 ?_
  refine gf_1_0 X hP hr0 wd_37 dX8_setKind_52 ?_
  refine lv_iload_n hx hb dX8_setKind_55 rfl (lv_at hl 2 rfl) ?_
  refine lv_iload_n hx hb dX8_setKind_56 rfl (lv_at hl 3 rfl) ?_
  obtain ⟨h_10, hf⟩ := mm_gd_ok hf
  refine as_2 X hP hS hr0 h_10  dX8_setKind_57 (fun H locs hP hS => ?_)
  obtain ⟨s_11, e_11, hf⟩ := mm_lt_ok hf
  rw [← e_11] at hP
  refine lv_iload_n hx hb dX8_setKind_58 rfl (lv_at hl 0 rfl) ?_
  obtain ⟨rfl, rfl⟩ := mm_ret hf
  exact mm_iret X hP hS dX8_setKind_59
def fx_X8_setKind (r0 : Nat) (x1 : Int32) (x2 : Int32) (σ : mm_M) : mm_R := mm_bd (fx_X10_isCell x1 σ) fun r_1 s_1 => (if r_1 = (0 : Int32) then some ((-1000001 : Int32), s_1) else mm_bd (fx_X10_isWithin x2 (0 : Int32) (8 : Int32) s_1) fun r_3 s_3 => (if r_3 = (0 : Int32) then some ((-1000001 : Int32), s_3) else if x2 = (7 : Int32) then mm_bd (fx_X8_cartOn r0 x1 s_3) fun r_6 s_6 => (if r_6 = (-1 : Int32) then fx_X8_setKind_J38 r0 x1 x2 s_6 else some ((-1000002 : Int32), s_6)) else fx_X8_setKind_J38 r0 x1 x2 s_3))
set_option maxHeartbeats 4000000 in
set_option maxRecDepth 100000 in
theorem cx_X8_setKind (l : Launch) (D : va_G) (ad : mm_A) (cA : Nat → ClassId) (hI : mm_Inj ad) (r0 : Nat) (x1 : Int32) (x2 : Int32) (hr0 : r0 < 6) (σ : mm_M) (rv : Int32) (σ1 : mm_M) (hf : fx_X8_setKind r0 x1 x2 σ = some (rv, σ1)) : Met l yX8_setKind (Cond.code yX8_setKind cX8_setKind 4 (some .int) :: tb) (mm_rm 1 22) (mm_pre D ad cA [.ref (ad r0 0 0), .int x1, .int x2] σ) (mm_Q D ad cA (some (.int rv)) σ1) 0 0 (mm_AS ad) := by
  refine mm_start (by decide +kernel) hI (Nat.le_of_ble_eq_true rfl) ?_
  intro p e s m args below meth c X hP ls hl
  have hl : lv_has ls 4 [(0, .ref (ad r0 0 0)), (1, .int x1), (2, .int x2)] := hl
  have hx := X.1
  have hb := X.2.1
  have hS : va_S (mm_AS ad) s.heap s.heap [] := va_S.rf
  have hgen : ∀ (H : Heap) (locs : List Loc), va_P D vwCl (mm_wd ad cA σ) H → va_S (mm_AS ad) s.heap H locs → W p l e (mm_rm 1 22) s m args below meth c H locs 0 0 (MQ below (mm_Q D ad cA (some (.int rv)) σ1) args s 0 0 (mm_AS ad)) (F0 m 0 ls []) := by
    intro H locs hP hS
    rw [fx_X8_setKind] at hf
    refine lv_iload_n hx hb dX8_setKind_0 rfl (lv_at hl 1 rfl) ?_
    obtain ⟨r_1, s_1, e_1, hf⟩ := mm_bd_ok hf
    refine mm_callN (host := "LockedCarts") X hP hS hl.1 [.int x1] [] (cx_X10_isCell l D ad cA hI x1 σ r_1 s_1 e_1) nw_10 wd_362 wd_1 wd_363 hd_X10_isCell ⟨Nat.le_of_ble_eq_true rfl, Nat.le_of_ble_eq_true rfl⟩ rfl (Nat.le_of_ble_eq_true rfl) dX8_setKind_1 (fun H locs hP hS => ?_)
    refine lv_if_eq (tgt := 17) hx hb dX8_setKind_4 (by decide) (fun c_2 => ?_) (fun c_2 => ?_)
    · replace hf := mm_it c_2 hf
      refine lv_ldc (v := (-1000001 : Int32)) hx hb X.2.2.2.2.2.1 (X.2.2.2.2.2.2.1 _ wd_454) dX8_setKind_17 ?_
      obtain ⟨rfl, rfl⟩ := mm_ret hf
      exact mm_iret X hP hS dX8_setKind_19
    · replace hf := mm_if c_2 hf
      refine lv_iload_n hx hb dX8_setKind_7 rfl (lv_at hl 2 rfl) ?_
      refine lv_iconst (v := (0 : Int32)) hx hb dX8_setKind_8 (by decide) ?_
      refine lv_bipush (v := (8 : Int32)) hx hb dX8_setKind_9 (by decide) ?_
      obtain ⟨r_3, s_3, e_3, hf⟩ := mm_bd_ok hf
      refine mm_callN (host := "LockedCarts") X hP hS hl.1 [.int x2, .int (0 : Int32), .int (8 : Int32)] [] (cx_X10_isWithin l D ad cA hI x2 (0 : Int32) (8 : Int32) s_1 r_3 s_3 e_3) nw_12 wd_365 wd_1 wd_366 hd_X10_isWithin ⟨Nat.le_of_ble_eq_true rfl, Nat.le_of_ble_eq_true rfl⟩ rfl (Nat.le_of_ble_eq_true rfl) dX8_setKind_11 (fun H locs hP hS => ?_)
      refine lv_if_ne (tgt := 20) hx hb dX8_setKind_14 (by decide) (fun c_4 => ?_) (fun c_4 => ?_)
      · replace hf := mm_if c_4 hf
        refine lv_iload_n hx hb dX8_setKind_20 rfl (lv_at hl 2 rfl) ?_
        refine lv_bipush (v := (7 : Int32)) hx hb dX8_setKind_21 (by decide) ?_
        refine lv_icmp_ne (tgt := 38) hx hb dX8_setKind_23 (by decide) (fun c_5 => ?_) (fun c_5 => ?_)
        · replace hf := mm_if c_5 hf
          exact cx_X8_setKind_J38 r0 x1 x2 hr0 rv σ1 X s_3 H locs ls hf hP hS (lv_sub hl [0, 1, 2] rfl)
        · replace hf := mm_it c_5 hf
          refine lv_aload_n hx hb dX8_setKind_26 rfl (lv_at hl 0 rfl) ?_
          refine lv_iload_n hx hb dX8_setKind_27 rfl (lv_at hl 1 rfl) ?_
          obtain ⟨r_6, s_6, e_6, hf⟩ := mm_bd_ok hf
          refine mm_callV X hP hS hl.1 [.int x1] [] (cx_X8_cartOn l D ad cA hI r0 x1 hr0 s_3 r_6 s_6 e_6) (mm_kr r0 hr0 0 (by decide)) rfl rfl wd_379 wd_380 wd_381 wd_2 wd_382 hd_X8_cartOn ⟨Nat.le_of_ble_eq_true rfl, Nat.le_of_ble_eq_true rfl⟩ rfl (Nat.le_of_ble_eq_true rfl) dX8_setKind_28 (fun H locs hP hS => ?_)
          refine lv_iconst (v := (-1 : Int32)) hx hb dX8_setKind_31 (by decide) ?_
          refine lv_icmp_eq (tgt := 38) hx hb dX8_setKind_32 (by decide) (fun c_7 => ?_) (fun c_7 => ?_)
          · replace hf := mm_it c_7 hf
            exact cx_X8_setKind_J38 r0 x1 x2 hr0 rv σ1 X s_6 H locs ls hf hP hS (lv_sub hl [0, 1, 2] rfl)
          · replace hf := mm_if c_7 hf
            refine lv_ldc (v := (-1000002 : Int32)) hx hb X.2.2.2.2.2.1 (X.2.2.2.2.2.2.1 _ wd_459) dX8_setKind_35 ?_
            obtain ⟨rfl, rfl⟩ := mm_ret hf
            exact mm_iret X hP hS dX8_setKind_37
      · replace hf := mm_it c_4 hf
        refine lv_ldc (v := (-1000001 : Int32)) hx hb X.2.2.2.2.2.1 (X.2.2.2.2.2.2.1 _ wd_454) dX8_setKind_17 ?_
        obtain ⟨rfl, rfl⟩ := mm_ret hf
        exact mm_iret X hP hS dX8_setKind_19
  exact hgen _ _ hP hS
def fx_X10_isError (x0 : Int32) (σ : mm_M) : mm_R := if (0 : Int32) ≤ x0 then some ((0 : Int32), σ) else some ((1 : Int32), σ)
set_option maxHeartbeats 4000000 in
set_option maxRecDepth 100000 in
theorem cx_X10_isError (l : Launch) (D : va_G) (ad : mm_A) (cA : Nat → ClassId) (hI : mm_Inj ad) (x0 : Int32)  (σ : mm_M) (rv : Int32) (σ1 : mm_M) (hf : fx_X10_isError x0 σ = some (rv, σ1)) : Met l yX10_isError (Cond.code yX10_isError cX10_isError 1 (some .boolean) :: tb) (mm_rm 0 0) (mm_pre D ad cA [.int x0] σ) (mm_Q D ad cA (some (.int rv)) σ1) 0 0 (mm_AS ad) := by
  refine mm_start (by decide +kernel) hI (Nat.le_of_ble_eq_true rfl) ?_
  intro p e s m args below meth c X hP ls hl
  have hl : lv_has ls 1 [(0, .int x0)] := hl
  have hx := X.1
  have hb := X.2.1
  have hS : va_S (mm_AS ad) s.heap s.heap [] := va_S.rf
  have hgen : ∀ (H : Heap) (locs : List Loc), va_P D vwCl (mm_wd ad cA σ) H → va_S (mm_AS ad) s.heap H locs → W p l e (mm_rm 0 0) s m args below meth c H locs 0 0 (MQ below (mm_Q D ad cA (some (.int rv)) σ1) args s 0 0 (mm_AS ad)) (F0 m 0 ls []) := by
    intro H locs hP hS
    rw [fx_X10_isError] at hf
    refine lv_iload_n hx hb dX10_isError_0 rfl (lv_at hl 0 rfl) ?_
    refine lv_if_ge (tgt := 8) hx hb dX10_isError_1 (by decide) (fun c_1 => ?_) (fun c_1 => ?_)
    · replace hf := mm_it c_1 hf
      refine lv_iconst (v := (0 : Int32)) hx hb dX10_isError_8 (by decide) ?_
      obtain ⟨rfl, rfl⟩ := mm_ret hf
      exact mm_zret (Or.inl rfl) X hP hS dX10_isError_9
    · replace hf := mm_if c_1 hf
      refine lv_iconst (v := (1 : Int32)) hx hb dX10_isError_4 (by decide) ?_
      refine lv_goto (tgt := 9) hx hb dX10_isError_5 (by decide) ?_
      obtain ⟨rfl, rfl⟩ := mm_ret hf
      exact mm_zret (Or.inr rfl) X hP hS dX10_isError_9
  exact hgen _ _ hP hS
def fx_X4_dropOldest_L9   : Nat → Nat → Int32 → mm_M → mm_R
  | 0, _, _, _ => none
  | fu + 1, m1a, v2, σ => if (4 : Int32) ≤ v2 then mm_lt (mm_u σ 6 11 0 (3 : Int32).toNatClampNeg (nI m1a)) fun s_3 => (mm_lt (mm_u s_3 6 10 0 1 (3 : Int32)) fun s_4 => (some (0, s_4))) else mm_gd (mm_ix v2 4 = true) (mm_gd ((σ 6 11 0 v2.toNatClampNeg).toNatClampNeg < 6) (mm_gd (mm_ix (v2 - (1 : Int32)) 4 = true) (mm_lt (mm_u σ 6 11 0 (v2 - (1 : Int32)).toNatClampNeg (nI ((σ 6 11 0 v2.toNatClampNeg).toNatClampNeg))) fun s_8 => (mm_li (v2 + (1 : Int32)) fun y_9 => (fx_X4_dropOldest_L9 fu m1a y_9 s_8)))))
set_option maxHeartbeats 4000000 in
set_option maxRecDepth 100000 in
theorem cx_X4_dropOldest_L9 {p : Program} {l : Launch} {e : Env} {s : State} {m : MethodId} {args : Array Value} {below : List Frame} {meth : Method} {c : Code} {D : va_G} {ad : mm_A} {cA : Nat → ClassId}   (rv : Int32) (σ1 : mm_M)  (X : mm_X p s m args meth c cX4_dropOldest 3 none RX4 D ad cA) : ∀ (fu : Nat), ∀ (m1a : Nat) (v2 : Int32) (σ : mm_M) (H : Heap) (locs : List Loc) (ls : Array Slot), m1a < 6 → fx_X4_dropOldest_L9  fu m1a v2 σ = some (rv, σ1) → va_P D vwCl (mm_wd ad cA σ) H → va_S (mm_AS ad) s.heap H locs → lv_has ls 3 [(0, .ref (ad 6 10 0)), (1, .ref (ad m1a 0 0)), (2, .int v2)] → W p l e (mm_rm 0 0) s m args below meth c H locs 0 0 (MQ below (mm_Q D ad cA none σ1) args s 0 0 (mm_AS ad)) (F0 m 9 ls []) := by
  have hx := X.1
  have hb := X.2.1
  have hI := X.2.2.2.2.2.2.2.2.2
  intro fu
  induction fu with
  | zero =>
    intro m1a v2 σ H locs ls hb_m1a hf
    exact mm_no hf
  | succ fu ih =>
    intro m1a v2 σ H locs ls hb_m1a hf hP hS hl
    rw [fx_X4_dropOldest_L9] at hf
    refine lv_iload_n hx hb dX4_dropOldest_9 rfl (lv_at hl 2 rfl) ?_
    refine lv_iconst (v := (4 : Int32)) hx hb dX4_dropOldest_10 (by decide) ?_
    refine lv_icmp_ge (tgt := 34) hx hb dX4_dropOldest_11 (by decide) (fun c_2 => ?_) (fun c_2 => ?_)
    · replace hf := mm_it c_2 hf
      refine lv_aload_n hx hb dX4_dropOldest_34 rfl (lv_at hl 0 rfl) ?_
      refine gf_10_0 X hP  wd_158 dX4_dropOldest_35 ?_
      refine lv_iconst (v := (3 : Int32)) hx hb dX4_dropOldest_38 (by decide) ?_
      refine lv_aload_n hx hb dX4_dropOldest_39 rfl (lv_at hl 1 rfl) ?_
      refine mm_stateS X hP hS hb_m1a (by decide : mm_ix (3 : Int32) 4 = true) dX4_dropOldest_40 (fun H locs hP hS => ?_)
      obtain ⟨s_3, e_3, hf⟩ := mm_lt_ok hf
      rw [← e_3] at hP
      refine lv_aload_n hx hb dX4_dropOldest_41 rfl (lv_at hl 0 rfl) ?_
      refine lv_iconst (v := (3 : Int32)) hx hb dX4_dropOldest_42 (by decide) ?_
      refine pf_10_1 X hP hS  wd_159  dX4_dropOldest_43 (fun H locs hP hS => ?_)
      obtain ⟨s_4, e_4, hf⟩ := mm_lt_ok hf
      rw [← e_4] at hP
      obtain ⟨rfl, rfl⟩ := mm_ret hf
      exact mm_vret X hP hS dX4_dropOldest_46
    · replace hf := mm_if c_2 hf
      refine lv_aload_n hx hb dX4_dropOldest_14 rfl (lv_at hl 0 rfl) ?_
      refine gf_10_0 X hP  wd_158 dX4_dropOldest_15 ?_
      refine lv_iload_n hx hb dX4_dropOldest_18 rfl (lv_at hl 2 rfl) ?_
      refine lv_iconst (v := (1 : Int32)) hx hb dX4_dropOldest_19 (by decide) ?_
      refine lv_isub hx hb dX4_dropOldest_20 ?_
      refine lv_aload_n hx hb dX4_dropOldest_21 rfl (lv_at hl 0 rfl) ?_
      refine gf_10_0 X hP  wd_158 dX4_dropOldest_22 ?_
      refine lv_iload_n hx hb dX4_dropOldest_25 rfl (lv_at hl 2 rfl) ?_
      obtain ⟨h_5, hf⟩ := mm_gd_ok hf
      refine mm_state X hP h_5 dX4_dropOldest_26 ?_
      obtain ⟨h_6, hf⟩ := mm_gd_ok hf
      obtain ⟨h_7, hf⟩ := mm_gd_ok hf
      refine mm_stateS X hP hS h_6 h_7 dX4_dropOldest_27 (fun H locs hP hS => ?_)
      obtain ⟨s_8, e_8, hf⟩ := mm_lt_ok hf
      rw [← e_8] at hP
      obtain ⟨y_9, e_9, hf⟩ := mm_li_ok hf
      refine lv_iinc (v := y_9) (lv' := [(2, .int y_9), (0, .ref (ad 6 10 0)), (1, .ref (ad m1a 0 0))]) hx hb dX4_dropOldest_28 hl (k := 2) rfl (by rw [e_9]; rfl) (by decide) rfl (fun ls hl => ?_)
      refine lv_goto (tgt := 9) hx hb dX4_dropOldest_31 (by decide) ?_
      exact ih m1a y_9 s_8 H locs ls hb_m1a hf hP hS (lv_sub hl [1, 2, 0] rfl)
def fx_X4_dropOldest  (σ : mm_M) : mm_R := mm_gd ((σ 6 11 0 (0 : Int32).toNatClampNeg).toNatClampNeg < 6) (fx_X4_dropOldest_L9 mm_FU ((σ 6 11 0 (0 : Int32).toNatClampNeg).toNatClampNeg) (1 : Int32) σ)
set_option maxHeartbeats 4000000 in
set_option maxRecDepth 100000 in
theorem cx_X4_dropOldest (l : Launch) (D : va_G) (ad : mm_A) (cA : Nat → ClassId) (hI : mm_Inj ad)   (σ : mm_M) (rv : Int32) (σ1 : mm_M) (hf : fx_X4_dropOldest  σ = some (rv, σ1)) : Met l yX4_dropOldest (Cond.code yX4_dropOldest cX4_dropOldest 3 none :: tb) (mm_rm 0 0) (mm_pre D ad cA [.ref (ad 6 10 0)] σ) (mm_Q D ad cA none σ1) 0 0 (mm_AS ad) := by
  refine mm_start (by decide +kernel) hI (Nat.le_of_ble_eq_true rfl) ?_
  intro p e s m args below meth c X hP ls hl
  have hl : lv_has ls 3 [(0, .ref (ad 6 10 0))] := hl
  have hx := X.1
  have hb := X.2.1
  have hS : va_S (mm_AS ad) s.heap s.heap [] := va_S.rf
  have hgen : ∀ (H : Heap) (locs : List Loc), va_P D vwCl (mm_wd ad cA σ) H → va_S (mm_AS ad) s.heap H locs → W p l e (mm_rm 0 0) s m args below meth c H locs 0 0 (MQ below (mm_Q D ad cA none σ1) args s 0 0 (mm_AS ad)) (F0 m 0 ls []) := by
    intro H locs hP hS
    rw [fx_X4_dropOldest] at hf
    refine lv_aload_n hx hb dX4_dropOldest_0 rfl (lv_at hl 0 rfl) ?_
    refine gf_10_0 X hP  wd_158 dX4_dropOldest_1 ?_
    refine lv_iconst (v := (0 : Int32)) hx hb dX4_dropOldest_4 (by decide) ?_
    refine mm_state X hP (by decide : mm_ix (0 : Int32) 4 = true) dX4_dropOldest_5 ?_
    obtain ⟨h_1, hf⟩ := mm_gd_ok hf
    refine lv_astore_n (lv' := [(1, .ref (ad ((σ 6 11 0 (0 : Int32).toNatClampNeg).toNatClampNeg) 0 0)), (0, .ref (ad 6 10 0))]) hx hb dX4_dropOldest_6 rfl hl (by decide) rfl (fun ls hl => ?_)
    refine lv_iconst (v := (1 : Int32)) hx hb dX4_dropOldest_7 (by decide) ?_
    refine lv_istore_n (lv' := [(2, .int (1 : Int32)), (1, .ref (ad ((σ 6 11 0 (0 : Int32).toNatClampNeg).toNatClampNeg) 0 0)), (0, .ref (ad 6 10 0))]) hx hb dX4_dropOldest_8 rfl hl (by decide) rfl (fun ls hl => ?_)
    exact cx_X4_dropOldest_L9 rv σ1 X mm_FU ((σ 6 11 0 (0 : Int32).toNatClampNeg).toNatClampNeg) (1 : Int32) σ H locs ls h_1 hf hP hS (lv_sub hl [2, 1, 0] rfl)
  exact hgen _ _ hP hS
def fx_X4_add_J12 (r1 : Nat)   (σ : mm_M) : mm_R := mm_gd (mm_ix (σ 6 10 0 1) 4 = true) (mm_gd ((σ 6 11 0 (σ 6 10 0 1).toNatClampNeg).toNatClampNeg < 6) (mm_bd (fx_X8_copyFrom ((σ 6 11 0 (σ 6 10 0 1).toNatClampNeg).toNatClampNeg) r1 σ) fun _ s_5 => (mm_lt (mm_u s_5 6 10 0 1 ((s_5 6 10 0 1) + (1 : Int32))) fun s_6 => (some (0, s_6)))))
set_option maxHeartbeats 4000000 in
set_option maxRecDepth 100000 in
theorem cx_X4_add_J12 {p : Program} {l : Launch} {e : Env} {s : State} {m : MethodId} {args : Array Value} {below : List Frame} {meth : Method} {c : Code} {D : va_G} {ad : mm_A} {cA : Nat → ClassId} (r1 : Nat) (hr1 : r1 < 6) (rv : Int32) (σ1 : mm_M)  (X : mm_X p s m args meth c cX4_add 2 none RX4 D ad cA) : ∀ (σ : mm_M) (H : Heap) (locs : List Loc) (ls : Array Slot), fx_X4_add_J12 r1  σ = some (rv, σ1) → va_P D vwCl (mm_wd ad cA σ) H → va_S (mm_AS ad) s.heap H locs → lv_has ls 2 [(0, .ref (ad 6 10 0)), (1, .ref (ad r1 0 0))] → W p l e (mm_rm 3 61) s m args below meth c H locs 0 0 (MQ below (mm_Q D ad cA none σ1) args s 0 0 (mm_AS ad)) (F0 m 12 ls []) := by
  have hx := X.1
  have hb := X.2.1
  have hI := X.2.2.2.2.2.2.2.2.2
  intro σ H locs ls hf hP hS hl
  rw [fx_X4_add_J12] at hf
  refine lv_aload_n hx hb dX4_add_12 rfl (lv_at hl 0 rfl) ?_
  refine gf_10_0 X hP  wd_158 dX4_add_13 ?_
  refine lv_aload_n hx hb dX4_add_16 rfl (lv_at hl 0 rfl) ?_
  refine gf_10_1 X hP  wd_159 dX4_add_17 ?_
  obtain ⟨h_3, hf⟩ := mm_gd_ok hf
  refine mm_state X hP h_3 dX4_add_20 ?_
  obtain ⟨h_4, hf⟩ := mm_gd_ok hf
  refine lv_aload_n hx hb dX4_add_21 rfl (lv_at hl 1 rfl) ?_
  obtain ⟨r_5, s_5, e_5, hf⟩ := mm_bd_ok hf
  refine mm_callV X hP hS hl.1 [.ref (ad r1 0 0)] [] (cx_X8_copyFrom l D ad cA hI ((σ 6 11 0 (σ 6 10 0 1).toNatClampNeg).toNatClampNeg) r1 h_4 hr1 σ r_5 s_5 e_5) (mm_kr ((σ 6 11 0 (σ 6 10 0 1).toNatClampNeg).toNatClampNeg) h_4 0 (by decide)) rfl rfl wd_328 wd_329 wd_330 wd_2 wd_331 hd_X8_copyFrom ⟨Nat.le_of_ble_eq_true rfl, Nat.le_of_ble_eq_true rfl⟩ rfl (Nat.le_of_ble_eq_true rfl) dX4_add_22 (fun H locs hP hS => ?_)
  refine lv_aload_n hx hb dX4_add_25 rfl (lv_at hl 0 rfl) ?_
  refine lv_dup hx hb dX4_add_26 rfl ?_
  refine gf_10_1 X hP  wd_159 dX4_add_27 ?_
  refine lv_iconst (v := (1 : Int32)) hx hb dX4_add_30 (by decide) ?_
  refine lv_iadd hx hb dX4_add_31 ?_
  refine pf_10_1 X hP hS  wd_159  dX4_add_32 (fun H locs hP hS => ?_)
  obtain ⟨s_6, e_6, hf⟩ := mm_lt_ok hf
  rw [← e_6] at hP
  obtain ⟨rfl, rfl⟩ := mm_ret hf
  exact mm_vret X hP hS dX4_add_35
def fx_X4_add (r1 : Nat) (σ : mm_M) : mm_R := if (σ 6 10 0 1) = (4 : Int32) then mm_bd (fx_X4_dropOldest  σ) fun _ s_2 => (fx_X4_add_J12 r1 s_2) else fx_X4_add_J12 r1 σ
set_option maxHeartbeats 4000000 in
set_option maxRecDepth 100000 in
theorem cx_X4_add (l : Launch) (D : va_G) (ad : mm_A) (cA : Nat → ClassId) (hI : mm_Inj ad) (r1 : Nat) (hr1 : r1 < 6) (σ : mm_M) (rv : Int32) (σ1 : mm_M) (hf : fx_X4_add r1 σ = some (rv, σ1)) : Met l yX4_add (Cond.code yX4_add cX4_add 2 none :: tb) (mm_rm 3 61) (mm_pre D ad cA [.ref (ad 6 10 0), .ref (ad r1 0 0)] σ) (mm_Q D ad cA none σ1) 0 0 (mm_AS ad) := by
  refine mm_start (by decide +kernel) hI (Nat.le_of_ble_eq_true rfl) ?_
  intro p e s m args below meth c X hP ls hl
  have hl : lv_has ls 2 [(0, .ref (ad 6 10 0)), (1, .ref (ad r1 0 0))] := hl
  have hx := X.1
  have hb := X.2.1
  have hS : va_S (mm_AS ad) s.heap s.heap [] := va_S.rf
  have hgen : ∀ (H : Heap) (locs : List Loc), va_P D vwCl (mm_wd ad cA σ) H → va_S (mm_AS ad) s.heap H locs → W p l e (mm_rm 3 61) s m args below meth c H locs 0 0 (MQ below (mm_Q D ad cA none σ1) args s 0 0 (mm_AS ad)) (F0 m 0 ls []) := by
    intro H locs hP hS
    rw [fx_X4_add] at hf
    refine lv_aload_n hx hb dX4_add_0 rfl (lv_at hl 0 rfl) ?_
    refine gf_10_1 X hP  wd_159 dX4_add_1 ?_
    refine lv_iconst (v := (4 : Int32)) hx hb dX4_add_4 (by decide) ?_
    refine lv_icmp_ne (tgt := 12) hx hb dX4_add_5 (by decide) (fun c_1 => ?_) (fun c_1 => ?_)
    · replace hf := mm_if c_1 hf
      exact cx_X4_add_J12 r1 hr1 rv σ1 X σ H locs ls hf hP hS (lv_sub hl [0, 1] rfl)
    · replace hf := mm_it c_1 hf
      refine lv_aload_n hx hb dX4_add_8 rfl (lv_at hl 0 rfl) ?_
      obtain ⟨r_2, s_2, e_2, hf⟩ := mm_bd_ok hf
      refine mm_callV X hP hS hl.1 [] [] (cx_X4_dropOldest l D ad cA hI  σ r_2 s_2 e_2) kp_10 rfl rfl wd_476 wd_478 wp_2 wd_5 wd_479 hd_X4_dropOldest ⟨Nat.le_of_ble_eq_true rfl, Nat.le_of_ble_eq_true rfl⟩ rfl (Nat.le_of_ble_eq_true rfl) dX4_add_9 (fun H locs hP hS => ?_)
      exact cx_X4_add_J12 r1 hr1 rv σ1 X s_2 H locs ls hf hP hS (lv_sub hl [0, 1] rfl)
  exact hgen _ _ hP hS
def fx_X10_keep (x1 : Int32) (σ : mm_M) : mm_R := mm_bd (fx_X10_isError x1 σ) fun r_1 s_1 => (if r_1 = (0 : Int32) then mm_bd (fx_X4_add 0 s_1) fun _ s_3 => (mm_bd (fx_X8_copyFrom 0 1 s_3) fun _ s_4 => (some (x1, s_4))) else some (x1, s_1))
set_option maxHeartbeats 4000000 in
set_option maxRecDepth 100000 in
theorem cx_X10_keep (l : Launch) (D : va_G) (ad : mm_A) (cA : Nat → ClassId) (hI : mm_Inj ad) (x1 : Int32)  (σ : mm_M) (rv : Int32) (σ1 : mm_M) (hf : fx_X10_keep x1 σ = some (rv, σ1)) : Met l yX10_keep (Cond.code yX10_keep cX10_keep 2 (some .int) :: tb) (mm_rm 4 82) (mm_pre D ad cA [.ref (ad 6 9 0), .int x1] σ) (mm_Q D ad cA (some (.int rv)) σ1) 0 0 (mm_AS ad) := by
  refine mm_start (by decide +kernel) hI (Nat.le_of_ble_eq_true rfl) ?_
  intro p e s m args below meth c X hP ls hl
  have hl : lv_has ls 2 [(0, .ref (ad 6 9 0)), (1, .int x1)] := hl
  have hx := X.1
  have hb := X.2.1
  have hS : va_S (mm_AS ad) s.heap s.heap [] := va_S.rf
  have hgen : ∀ (H : Heap) (locs : List Loc), va_P D vwCl (mm_wd ad cA σ) H → va_S (mm_AS ad) s.heap H locs → W p l e (mm_rm 4 82) s m args below meth c H locs 0 0 (MQ below (mm_Q D ad cA (some (.int rv)) σ1) args s 0 0 (mm_AS ad)) (F0 m 0 ls []) := by
    intro H locs hP hS
    rw [fx_X10_keep] at hf
    refine lv_iload_n hx hb dX10_keep_0 rfl (lv_at hl 1 rfl) ?_
    obtain ⟨r_1, s_1, e_1, hf⟩ := mm_bd_ok hf
    refine mm_callS X hP hS hl.1 [.int x1] [] (cx_X10_isError l D ad cA hI x1 σ r_1 s_1 e_1) wd_469 wd_470 wd_1 wd_471 hd_X10_isError ⟨Nat.le_of_ble_eq_true rfl, Nat.le_of_ble_eq_true rfl⟩ rfl (Nat.le_of_ble_eq_true rfl) dX10_keep_1 (fun H locs hP hS => ?_)
    refine lv_if_ne (tgt := 29) hx hb dX10_keep_4 (by decide) (fun c_2 => ?_) (fun c_2 => ?_)
    · replace hf := mm_if c_2 hf
      refine lv_iload_n hx hb dX10_keep_29 rfl (lv_at hl 1 rfl) ?_
      obtain ⟨rfl, rfl⟩ := mm_ret hf
      exact mm_iret X hP hS dX10_keep_30
    · replace hf := mm_it c_2 hf
      refine lv_aload_n hx hb dX10_keep_7 rfl (lv_at hl 0 rfl) ?_
      refine gf_9_2 X hP  wd_285 dX10_keep_8 ?_
      refine lv_aload_n hx hb dX10_keep_11 rfl (lv_at hl 0 rfl) ?_
      refine gf_9_0 X hP  wd_283 dX10_keep_12 ?_
      obtain ⟨r_3, s_3, e_3, hf⟩ := mm_bd_ok hf
      refine mm_callV X hP hS hl.1 [.ref (ad 0 0 0)] [] (cx_X4_add l D ad cA hI 0 (by decide) s_1 r_3 s_3 e_3) kp_10 rfl rfl wd_472 wd_473 wd_474 wd_5 wd_475 hd_X4_add ⟨Nat.le_of_ble_eq_true rfl, Nat.le_of_ble_eq_true rfl⟩ rfl (Nat.le_of_ble_eq_true rfl) dX10_keep_15 (fun H locs hP hS => ?_)
      refine lv_aload_n hx hb dX10_keep_18 rfl (lv_at hl 0 rfl) ?_
      refine gf_9_0 X hP  wd_283 dX10_keep_19 ?_
      refine lv_aload_n hx hb dX10_keep_22 rfl (lv_at hl 0 rfl) ?_
      refine gf_9_1 X hP  wd_284 dX10_keep_23 ?_
      obtain ⟨r_4, s_4, e_4, hf⟩ := mm_bd_ok hf
      refine mm_callV X hP hS hl.1 [.ref (ad 1 0 0)] [] (cx_X8_copyFrom l D ad cA hI 0 1 (by decide) (by decide) s_3 r_4 s_4 e_4) (mm_kr 0 (by decide) 0 (by decide)) rfl rfl wd_445 wd_329 wd_330 wd_2 wd_331 hd_X8_copyFrom ⟨Nat.le_of_ble_eq_true rfl, Nat.le_of_ble_eq_true rfl⟩ rfl (Nat.le_of_ble_eq_true rfl) dX10_keep_26 (fun H locs hP hS => ?_)
      refine lv_iload_n hx hb dX10_keep_29 rfl (lv_at hl 1 rfl) ?_
      obtain ⟨rfl, rfl⟩ := mm_ret hf
      exact mm_iret X hP hS dX10_keep_30
  exact hgen _ _ hP hS
def fx_X10_kind (x1 : Int32) (x2 : Int32) (σ : mm_M) : mm_R := mm_bd (fx_X10_freshTrial  σ) fun _ s_1 => (mm_bd (fx_X8_setKind 1 x1 x2 s_1) fun r_2 s_2 => (mm_bd (fx_X10_keep r_2 s_2) fun r_3 s_3 => (some (r_3, s_3))))
set_option maxHeartbeats 4000000 in
set_option maxRecDepth 100000 in
theorem cx_X10_kind (l : Launch) (D : va_G) (ad : mm_A) (cA : Nat → ClassId) (hI : mm_Inj ad) (x1 : Int32) (x2 : Int32)  (σ : mm_M) (rv : Int32) (σ1 : mm_M) (hf : fx_X10_kind x1 x2 σ = some (rv, σ1)) : Met l yX10_kind (Cond.code yX10_kind cX10_kind 3 (some .int) :: tb) (mm_rm 5 103) (mm_pre D ad cA [.ref (ad 6 9 0), .int x1, .int x2] σ) (mm_Q D ad cA (some (.int rv)) σ1) 0 0 (mm_AS ad) := by
  refine mm_start (by decide +kernel) hI (Nat.le_of_ble_eq_true rfl) ?_
  intro p e s m args below meth c X hP ls hl
  have hl : lv_has ls 3 [(0, .ref (ad 6 9 0)), (1, .int x1), (2, .int x2)] := hl
  have hx := X.1
  have hb := X.2.1
  have hS : va_S (mm_AS ad) s.heap s.heap [] := va_S.rf
  have hgen : ∀ (H : Heap) (locs : List Loc), va_P D vwCl (mm_wd ad cA σ) H → va_S (mm_AS ad) s.heap H locs → W p l e (mm_rm 5 103) s m args below meth c H locs 0 0 (MQ below (mm_Q D ad cA (some (.int rv)) σ1) args s 0 0 (mm_AS ad)) (F0 m 0 ls []) := by
    intro H locs hP hS
    rw [fx_X10_kind] at hf
    refine lv_aload_n hx hb dX10_kind_0 rfl (lv_at hl 0 rfl) ?_
    refine lv_aload_n hx hb dX10_kind_1 rfl (lv_at hl 0 rfl) ?_
    obtain ⟨r_1, s_1, e_1, hf⟩ := mm_bd_ok hf
    refine mm_callV X hP hS hl.1 [] [.ref (ad 6 9 0)] (cx_X10_freshTrial l D ad cA hI  σ r_1 s_1 e_1) kp_9 rfl rfl wd_441 wd_443 wp_0 wd_1 wd_444 hd_X10_freshTrial ⟨Nat.le_of_ble_eq_true rfl, Nat.le_of_ble_eq_true rfl⟩ rfl (Nat.le_of_ble_eq_true rfl) dX10_kind_2 (fun H locs hP hS => ?_)
    refine lv_iload_n hx hb dX10_kind_5 rfl (lv_at hl 1 rfl) ?_
    refine lv_iload_n hx hb dX10_kind_6 rfl (lv_at hl 2 rfl) ?_
    obtain ⟨r_2, s_2, e_2, hf⟩ := mm_bd_ok hf
    refine mm_callV X hP hS hl.1 [.int x1, .int x2] [.ref (ad 6 9 0)] (cx_X8_setKind l D ad cA hI 1 x1 x2 (by decide) s_1 r_2 s_2 e_2) (mm_kr 1 (by decide) 0 (by decide)) rfl rfl wd_487 wd_488 wd_489 wd_2 wd_490 hd_X8_setKind ⟨Nat.le_of_ble_eq_true rfl, Nat.le_of_ble_eq_true rfl⟩ rfl (Nat.le_of_ble_eq_true rfl) dX10_kind_7 (fun H locs hP hS => ?_)
    obtain ⟨r_3, s_3, e_3, hf⟩ := mm_bd_ok hf
    refine mm_callV X hP hS hl.1 [.int r_2] [] (cx_X10_keep l D ad cA hI r_2 s_2 r_3 s_3 e_3) kp_9 rfl rfl wd_465 wd_467 wp_1 wd_1 wd_468 hd_X10_keep ⟨Nat.le_of_ble_eq_true rfl, Nat.le_of_ble_eq_true rfl⟩ rfl (Nat.le_of_ble_eq_true rfl) dX10_kind_10 (fun H locs hP hS => ?_)
    obtain ⟨rfl, rfl⟩ := mm_ret hf
    exact mm_iret X hP hS dX10_kind_13
  exact hgen _ _ hP hS
def fx_X10_isDirection (x0 : Int32) (σ : mm_M) : mm_R := if x0 < (0 : Int32) then some ((0 : Int32), σ) else if (4 : Int32) ≤ x0 then some ((0 : Int32), σ) else some ((1 : Int32), σ)
set_option maxHeartbeats 4000000 in
set_option maxRecDepth 100000 in
theorem cx_X10_isDirection (l : Launch) (D : va_G) (ad : mm_A) (cA : Nat → ClassId) (hI : mm_Inj ad) (x0 : Int32)  (σ : mm_M) (rv : Int32) (σ1 : mm_M) (hf : fx_X10_isDirection x0 σ = some (rv, σ1)) : Met l yX10_isDirection (Cond.code yX10_isDirection cX10_isDirection 1 (some .boolean) :: tb) (mm_rm 0 0) (mm_pre D ad cA [.int x0] σ) (mm_Q D ad cA (some (.int rv)) σ1) 0 0 (mm_AS ad) := by
  refine mm_start (by decide +kernel) hI (Nat.le_of_ble_eq_true rfl) ?_
  intro p e s m args below meth c X hP ls hl
  have hl : lv_has ls 1 [(0, .int x0)] := hl
  have hx := X.1
  have hb := X.2.1
  have hS : va_S (mm_AS ad) s.heap s.heap [] := va_S.rf
  have hgen : ∀ (H : Heap) (locs : List Loc), va_P D vwCl (mm_wd ad cA σ) H → va_S (mm_AS ad) s.heap H locs → W p l e (mm_rm 0 0) s m args below meth c H locs 0 0 (MQ below (mm_Q D ad cA (some (.int rv)) σ1) args s 0 0 (mm_AS ad)) (F0 m 0 ls []) := by
    intro H locs hP hS
    rw [fx_X10_isDirection] at hf
    refine lv_iload_n hx hb dX10_isDirection_0 rfl (lv_at hl 0 rfl) ?_
    refine lv_if_lt (tgt := 13) hx hb dX10_isDirection_1 (by decide) (fun c_1 => ?_) (fun c_1 => ?_)
    · replace hf := mm_it c_1 hf
      refine lv_iconst (v := (0 : Int32)) hx hb dX10_isDirection_13 (by decide) ?_
      obtain ⟨rfl, rfl⟩ := mm_ret hf
      exact mm_zret (Or.inl rfl) X hP hS dX10_isDirection_14
    · replace hf := mm_if c_1 hf
      refine lv_iload_n hx hb dX10_isDirection_4 rfl (lv_at hl 0 rfl) ?_
      refine lv_iconst (v := (4 : Int32)) hx hb dX10_isDirection_5 (by decide) ?_
      refine lv_icmp_ge (tgt := 13) hx hb dX10_isDirection_6 (by decide) (fun c_2 => ?_) (fun c_2 => ?_)
      · replace hf := mm_it c_2 hf
        refine lv_iconst (v := (0 : Int32)) hx hb dX10_isDirection_13 (by decide) ?_
        obtain ⟨rfl, rfl⟩ := mm_ret hf
        exact mm_zret (Or.inl rfl) X hP hS dX10_isDirection_14
      · replace hf := mm_if c_2 hf
        refine lv_iconst (v := (1 : Int32)) hx hb dX10_isDirection_9 (by decide) ?_
        refine lv_goto (tgt := 14) hx hb dX10_isDirection_10 (by decide) ?_
        obtain ⟨rfl, rfl⟩ := mm_ret hf
        exact mm_zret (Or.inr rfl) X hP hS dX10_isDirection_14
  exact hgen _ _ hP hS
def fx_X1_flipSide (r0 : Nat) (x1 : Int32) (x2 : Int32) (σ : mm_M) : mm_R := if x1 < (0 : Int32) then some (0, σ) else if (64 : Int32) ≤ x1 then some (0, σ) else mm_gd (mm_ix x1 64 = true) (mm_gd (mm_ix x1 64 = true) (mm_lt (mm_u σ r0 3 0 x1.toNatClampNeg ((σ r0 3 0 x1.toNatClampNeg) ^^^ ((1 : Int32) <<< (x2 &&& 31)))) fun s_5 => (some (0, s_5))))
set_option maxHeartbeats 4000000 in
set_option maxRecDepth 100000 in
theorem cx_X1_flipSide (l : Launch) (D : va_G) (ad : mm_A) (cA : Nat → ClassId) (hI : mm_Inj ad) (r0 : Nat) (x1 : Int32) (x2 : Int32) (hr0 : r0 < 6) (σ : mm_M) (rv : Int32) (σ1 : mm_M) (hf : fx_X1_flipSide r0 x1 x2 σ = some (rv, σ1)) : Met l yX1_flipSide (Cond.code yX1_flipSide cX1_flipSide 3 none :: tb) (mm_rm 0 0) (mm_pre D ad cA [.ref (ad r0 1 0), .int x1, .int x2] σ) (mm_Q D ad cA none σ1) 0 0 (mm_AS ad) := by
  refine mm_start (by decide +kernel) hI (Nat.le_of_ble_eq_true rfl) ?_
  intro p e s m args below meth c X hP ls hl
  have hl : lv_has ls 3 [(0, .ref (ad r0 1 0)), (1, .int x1), (2, .int x2)] := hl
  have hx := X.1
  have hb := X.2.1
  have hS : va_S (mm_AS ad) s.heap s.heap [] := va_S.rf
  have hgen : ∀ (H : Heap) (locs : List Loc), va_P D vwCl (mm_wd ad cA σ) H → va_S (mm_AS ad) s.heap H locs → W p l e (mm_rm 0 0) s m args below meth c H locs 0 0 (MQ below (mm_Q D ad cA none σ1) args s 0 0 (mm_AS ad)) (F0 m 0 ls []) := by
    intro H locs hP hS
    rw [fx_X1_flipSide] at hf
    refine lv_iload_n hx hb dX1_flipSide_0 rfl (lv_at hl 1 rfl) ?_
    refine lv_if_lt (tgt := 22) hx hb dX1_flipSide_1 (by decide) (fun c_1 => ?_) (fun c_1 => ?_)
    · replace hf := mm_it c_1 hf
      obtain ⟨rfl, rfl⟩ := mm_ret hf
      exact mm_vret X hP hS dX1_flipSide_22
    · replace hf := mm_if c_1 hf
      refine lv_iload_n hx hb dX1_flipSide_4 rfl (lv_at hl 1 rfl) ?_
      refine lv_bipush (v := (64 : Int32)) hx hb dX1_flipSide_5 (by decide) ?_
      refine lv_icmp_ge (tgt := 22) hx hb dX1_flipSide_7 (by decide) (fun c_2 => ?_) (fun c_2 => ?_)
      · replace hf := mm_it c_2 hf
        obtain ⟨rfl, rfl⟩ := mm_ret hf
        exact mm_vret X hP hS dX1_flipSide_22
      · replace hf := mm_if c_2 hf
        refine lv_aload_n hx hb dX1_flipSide_10 rfl (lv_at hl 0 rfl) ?_
        refine gf_1_1 X hP hr0 wd_38 dX1_flipSide_11 ?_
        refine lv_iload_n hx hb dX1_flipSide_14 rfl (lv_at hl 1 rfl) ?_
        refine lv_dup2_11 hx hb dX1_flipSide_15 rfl rfl ?_
        obtain ⟨h_3, hf⟩ := mm_gd_ok hf
        refine al_3 X hP hr0 h_3 dX1_flipSide_16 ?_
        refine lv_iconst (v := (1 : Int32)) hx hb dX1_flipSide_17 (by decide) ?_
        refine lv_iload_n hx hb dX1_flipSide_18 rfl (lv_at hl 2 rfl) ?_
        refine lv_ishl hx hb dX1_flipSide_19 ?_
        refine lv_ixor hx hb dX1_flipSide_20 ?_
        obtain ⟨h_4, hf⟩ := mm_gd_ok hf
        refine as_3 X hP hS hr0 h_4  dX1_flipSide_21 (fun H locs hP hS => ?_)
        obtain ⟨s_5, e_5, hf⟩ := mm_lt_ok hf
        rw [← e_5] at hP
        obtain ⟨rfl, rfl⟩ := mm_ret hf
        exact mm_vret X hP hS dX1_flipSide_22
  exact hgen _ _ hP hS
def fx_X1_neighbour (x0 : Int32) (x1 : Int32) (σ : mm_M) : mm_R := if x0 < (0 : Int32) then some ((-1 : Int32), σ) else if x0 < (64 : Int32) then mm_li (x0 - x0 / (8 : Int32) * (8 : Int32)) fun y_3 => (if x1 = (0 : Int32) then if x0 < (8 : Int32) then some ((-1 : Int32), σ) else some (x0 - (8 : Int32), σ) else if x1 = (1 : Int32) then if (7 : Int32) ≤ y_3 then some ((-1 : Int32), σ) else some (x0 + (1 : Int32), σ) else if x1 = (2 : Int32) then if (56 : Int32) ≤ x0 then some ((-1 : Int32), σ) else some (x0 + (8 : Int32), σ) else if x1 = (3 : Int32) then if y_3 ≤ (0 : Int32) then some ((-1 : Int32), σ) else some (x0 - (1 : Int32), σ) else some ((-1 : Int32), σ)) else some ((-1 : Int32), σ)
set_option maxHeartbeats 4000000 in
set_option maxRecDepth 100000 in
theorem cx_X1_neighbour (l : Launch) (D : va_G) (ad : mm_A) (cA : Nat → ClassId) (hI : mm_Inj ad) (x0 : Int32) (x1 : Int32)  (σ : mm_M) (rv : Int32) (σ1 : mm_M) (hf : fx_X1_neighbour x0 x1 σ = some (rv, σ1)) : Met l yX1_neighbour (Cond.code yX1_neighbour cX1_neighbour 3 (some .int) :: tb) (mm_rm 0 0) (mm_pre D ad cA [.int x0, .int x1] σ) (mm_Q D ad cA (some (.int rv)) σ1) 0 0 (mm_AS ad) := by
  refine mm_start (by decide +kernel) hI (Nat.le_of_ble_eq_true rfl) ?_
  intro p e s m args below meth c X hP ls hl
  have hl : lv_has ls 3 [(0, .int x0), (1, .int x1)] := hl
  have hx := X.1
  have hb := X.2.1
  have hS : va_S (mm_AS ad) s.heap s.heap [] := va_S.rf
  have hgen : ∀ (H : Heap) (locs : List Loc), va_P D vwCl (mm_wd ad cA σ) H → va_S (mm_AS ad) s.heap H locs → W p l e (mm_rm 0 0) s m args below meth c H locs 0 0 (MQ below (mm_Q D ad cA (some (.int rv)) σ1) args s 0 0 (mm_AS ad)) (F0 m 0 ls []) := by
    intro H locs hP hS
    rw [fx_X1_neighbour] at hf
    refine lv_iload_n hx hb dX1_neighbour_0 rfl (lv_at hl 0 rfl) ?_
    refine lv_if_lt (tgt := 10) hx hb dX1_neighbour_1 (by decide) (fun c_1 => ?_) (fun c_1 => ?_)
    · replace hf := mm_it c_1 hf
      refine lv_iconst (v := (-1 : Int32)) hx hb dX1_neighbour_10 (by decide) ?_
      obtain ⟨rfl, rfl⟩ := mm_ret hf
      exact mm_iret X hP hS dX1_neighbour_11
    · replace hf := mm_if c_1 hf
      refine lv_iload_n hx hb dX1_neighbour_4 rfl (lv_at hl 0 rfl) ?_
      refine lv_bipush (v := (64 : Int32)) hx hb dX1_neighbour_5 (by decide) ?_
      refine lv_icmp_lt (tgt := 12) hx hb dX1_neighbour_7 (by decide) (fun c_2 => ?_) (fun c_2 => ?_)
      · replace hf := mm_it c_2 hf
        refine lv_iload_n hx hb dX1_neighbour_12 rfl (lv_at hl 0 rfl) ?_
        refine lv_bipush (v := (8 : Int32)) hx hb dX1_neighbour_13 (by decide) ?_
        refine lv_irem hx hb dX1_neighbour_15 (by decide) ?_
        obtain ⟨y_3, e_3, hf⟩ := mm_li_ok hf
        rw [← e_3]
        refine lv_istore_n (lv' := [(2, .int y_3), (0, .int x0), (1, .int x1)]) hx hb dX1_neighbour_16 rfl hl (by decide) rfl (fun ls hl => ?_)
        refine lv_iload_n hx hb dX1_neighbour_17 rfl (lv_at hl 2 rfl) ?_
        by_cases c_4 : x1 = (0 : Int32)
        · replace hf := mm_it c_4 hf
          refine mm_tabIn (off := 30) (tgt := 48) X (0 : Int32) c_4 dX1_neighbour_18 (by decide +kernel) (by decide +kernel) (by decide) ?_
          refine lv_iload_n hx hb dX1_neighbour_48 rfl (lv_at hl 1 rfl) ?_
          refine lv_bipush (v := (8 : Int32)) hx hb dX1_neighbour_49 (by decide) ?_
          refine lv_icmp_lt (tgt := 61) hx hb dX1_neighbour_51 (by decide) (fun c_5 => ?_) (fun c_5 => ?_)
          · replace hf := mm_it c_5 hf
            refine lv_iconst (v := (-1 : Int32)) hx hb dX1_neighbour_61 (by decide) ?_
            obtain ⟨rfl, rfl⟩ := mm_ret hf
            exact mm_iret X hP hS dX1_neighbour_62
          · replace hf := mm_if c_5 hf
            refine lv_iload_n hx hb dX1_neighbour_54 rfl (lv_at hl 1 rfl) ?_
            refine lv_bipush (v := (8 : Int32)) hx hb dX1_neighbour_55 (by decide) ?_
            refine lv_isub hx hb dX1_neighbour_57 ?_
            refine lv_goto (tgt := 62) hx hb dX1_neighbour_58 (by decide) ?_
            obtain ⟨rfl, rfl⟩ := mm_ret hf
            exact mm_iret X hP hS dX1_neighbour_62
        replace hf := mm_if c_4 hf
        by_cases c_6 : x1 = (1 : Int32)
        · replace hf := mm_it c_6 hf
          refine mm_tabIn (off := 45) (tgt := 63) X (1 : Int32) c_6 dX1_neighbour_18 (by decide +kernel) (by decide +kernel) (by decide) ?_
          refine lv_iload_n hx hb dX1_neighbour_63 rfl (lv_at hl 0 rfl) ?_
          refine lv_bipush (v := (7 : Int32)) hx hb dX1_neighbour_64 (by decide) ?_
          refine lv_icmp_ge (tgt := 75) hx hb dX1_neighbour_66 (by decide) (fun c_7 => ?_) (fun c_7 => ?_)
          · replace hf := mm_it c_7 hf
            refine lv_iconst (v := (-1 : Int32)) hx hb dX1_neighbour_75 (by decide) ?_
            obtain ⟨rfl, rfl⟩ := mm_ret hf
            exact mm_iret X hP hS dX1_neighbour_76
          · replace hf := mm_if c_7 hf
            refine lv_iload_n hx hb dX1_neighbour_69 rfl (lv_at hl 1 rfl) ?_
            refine lv_iconst (v := (1 : Int32)) hx hb dX1_neighbour_70 (by decide) ?_
            refine lv_iadd hx hb dX1_neighbour_71 ?_
            refine lv_goto (tgt := 76) hx hb dX1_neighbour_72 (by decide) ?_
            obtain ⟨rfl, rfl⟩ := mm_ret hf
            exact mm_iret X hP hS dX1_neighbour_76
        replace hf := mm_if c_6 hf
        by_cases c_8 : x1 = (2 : Int32)
        · replace hf := mm_it c_8 hf
          refine mm_tabIn (off := 59) (tgt := 77) X (2 : Int32) c_8 dX1_neighbour_18 (by decide +kernel) (by decide +kernel) (by decide) ?_
          refine lv_iload_n hx hb dX1_neighbour_77 rfl (lv_at hl 1 rfl) ?_
          refine lv_bipush (v := (56 : Int32)) hx hb dX1_neighbour_78 (by decide) ?_
          refine lv_icmp_ge (tgt := 90) hx hb dX1_neighbour_80 (by decide) (fun c_9 => ?_) (fun c_9 => ?_)
          · replace hf := mm_it c_9 hf
            refine lv_iconst (v := (-1 : Int32)) hx hb dX1_neighbour_90 (by decide) ?_
            obtain ⟨rfl, rfl⟩ := mm_ret hf
            exact mm_iret X hP hS dX1_neighbour_91
          · replace hf := mm_if c_9 hf
            refine lv_iload_n hx hb dX1_neighbour_83 rfl (lv_at hl 1 rfl) ?_
            refine lv_bipush (v := (8 : Int32)) hx hb dX1_neighbour_84 (by decide) ?_
            refine lv_iadd hx hb dX1_neighbour_86 ?_
            refine lv_goto (tgt := 91) hx hb dX1_neighbour_87 (by decide) ?_
            obtain ⟨rfl, rfl⟩ := mm_ret hf
            exact mm_iret X hP hS dX1_neighbour_91
        replace hf := mm_if c_8 hf
        by_cases c_10 : x1 = (3 : Int32)
        · replace hf := mm_it c_10 hf
          refine mm_tabIn (off := 74) (tgt := 92) X (3 : Int32) c_10 dX1_neighbour_18 (by decide +kernel) (by decide +kernel) (by decide) ?_
          refine lv_iload_n hx hb dX1_neighbour_92 rfl (lv_at hl 0 rfl) ?_
          refine lv_if_le (tgt := 102) hx hb dX1_neighbour_93 (by decide) (fun c_11 => ?_) (fun c_11 => ?_)
          · replace hf := mm_it c_11 hf
            refine lv_iconst (v := (-1 : Int32)) hx hb dX1_neighbour_102 (by decide) ?_
            obtain ⟨rfl, rfl⟩ := mm_ret hf
            exact mm_iret X hP hS dX1_neighbour_103
          · replace hf := mm_if c_11 hf
            refine lv_iload_n hx hb dX1_neighbour_96 rfl (lv_at hl 1 rfl) ?_
            refine lv_iconst (v := (1 : Int32)) hx hb dX1_neighbour_97 (by decide) ?_
            refine lv_isub hx hb dX1_neighbour_98 ?_
            refine lv_goto (tgt := 103) hx hb dX1_neighbour_99 (by decide) ?_
            obtain ⟨rfl, rfl⟩ := mm_ret hf
            exact mm_iret X hP hS dX1_neighbour_103
        replace hf := mm_if c_10 hf
        refine lv_tableOut (tgt := 104) hx hb dX1_neighbour_18 (by have q_4 := lv_neT c_4 (a := 0) (by decide); have q_6 := lv_neT c_6 (a := 1) (by decide); have q_8 := lv_neT c_8 (a := 2) (by decide); have q_10 := lv_neT c_10 (a := 3) (by decide); omega) (by decide) ?_
        refine lv_iconst (v := (-1 : Int32)) hx hb dX1_neighbour_104 (by decide) ?_
        obtain ⟨rfl, rfl⟩ := mm_ret hf
        exact mm_iret X hP hS dX1_neighbour_105
      · replace hf := mm_if c_2 hf
        refine lv_iconst (v := (-1 : Int32)) hx hb dX1_neighbour_10 (by decide) ?_
        obtain ⟨rfl, rfl⟩ := mm_ret hf
        exact mm_iret X hP hS dX1_neighbour_11
  exact hgen _ _ hP hS
