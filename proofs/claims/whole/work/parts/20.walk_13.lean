def fx_X11_undo_L22   : Nat → Int32 → mm_M → mm_R
  | 0, _, _ => none
  | fu + 1, v1, σ => if (207 : Int32) ≤ v1 then some (σ 10 30 0 4, σ) else mm_gd (mm_ix (((207 : Int32) * (σ 10 30 0 4)) + v1) 828 = true) (mm_gd (mm_ix v1 207 = true) (mm_lt (mm_u σ 10 31 0 v1.toNatClampNeg (σ 10 34 0 (((207 : Int32) * (σ 10 30 0 4)) + v1).toNatClampNeg)) fun s_6 => (mm_li (v1 + (1 : Int32)) fun y_7 => (fx_X11_undo_L22 fu y_7 s_6))))
set_option maxHeartbeats 4000000 in
set_option maxRecDepth 100000 in
theorem cx_X11_undo_L22 {p : Program} {l : Launch} {e : Env} {s : State} {m : MethodId} {args : Array Value} {below : List Frame} {meth : Method} {c : Code} {D : va_G} {ad : mm_A} {cA : Nat → ClassId}   (rv : Int32) (σ1 : mm_M)  (X : mm_X p s m args meth c cX11_undo 2 (some .int) RX11 D ad cA) : ∀ (fu : Nat), ∀ (v1 : Int32) (σ : mm_M) (H : Heap) (locs : List Loc) (ls : Array Slot), fx_X11_undo_L22  fu v1 σ = some (rv, σ1) → va_P D vwCl (mm_wd ad cA σ) H → va_S (mm_AS ad) s.heap H locs → lv_has ls 2 [(0, .ref (ad 10 30 0)), (1, .int v1)] → W p l e (mm_rm 0 0) s m args below meth c H locs 0 0 (MQ below (mm_Q D ad cA (some (.int rv)) σ1) args s 0 0 (mm_AS ad)) (F0 m 22 ls []) := by
  have hx := X.1
  have hb := X.2.1
  have hI := X.2.2.2.2.2.2.2.2.2
  intro fu
  induction fu with
  | zero =>
    intro v1 σ H locs ls hf
    exact mm_no hf
  | succ fu ih =>
    intro v1 σ H locs ls hf hP hS hl
    rw [fx_X11_undo_L22] at hf
    refine lv_iload_n hx hb dX11_undo_22 rfl (lv_at hl 1 rfl) ?_
    refine lv_sipush (v := (207 : Int32)) hx hb dX11_undo_23 (by decide) ?_
    refine lv_icmp_ge (tgt := 56) hx hb dX11_undo_26 (by decide) (fun c_3 => ?_) (fun c_3 => ?_)
    · replace hf := mm_it c_3 hf
      refine lv_aload_n hx hb dX11_undo_56 rfl (lv_at hl 0 rfl) ?_
      refine gf_30_4 X hP  wd_773 dX11_undo_57 ?_
      obtain ⟨rfl, rfl⟩ := mm_ret hf
      exact mm_iret X hP hS dX11_undo_60
    · replace hf := mm_if c_3 hf
      refine lv_aload_n hx hb dX11_undo_29 rfl (lv_at hl 0 rfl) ?_
      refine gf_30_0 X hP  wd_769 dX11_undo_30 ?_
      refine lv_iload_n hx hb dX11_undo_33 rfl (lv_at hl 1 rfl) ?_
      refine lv_aload_n hx hb dX11_undo_34 rfl (lv_at hl 0 rfl) ?_
      refine gf_30_3 X hP  wd_772 dX11_undo_35 ?_
      refine lv_sipush (v := (207 : Int32)) hx hb dX11_undo_38 (by decide) ?_
      refine lv_aload_n hx hb dX11_undo_41 rfl (lv_at hl 0 rfl) ?_
      refine gf_30_4 X hP  wd_773 dX11_undo_42 ?_
      refine lv_imul hx hb dX11_undo_45 ?_
      refine lv_iload_n hx hb dX11_undo_46 rfl (lv_at hl 1 rfl) ?_
      refine lv_iadd hx hb dX11_undo_47 ?_
      obtain ⟨h_4, hf⟩ := mm_gd_ok hf
      refine al_34 X hP  h_4 dX11_undo_48 ?_
      obtain ⟨h_5, hf⟩ := mm_gd_ok hf
      refine as_31 X hP hS  h_5  dX11_undo_49 (fun H locs hP hS => ?_)
      obtain ⟨s_6, e_6, hf⟩ := mm_lt_ok hf
      rw [← e_6] at hP
      obtain ⟨y_7, e_7, hf⟩ := mm_li_ok hf
      refine lv_iinc (v := y_7) (lv' := [(1, .int y_7), (0, .ref (ad 10 30 0))]) hx hb dX11_undo_50 hl (k := 1) rfl (by rw [e_7]; rfl) (by decide) rfl (fun ls hl => ?_)
      refine lv_goto (tgt := 22) hx hb dX11_undo_53 (by decide) ?_
      exact ih y_7 s_6 H locs ls  hf hP hS (lv_sub hl [1, 0] rfl)
def fx_X11_undo  (σ : mm_M) : mm_R := if (σ 10 30 0 4) = (0 : Int32) then some ((-1000002 : Int32), σ) else mm_lt (mm_u σ 10 30 0 4 ((σ 10 30 0 4) - (1 : Int32))) fun s_2 => (fx_X11_undo_L22 mm_FU (0 : Int32) s_2)
set_option maxHeartbeats 4000000 in
set_option maxRecDepth 100000 in
theorem cx_X11_undo (l : Launch) (D : va_G) (ad : mm_A) (cA : Nat → ClassId) (hI : mm_Inj ad)   (σ : mm_M) (rv : Int32) (σ1 : mm_M) (hf : fx_X11_undo  σ = some (rv, σ1)) : Met l yX11_undo (Cond.code yX11_undo cX11_undo 2 (some .int) :: tb) (mm_rm 0 0) (mm_pre D ad cA [.ref (ad 10 30 0)] σ) (mm_Q D ad cA (some (.int rv)) σ1) 0 0 (mm_AS ad) := by
  refine mm_start (by decide +kernel) hI (Nat.le_of_ble_eq_true rfl) ?_
  intro p e s m args below meth c X hP ls hl
  have hl : lv_has ls 2 [(0, .ref (ad 10 30 0))] := hl
  have hx := X.1
  have hb := X.2.1
  have hS : va_S (mm_AS ad) s.heap s.heap [] := va_S.rf
  have hgen : ∀ (H : Heap) (locs : List Loc), va_P D vwCl (mm_wd ad cA σ) H → va_S (mm_AS ad) s.heap H locs → W p l e (mm_rm 0 0) s m args below meth c H locs 0 0 (MQ below (mm_Q D ad cA (some (.int rv)) σ1) args s 0 0 (mm_AS ad)) (F0 m 0 ls []) := by
    intro H locs hP hS
    rw [fx_X11_undo] at hf
    refine lv_aload_n hx hb dX11_undo_0 rfl (lv_at hl 0 rfl) ?_
    refine gf_30_4 X hP  wd_773 dX11_undo_1 ?_
    refine lv_if_ne (tgt := 10) hx hb dX11_undo_4 (by decide) (fun c_1 => ?_) (fun c_1 => ?_)
    · replace hf := mm_if c_1 hf
      refine lv_aload_n hx hb dX11_undo_10 rfl (lv_at hl 0 rfl) ?_
      refine lv_dup hx hb dX11_undo_11 rfl ?_
      refine gf_30_4 X hP  wd_773 dX11_undo_12 ?_
      refine lv_iconst (v := (1 : Int32)) hx hb dX11_undo_15 (by decide) ?_
      refine lv_isub hx hb dX11_undo_16 ?_
      refine pf_30_4 X hP hS  wd_773  dX11_undo_17 (fun H locs hP hS => ?_)
      obtain ⟨s_2, e_2, hf⟩ := mm_lt_ok hf
      rw [← e_2] at hP
      refine lv_iconst (v := (0 : Int32)) hx hb dX11_undo_20 (by decide) ?_
      refine lv_istore_n (lv' := [(1, .int (0 : Int32)), (0, .ref (ad 10 30 0))]) hx hb dX11_undo_21 rfl hl (by decide) rfl (fun ls hl => ?_)
      exact cx_X11_undo_L22 rv σ1 X mm_FU (0 : Int32) s_2 H locs ls hf hP hS (lv_sub hl [1, 0] rfl)
    · replace hf := mm_it c_1 hf
      refine lv_ldc (v := (-1000002 : Int32)) hx hb X.2.2.2.2.2.1 (X.2.2.2.2.2.2.1 _ wd_854) dX11_undo_7 ?_
      obtain ⟨rfl, rfl⟩ := mm_ret hf
      exact mm_iret X hP hS dX11_undo_9
  exact hgen _ _ hP hS
def fx_X11_type (x1 : Int32) (σ : mm_M) : mm_R := mm_bd (fx_X11_in x1 (32 : Int32) (126 : Int32) σ) fun r_1 s_1 => (if r_1 = (0 : Int32) then some ((-1000001 : Int32), s_1) else if (s_1 10 30 0 6) = (60 : Int32) then some ((-1000003 : Int32), s_1) else mm_gd (mm_ix (s_1 10 30 0 6) 60 = true) (mm_lt (mm_u s_1 10 35 0 (s_1 10 30 0 6).toNatClampNeg x1) fun s_5 => (mm_lt (mm_u s_5 10 30 0 6 ((s_5 10 30 0 6) + (1 : Int32))) fun s_6 => (some (s_6 10 30 0 6, s_6)))))
set_option maxHeartbeats 4000000 in
set_option maxRecDepth 100000 in
theorem cx_X11_type (l : Launch) (D : va_G) (ad : mm_A) (cA : Nat → ClassId) (hI : mm_Inj ad) (x1 : Int32)  (σ : mm_M) (rv : Int32) (σ1 : mm_M) (hf : fx_X11_type x1 σ = some (rv, σ1)) : Met l yX11_type (Cond.code yX11_type cX11_type 2 (some .int) :: tb) (mm_rm 1 22) (mm_pre D ad cA [.ref (ad 10 30 0), .int x1] σ) (mm_Q D ad cA (some (.int rv)) σ1) 0 0 (mm_AS ad) := by
  refine mm_start (by decide +kernel) hI (Nat.le_of_ble_eq_true rfl) ?_
  intro p e s m args below meth c X hP ls hl
  have hl : lv_has ls 2 [(0, .ref (ad 10 30 0)), (1, .int x1)] := hl
  have hx := X.1
  have hb := X.2.1
  have hS : va_S (mm_AS ad) s.heap s.heap [] := va_S.rf
  have hgen : ∀ (H : Heap) (locs : List Loc), va_P D vwCl (mm_wd ad cA σ) H → va_S (mm_AS ad) s.heap H locs → W p l e (mm_rm 1 22) s m args below meth c H locs 0 0 (MQ below (mm_Q D ad cA (some (.int rv)) σ1) args s 0 0 (mm_AS ad)) (F0 m 0 ls []) := by
    intro H locs hP hS
    rw [fx_X11_type] at hf
    refine lv_iload_n hx hb dX11_type_0 rfl (lv_at hl 1 rfl) ?_
    refine lv_bipush (v := (32 : Int32)) hx hb dX11_type_1 (by decide) ?_
    refine lv_bipush (v := (126 : Int32)) hx hb dX11_type_3 (by decide) ?_
    obtain ⟨r_1, s_1, e_1, hf⟩ := mm_bd_ok hf
    refine mm_callS X hP hS hl.1 [.int x1, .int (32 : Int32), .int (126 : Int32)] [] (cx_X11_in l D ad cA hI x1 (32 : Int32) (126 : Int32) σ r_1 s_1 e_1) wd_842 wd_843 wd_12 wd_844 hd_X11_in ⟨Nat.le_of_ble_eq_true rfl, Nat.le_of_ble_eq_true rfl⟩ rfl (Nat.le_of_ble_eq_true rfl) dX11_type_5 (fun H locs hP hS => ?_)
    refine lv_if_ne (tgt := 14) hx hb dX11_type_8 (by decide) (fun c_2 => ?_) (fun c_2 => ?_)
    · replace hf := mm_if c_2 hf
      refine lv_aload_n hx hb dX11_type_14 rfl (lv_at hl 0 rfl) ?_
      refine gf_30_6 X hP  wd_775 dX11_type_15 ?_
      refine lv_bipush (v := (60 : Int32)) hx hb dX11_type_18 (by decide) ?_
      refine lv_icmp_ne (tgt := 26) hx hb dX11_type_20 (by decide) (fun c_3 => ?_) (fun c_3 => ?_)
      · replace hf := mm_if c_3 hf
        refine lv_aload_n hx hb dX11_type_26 rfl (lv_at hl 0 rfl) ?_
        refine gf_30_5 X hP  wd_774 dX11_type_27 ?_
        refine lv_aload_n hx hb dX11_type_30 rfl (lv_at hl 0 rfl) ?_
        refine gf_30_6 X hP  wd_775 dX11_type_31 ?_
        refine lv_iload_n hx hb dX11_type_34 rfl (lv_at hl 1 rfl) ?_
        obtain ⟨h_4, hf⟩ := mm_gd_ok hf
        refine as_35 X hP hS  h_4  dX11_type_35 (fun H locs hP hS => ?_)
        obtain ⟨s_5, e_5, hf⟩ := mm_lt_ok hf
        rw [← e_5] at hP
        refine lv_aload_n hx hb dX11_type_36 rfl (lv_at hl 0 rfl) ?_
        refine lv_dup hx hb dX11_type_37 rfl ?_
        refine gf_30_6 X hP  wd_775 dX11_type_38 ?_
        refine lv_iconst (v := (1 : Int32)) hx hb dX11_type_41 (by decide) ?_
        refine lv_iadd hx hb dX11_type_42 ?_
        refine pf_30_6 X hP hS  wd_775  dX11_type_43 (fun H locs hP hS => ?_)
        obtain ⟨s_6, e_6, hf⟩ := mm_lt_ok hf
        rw [← e_6] at hP
        refine lv_aload_n hx hb dX11_type_46 rfl (lv_at hl 0 rfl) ?_
        refine gf_30_6 X hP  wd_775 dX11_type_47 ?_
        obtain ⟨rfl, rfl⟩ := mm_ret hf
        exact mm_iret X hP hS dX11_type_50
      · replace hf := mm_it c_3 hf
        refine lv_ldc (v := (-1000003 : Int32)) hx hb X.2.2.2.2.2.1 (X.2.2.2.2.2.2.1 _ wd_890) dX11_type_23 ?_
        obtain ⟨rfl, rfl⟩ := mm_ret hf
        exact mm_iret X hP hS dX11_type_25
    · replace hf := mm_it c_2 hf
      refine lv_ldc (v := (-1000001 : Int32)) hx hb X.2.2.2.2.2.1 (X.2.2.2.2.2.2.1 _ wd_845) dX11_type_11 ?_
      obtain ⟨rfl, rfl⟩ := mm_ret hf
      exact mm_iret X hP hS dX11_type_13
  exact hgen _ _ hP hS
def fx_X11_clearText  (σ : mm_M) : mm_R := mm_li (σ 10 30 0 6) fun y_1 => (mm_lt (mm_u σ 10 30 0 6 (0 : Int32)) fun s_2 => (some (y_1, s_2)))
set_option maxHeartbeats 4000000 in
set_option maxRecDepth 100000 in
theorem cx_X11_clearText (l : Launch) (D : va_G) (ad : mm_A) (cA : Nat → ClassId) (hI : mm_Inj ad)   (σ : mm_M) (rv : Int32) (σ1 : mm_M) (hf : fx_X11_clearText  σ = some (rv, σ1)) : Met l yX11_clearText (Cond.code yX11_clearText cX11_clearText 2 (some .int) :: tb) (mm_rm 0 0) (mm_pre D ad cA [.ref (ad 10 30 0)] σ) (mm_Q D ad cA (some (.int rv)) σ1) 0 0 (mm_AS ad) := by
  refine mm_start (by decide +kernel) hI (Nat.le_of_ble_eq_true rfl) ?_
  intro p e s m args below meth c X hP ls hl
  have hl : lv_has ls 2 [(0, .ref (ad 10 30 0))] := hl
  have hx := X.1
  have hb := X.2.1
  have hS : va_S (mm_AS ad) s.heap s.heap [] := va_S.rf
  have hgen : ∀ (H : Heap) (locs : List Loc), va_P D vwCl (mm_wd ad cA σ) H → va_S (mm_AS ad) s.heap H locs → W p l e (mm_rm 0 0) s m args below meth c H locs 0 0 (MQ below (mm_Q D ad cA (some (.int rv)) σ1) args s 0 0 (mm_AS ad)) (F0 m 0 ls []) := by
    intro H locs hP hS
    rw [fx_X11_clearText] at hf
    refine lv_aload_n hx hb dX11_clearText_0 rfl (lv_at hl 0 rfl) ?_
    refine gf_30_6 X hP  wd_775 dX11_clearText_1 ?_
    obtain ⟨y_1, e_1, hf⟩ := mm_li_ok hf
    rw [← e_1]
    refine lv_istore_n (lv' := [(1, .int y_1), (0, .ref (ad 10 30 0))]) hx hb dX11_clearText_4 rfl hl (by decide) rfl (fun ls hl => ?_)
    refine lv_aload_n hx hb dX11_clearText_5 rfl (lv_at hl 1 rfl) ?_
    refine lv_iconst (v := (0 : Int32)) hx hb dX11_clearText_6 (by decide) ?_
    refine pf_30_6 X hP hS  wd_775  dX11_clearText_7 (fun H locs hP hS => ?_)
    obtain ⟨s_2, e_2, hf⟩ := mm_lt_ok hf
    rw [← e_2] at hP
    refine lv_iload_n hx hb dX11_clearText_10 rfl (lv_at hl 0 rfl) ?_
    obtain ⟨rfl, rfl⟩ := mm_ret hf
    exact mm_iret X hP hS dX11_clearText_11
  exact hgen _ _ hP hS
def fx_X11_here  (σ : mm_M) : mm_R := if (σ 10 30 0 6) ≤ (σ 10 30 0 13) then some ((-1 : Int32), σ) else mm_gd (mm_ix (σ 10 30 0 13) 60 = true) (some (σ 10 35 0 (σ 10 30 0 13).toNatClampNeg, σ))
set_option maxHeartbeats 4000000 in
set_option maxRecDepth 100000 in
theorem cx_X11_here (l : Launch) (D : va_G) (ad : mm_A) (cA : Nat → ClassId) (hI : mm_Inj ad)   (σ : mm_M) (rv : Int32) (σ1 : mm_M) (hf : fx_X11_here  σ = some (rv, σ1)) : Met l yX11_here (Cond.code yX11_here cX11_here 1 (some .int) :: tb) (mm_rm 0 0) (mm_pre D ad cA [.ref (ad 10 30 0)] σ) (mm_Q D ad cA (some (.int rv)) σ1) 0 0 (mm_AS ad) := by
  refine mm_start (by decide +kernel) hI (Nat.le_of_ble_eq_true rfl) ?_
  intro p e s m args below meth c X hP ls hl
  have hl : lv_has ls 1 [(0, .ref (ad 10 30 0))] := hl
  have hx := X.1
  have hb := X.2.1
  have hS : va_S (mm_AS ad) s.heap s.heap [] := va_S.rf
  have hgen : ∀ (H : Heap) (locs : List Loc), va_P D vwCl (mm_wd ad cA σ) H → va_S (mm_AS ad) s.heap H locs → W p l e (mm_rm 0 0) s m args below meth c H locs 0 0 (MQ below (mm_Q D ad cA (some (.int rv)) σ1) args s 0 0 (mm_AS ad)) (F0 m 0 ls []) := by
    intro H locs hP hS
    rw [fx_X11_here] at hf
    refine lv_aload_n hx hb dX11_here_0 rfl (lv_at hl 0 rfl) ?_
    refine gf_30_13 X hP  wd_782 dX11_here_1 ?_
    refine lv_aload_n hx hb dX11_here_4 rfl (lv_at hl 0 rfl) ?_
    refine gf_30_6 X hP  wd_775 dX11_here_5 ?_
    refine lv_icmp_ge (tgt := 23) hx hb dX11_here_8 (by decide) (fun c_1 => ?_) (fun c_1 => ?_)
    · replace hf := mm_it c_1 hf
      refine lv_iconst (v := (-1 : Int32)) hx hb dX11_here_23 (by decide) ?_
      obtain ⟨rfl, rfl⟩ := mm_ret hf
      exact mm_iret X hP hS dX11_here_24
    · replace hf := mm_if c_1 hf
      refine lv_aload_n hx hb dX11_here_11 rfl (lv_at hl 0 rfl) ?_
      refine gf_30_5 X hP  wd_774 dX11_here_12 ?_
      refine lv_aload_n hx hb dX11_here_15 rfl (lv_at hl 0 rfl) ?_
      refine gf_30_13 X hP  wd_782 dX11_here_16 ?_
      obtain ⟨h_2, hf⟩ := mm_gd_ok hf
      refine al_35 X hP  h_2 dX11_here_19 ?_
      refine lv_goto (tgt := 24) hx hb dX11_here_20 (by decide) ?_
      obtain ⟨rfl, rfl⟩ := mm_ret hf
      exact mm_iret X hP hS dX11_here_24
  exact hgen _ _ hP hS
def fx_X11_wantsOf (x0 : Int32) (σ : mm_M) : mm_R := if x0 = (99 : Int32) then some ((2 : Int32), σ) else if x0 = (107 : Int32) then some ((2 : Int32), σ) else if x0 = (112 : Int32) then some ((4 : Int32), σ) else if x0 = (119 : Int32) then some ((2 : Int32), σ) else if x0 = (114 : Int32) then some ((0 : Int32), σ) else some ((-1 : Int32), σ)
set_option maxHeartbeats 4000000 in
set_option maxRecDepth 100000 in
theorem cx_X11_wantsOf (l : Launch) (D : va_G) (ad : mm_A) (cA : Nat → ClassId) (hI : mm_Inj ad) (x0 : Int32)  (σ : mm_M) (rv : Int32) (σ1 : mm_M) (hf : fx_X11_wantsOf x0 σ = some (rv, σ1)) : Met l yX11_wantsOf (Cond.code yX11_wantsOf cX11_wantsOf 1 (some .int) :: tb) (mm_rm 0 0) (mm_pre D ad cA [.int x0] σ) (mm_Q D ad cA (some (.int rv)) σ1) 0 0 (mm_AS ad) := by
  refine mm_start (by decide +kernel) hI (Nat.le_of_ble_eq_true rfl) ?_
  intro p e s m args below meth c X hP ls hl
  have hl : lv_has ls 1 [(0, .int x0)] := hl
  have hx := X.1
  have hb := X.2.1
  have hS : va_S (mm_AS ad) s.heap s.heap [] := va_S.rf
  have hgen : ∀ (H : Heap) (locs : List Loc), va_P D vwCl (mm_wd ad cA σ) H → va_S (mm_AS ad) s.heap H locs → W p l e (mm_rm 0 0) s m args below meth c H locs 0 0 (MQ below (mm_Q D ad cA (some (.int rv)) σ1) args s 0 0 (mm_AS ad)) (F0 m 0 ls []) := by
    intro H locs hP hS
    rw [fx_X11_wantsOf] at hf
    refine lv_iload_n hx hb dX11_wantsOf_0 rfl (lv_at hl 0 rfl) ?_
    by_cases c_1 : x0 = (99 : Int32)
    · replace hf := mm_it c_1 hf
      refine lv_lookup (off := 45) (tgt := 46) hx hb dX11_wantsOf_1 (by decide +kernel) (by rw [c_1]; decide +kernel) (by decide) ?_
      refine lv_iconst (v := (2 : Int32)) hx hb dX11_wantsOf_46 (by decide) ?_
      obtain ⟨rfl, rfl⟩ := mm_ret hf
      exact mm_iret X hP hS dX11_wantsOf_47
    replace hf := mm_if c_1 hf
    by_cases c_2 : x0 = (107 : Int32)
    · replace hf := mm_it c_2 hf
      refine lv_lookup (off := 45) (tgt := 46) hx hb dX11_wantsOf_1 (by decide +kernel) (by rw [c_2]; decide +kernel) (by decide) ?_
      refine lv_iconst (v := (2 : Int32)) hx hb dX11_wantsOf_46 (by decide) ?_
      obtain ⟨rfl, rfl⟩ := mm_ret hf
      exact mm_iret X hP hS dX11_wantsOf_47
    replace hf := mm_if c_2 hf
    by_cases c_3 : x0 = (112 : Int32)
    · replace hf := mm_it c_3 hf
      refine lv_lookup (off := 43) (tgt := 44) hx hb dX11_wantsOf_1 (by decide +kernel) (by rw [c_3]; decide +kernel) (by decide) ?_
      refine lv_iconst (v := (4 : Int32)) hx hb dX11_wantsOf_44 (by decide) ?_
      obtain ⟨rfl, rfl⟩ := mm_ret hf
      exact mm_iret X hP hS dX11_wantsOf_45
    replace hf := mm_if c_3 hf
    by_cases c_4 : x0 = (119 : Int32)
    · replace hf := mm_it c_4 hf
      refine lv_lookup (off := 45) (tgt := 46) hx hb dX11_wantsOf_1 (by decide +kernel) (by rw [c_4]; decide +kernel) (by decide) ?_
      refine lv_iconst (v := (2 : Int32)) hx hb dX11_wantsOf_46 (by decide) ?_
      obtain ⟨rfl, rfl⟩ := mm_ret hf
      exact mm_iret X hP hS dX11_wantsOf_47
    replace hf := mm_if c_4 hf
    refine lv_lookup (off := 47) (tgt := 48) hx hb dX11_wantsOf_1 (by decide +kernel) (by show Op.lookupswitch.offset [(99, 45), (107, 45), (112, 43), (119, 45)] _ _ = _; rw [lv_osw c_1 (by decide), lv_osw c_2 (by decide), lv_osw c_3 (by decide), lv_osw c_4 (by decide)]; rfl) (by decide) ?_
    refine lv_iload_n hx hb dX11_wantsOf_48 rfl (lv_at hl 0 rfl) ?_
    refine lv_bipush (v := (114 : Int32)) hx hb dX11_wantsOf_49 (by decide) ?_
    refine lv_icmp_ne (tgt := 58) hx hb dX11_wantsOf_51 (by decide) (fun c_5 => ?_) (fun c_5 => ?_)
    · replace hf := mm_if c_5 hf
      refine lv_iconst (v := (-1 : Int32)) hx hb dX11_wantsOf_58 (by decide) ?_
      obtain ⟨rfl, rfl⟩ := mm_ret hf
      exact mm_iret X hP hS dX11_wantsOf_59
    · replace hf := mm_it c_5 hf
      refine lv_iconst (v := (0 : Int32)) hx hb dX11_wantsOf_54 (by decide) ?_
      refine lv_goto (tgt := 59) hx hb dX11_wantsOf_55 (by decide) ?_
      obtain ⟨rfl, rfl⟩ := mm_ret hf
      exact mm_iret X hP hS dX11_wantsOf_59
  exact hgen _ _ hP hS
def fx_X11_takesSign_J41 (x1 : Int32)  (w1 : Int32) (w2 : Int32) (σ : mm_M) : mm_R := mm_lt (mm_u σ 10 30 0 13 (w1 + w2)) fun s_7 => (some (0, s_7))
set_option maxHeartbeats 4000000 in
set_option maxRecDepth 100000 in
theorem cx_X11_takesSign_J41 {p : Program} {l : Launch} {e : Env} {s : State} {m : MethodId} {args : Array Value} {below : List Frame} {meth : Method} {c : Code} {D : va_G} {ad : mm_A} {cA : Nat → ClassId} (x1 : Int32)  (rv : Int32) (σ1 : mm_M)  (X : mm_X p s m args meth c cX11_takesSign 2 none RX11 D ad cA) : ∀ (w1 : Int32) (w2 : Int32) (σ : mm_M) (H : Heap) (locs : List Loc) (ls : Array Slot), fx_X11_takesSign_J41 x1 w1 w2 σ = some (rv, σ1) → va_P D vwCl (mm_wd ad cA σ) H → va_S (mm_AS ad) s.heap H locs → lv_has ls 2 [] → W p l e (mm_rm 1 20) s m args below meth c H locs 0 0 (MQ below (mm_Q D ad cA none σ1) args s 0 0 (mm_AS ad)) (F0 m 41 ls [.int w2, .int w1, .ref (ad 10 30 0)]) := by
  have hx := X.1
  have hb := X.2.1
  have hI := X.2.2.2.2.2.2.2.2.2
  intro w1 w2 σ H locs ls hf hP hS hl
  rw [fx_X11_takesSign_J41] at hf
  refine lv_iadd hx hb dX11_takesSign_41 ?_
  refine pf_30_13 X hP hS  wd_782  dX11_takesSign_42 (fun H locs hP hS => ?_)
  obtain ⟨s_7, e_7, hf⟩ := mm_lt_ok hf
  rw [← e_7] at hP
  obtain ⟨rfl, rfl⟩ := mm_ret hf
  exact mm_vret X hP hS dX11_takesSign_45
def fx_X11_takesSign_J21 (x1 : Int32)  (w1 : Int32) (σ : mm_M) : mm_R := mm_gd (w1 = 0 ∨ w1 = 1) (mm_lt (mm_u σ 10 30 0 17 w1) fun s_5 => (if (s_5 10 30 0 17) = (0 : Int32) then fx_X11_takesSign_J41 x1 (s_5 10 30 0 13) (0 : Int32) s_5 else fx_X11_takesSign_J41 x1 (s_5 10 30 0 13) (1 : Int32) s_5))
set_option maxHeartbeats 4000000 in
set_option maxRecDepth 100000 in
theorem cx_X11_takesSign_J21 {p : Program} {l : Launch} {e : Env} {s : State} {m : MethodId} {args : Array Value} {below : List Frame} {meth : Method} {c : Code} {D : va_G} {ad : mm_A} {cA : Nat → ClassId} (x1 : Int32)  (rv : Int32) (σ1 : mm_M)  (X : mm_X p s m args meth c cX11_takesSign 2 none RX11 D ad cA) : ∀ (w1 : Int32) (σ : mm_M) (H : Heap) (locs : List Loc) (ls : Array Slot), fx_X11_takesSign_J21 x1 w1 σ = some (rv, σ1) → va_P D vwCl (mm_wd ad cA σ) H → va_S (mm_AS ad) s.heap H locs → lv_has ls 2 [(0, .ref (ad 10 30 0))] → W p l e (mm_rm 1 20) s m args below meth c H locs 0 0 (MQ below (mm_Q D ad cA none σ1) args s 0 0 (mm_AS ad)) (F0 m 21 ls [.int w1, .ref (ad 10 30 0)]) := by
  have hx := X.1
  have hb := X.2.1
  have hI := X.2.2.2.2.2.2.2.2.2
  intro w1 σ H locs ls hf hP hS hl
  rw [fx_X11_takesSign_J21] at hf
  obtain ⟨h_4, hf⟩ := mm_gd_ok hf
  refine pf_30_17 X hP hS  wd_786 h_4 dX11_takesSign_21 (fun H locs hP hS => ?_)
  obtain ⟨s_5, e_5, hf⟩ := mm_lt_ok hf
  rw [← e_5] at hP
  refine lv_aload_n hx hb dX11_takesSign_24 rfl (lv_at hl 0 rfl) ?_
  refine lv_dup hx hb dX11_takesSign_25 rfl ?_
  refine gf_30_13 X hP  wd_782 dX11_takesSign_26 ?_
  refine lv_aload_n hx hb dX11_takesSign_29 rfl (lv_at hl 0 rfl) ?_
  refine gf_30_17 X hP  wd_786 dX11_takesSign_30 ?_
  refine lv_if_eq (tgt := 40) hx hb dX11_takesSign_33 (by decide) (fun c_6 => ?_) (fun c_6 => ?_)
  · replace hf := mm_it c_6 hf
    refine lv_iconst (v := (0 : Int32)) hx hb dX11_takesSign_40 (by decide) ?_
    exact cx_X11_takesSign_J41 x1 rv σ1 X (s_5 10 30 0 13) (0 : Int32) s_5 H locs ls hf hP hS (lv_sub hl [] rfl)
  · replace hf := mm_if c_6 hf
    refine lv_iconst (v := (1 : Int32)) hx hb dX11_takesSign_36 (by decide) ?_
    refine lv_goto (tgt := 41) hx hb dX11_takesSign_37 (by decide) ?_
    exact cx_X11_takesSign_J41 x1 rv σ1 X (s_5 10 30 0 13) (1 : Int32) s_5 H locs ls hf hP hS (lv_sub hl [] rfl)
def fx_X11_takesSign_J20 (x1 : Int32)   (σ : mm_M) : mm_R := fx_X11_takesSign_J21 x1 (0 : Int32) σ
set_option maxHeartbeats 4000000 in
set_option maxRecDepth 100000 in
theorem cx_X11_takesSign_J20 {p : Program} {l : Launch} {e : Env} {s : State} {m : MethodId} {args : Array Value} {below : List Frame} {meth : Method} {c : Code} {D : va_G} {ad : mm_A} {cA : Nat → ClassId} (x1 : Int32)  (rv : Int32) (σ1 : mm_M)  (X : mm_X p s m args meth c cX11_takesSign 2 none RX11 D ad cA) : ∀ (σ : mm_M) (H : Heap) (locs : List Loc) (ls : Array Slot), fx_X11_takesSign_J20 x1  σ = some (rv, σ1) → va_P D vwCl (mm_wd ad cA σ) H → va_S (mm_AS ad) s.heap H locs → lv_has ls 2 [(0, .ref (ad 10 30 0))] → W p l e (mm_rm 1 20) s m args below meth c H locs 0 0 (MQ below (mm_Q D ad cA none σ1) args s 0 0 (mm_AS ad)) (F0 m 20 ls [.ref (ad 10 30 0)]) := by
  have hx := X.1
  have hb := X.2.1
  have hI := X.2.2.2.2.2.2.2.2.2
  intro σ H locs ls hf hP hS hl
  rw [fx_X11_takesSign_J20] at hf
  refine lv_iconst (v := (0 : Int32)) hx hb dX11_takesSign_20 (by decide) ?_
  exact cx_X11_takesSign_J21 x1 rv σ1 X (0 : Int32) σ H locs ls hf hP hS (lv_sub hl [0] rfl)
def fx_X11_takesSign (x1 : Int32) (σ : mm_M) : mm_R := if (σ 10 30 0 17) = (0 : Int32) then fx_X11_takesSign_J20 x1 σ else mm_bd (fx_X11_here  σ) fun r_2 s_2 => (if r_2 = x1 then fx_X11_takesSign_J21 x1 (1 : Int32) s_2 else fx_X11_takesSign_J20 x1 s_2)
set_option maxHeartbeats 4000000 in
set_option maxRecDepth 100000 in
theorem cx_X11_takesSign (l : Launch) (D : va_G) (ad : mm_A) (cA : Nat → ClassId) (hI : mm_Inj ad) (x1 : Int32)  (σ : mm_M) (rv : Int32) (σ1 : mm_M) (hf : fx_X11_takesSign x1 σ = some (rv, σ1)) : Met l yX11_takesSign (Cond.code yX11_takesSign cX11_takesSign 2 none :: tb) (mm_rm 1 20) (mm_pre D ad cA [.ref (ad 10 30 0), .int x1] σ) (mm_Q D ad cA none σ1) 0 0 (mm_AS ad) := by
  refine mm_start (by decide +kernel) hI (Nat.le_of_ble_eq_true rfl) ?_
  intro p e s m args below meth c X hP ls hl
  have hl : lv_has ls 2 [(0, .ref (ad 10 30 0)), (1, .int x1)] := hl
  have hx := X.1
  have hb := X.2.1
  have hS : va_S (mm_AS ad) s.heap s.heap [] := va_S.rf
  have hgen : ∀ (H : Heap) (locs : List Loc), va_P D vwCl (mm_wd ad cA σ) H → va_S (mm_AS ad) s.heap H locs → W p l e (mm_rm 1 20) s m args below meth c H locs 0 0 (MQ below (mm_Q D ad cA none σ1) args s 0 0 (mm_AS ad)) (F0 m 0 ls []) := by
    intro H locs hP hS
    rw [fx_X11_takesSign] at hf
    refine lv_aload_n hx hb dX11_takesSign_0 rfl (lv_at hl 0 rfl) ?_
    refine lv_aload_n hx hb dX11_takesSign_1 rfl (lv_at hl 0 rfl) ?_
    refine gf_30_17 X hP  wd_786 dX11_takesSign_2 ?_
    refine lv_if_eq (tgt := 20) hx hb dX11_takesSign_5 (by decide) (fun c_1 => ?_) (fun c_1 => ?_)
    · replace hf := mm_it c_1 hf
      exact cx_X11_takesSign_J20 x1 rv σ1 X σ H locs ls hf hP hS (lv_sub hl [0] rfl)
    · replace hf := mm_if c_1 hf
      refine lv_aload_n hx hb dX11_takesSign_8 rfl (lv_at hl 0 rfl) ?_
      obtain ⟨r_2, s_2, e_2, hf⟩ := mm_bd_ok hf
      refine mm_callV X hP hS hl.1 [] [.ref (ad 10 30 0)] (cx_X11_here l D ad cA hI  σ r_2 s_2 e_2) kp_30 rfl rfl wd_1121 wd_1123 wp_63 wd_12 wd_1124 hd_X11_here ⟨Nat.le_of_ble_eq_true rfl, Nat.le_of_ble_eq_true rfl⟩ rfl (Nat.le_of_ble_eq_true rfl) dX11_takesSign_9 (fun H locs hP hS => ?_)
      refine lv_iload_n hx hb dX11_takesSign_12 rfl (lv_at hl 1 rfl) ?_
      refine lv_icmp_ne (tgt := 20) hx hb dX11_takesSign_13 (by decide) (fun c_3 => ?_) (fun c_3 => ?_)
      · replace hf := mm_if c_3 hf
        exact cx_X11_takesSign_J20 x1 rv σ1 X s_2 H locs ls hf hP hS (lv_sub hl [0] rfl)
      · replace hf := mm_it c_3 hf
        refine lv_iconst (v := (1 : Int32)) hx hb dX11_takesSign_16 (by decide) ?_
        refine lv_goto (tgt := 21) hx hb dX11_takesSign_17 (by decide) ?_
        exact cx_X11_takesSign_J21 x1 rv σ1 X (1 : Int32) s_2 H locs ls hf hP hS (lv_sub hl [0] rfl)
  exact hgen _ _ hP hS
def fx_X11_called (x1 : Int32) (σ : mm_M) : mm_R := if x1 = (99 : Int32) then mm_bd (fx_X11_comes (σ 10 41 0 (0 : Int32).toNatClampNeg) (σ 10 41 0 (1 : Int32).toNatClampNeg) σ) fun r_2 s_2 => (some (r_2, s_2)) else if x1 = (107 : Int32) then mm_bd (fx_X11_kinds (σ 10 41 0 (0 : Int32).toNatClampNeg) (σ 10 41 0 (1 : Int32).toNatClampNeg) σ) fun r_4 s_4 => (some (r_4, s_4)) else if x1 = (112 : Int32) then mm_bd (fx_X11_cards (σ 10 41 0 (0 : Int32).toNatClampNeg) (σ 10 41 0 (1 : Int32).toNatClampNeg) (σ 10 41 0 (2 : Int32).toNatClampNeg) (σ 10 41 0 (3 : Int32).toNatClampNeg) σ) fun r_6 s_6 => (some (r_6, s_6)) else if x1 = (119 : Int32) then mm_bd (fx_X11_walls (σ 10 41 0 (0 : Int32).toNatClampNeg) (σ 10 41 0 (1 : Int32).toNatClampNeg) σ) fun r_8 s_8 => (some (r_8, s_8)) else mm_bd (fx_X11_phases  σ) fun r_9 s_9 => (some (r_9, s_9))
set_option maxHeartbeats 4000000 in
set_option maxRecDepth 100000 in
theorem cx_X11_called (l : Launch) (D : va_G) (ad : mm_A) (cA : Nat → ClassId) (hI : mm_Inj ad) (x1 : Int32)  (σ : mm_M) (rv : Int32) (σ1 : mm_M) (hf : fx_X11_called x1 σ = some (rv, σ1)) : Met l yX11_called (Cond.code yX11_called cX11_called 2 (some .int) :: tb) (mm_rm 9 198) (mm_pre D ad cA [.ref (ad 10 30 0), .int x1] σ) (mm_Q D ad cA (some (.int rv)) σ1) 0 0 (mm_AS ad) := by
  refine mm_start (by decide +kernel) hI (Nat.le_of_ble_eq_true rfl) ?_
  intro p e s m args below meth c X hP ls hl
  have hl : lv_has ls 2 [(0, .ref (ad 10 30 0)), (1, .int x1)] := hl
  have hx := X.1
  have hb := X.2.1
  have hS : va_S (mm_AS ad) s.heap s.heap [] := va_S.rf
  have hgen : ∀ (H : Heap) (locs : List Loc), va_P D vwCl (mm_wd ad cA σ) H → va_S (mm_AS ad) s.heap H locs → W p l e (mm_rm 9 198) s m args below meth c H locs 0 0 (MQ below (mm_Q D ad cA (some (.int rv)) σ1) args s 0 0 (mm_AS ad)) (F0 m 0 ls []) := by
    intro H locs hP hS
    rw [fx_X11_called] at hf
    refine lv_iload_n hx hb dX11_called_0 rfl (lv_at hl 1 rfl) ?_
    by_cases c_1 : x1 = (99 : Int32)
    · replace hf := mm_it c_1 hf
      refine lv_lookup (off := 106) (tgt := 107) hx hb dX11_called_1 (by decide +kernel) (by rw [c_1]; decide +kernel) (by decide) ?_
      refine lv_aload_n hx hb dX11_called_107 rfl (lv_at hl 0 rfl) ?_
      refine lv_aload_n hx hb dX11_called_108 rfl (lv_at hl 0 rfl) ?_
      refine gf_30_18 X hP  wd_787 dX11_called_109 ?_
      refine lv_iconst (v := (0 : Int32)) hx hb dX11_called_112 (by decide) ?_
      refine al_41 X hP  (by decide : mm_ix (0 : Int32) 4 = true) dX11_called_113 ?_
      refine lv_aload_n hx hb dX11_called_114 rfl (lv_at hl 0 rfl) ?_
      refine gf_30_18 X hP  wd_787 dX11_called_115 ?_
      refine lv_iconst (v := (1 : Int32)) hx hb dX11_called_118 (by decide) ?_
      refine al_41 X hP  (by decide : mm_ix (1 : Int32) 4 = true) dX11_called_119 ?_
      obtain ⟨r_2, s_2, e_2, hf⟩ := mm_bd_ok hf
      refine mm_callV X hP hS hl.1 [.int (σ 10 41 0 (0 : Int32).toNatClampNeg), .int (σ 10 41 0 (1 : Int32).toNatClampNeg)] [] (cx_X11_comes l D ad cA hI (σ 10 41 0 (0 : Int32).toNatClampNeg) (σ 10 41 0 (1 : Int32).toNatClampNeg) σ r_2 s_2 e_2) kp_30 rfl rfl wd_882 wd_884 wp_23 wd_12 wd_885 hd_X11_comes ⟨Nat.le_of_ble_eq_true rfl, Nat.le_of_ble_eq_true rfl⟩ rfl (Nat.le_of_ble_eq_true rfl) dX11_called_120 (fun H locs hP hS => ?_)
      obtain ⟨rfl, rfl⟩ := mm_ret hf
      exact mm_iret X hP hS dX11_called_123
    replace hf := mm_if c_1 hf
    by_cases c_3 : x1 = (107 : Int32)
    · replace hf := mm_it c_3 hf
      refine lv_lookup (off := 72) (tgt := 73) hx hb dX11_called_1 (by decide +kernel) (by rw [c_3]; decide +kernel) (by decide) ?_
      refine lv_aload_n hx hb dX11_called_73 rfl (lv_at hl 0 rfl) ?_
      refine lv_aload_n hx hb dX11_called_74 rfl (lv_at hl 0 rfl) ?_
      refine gf_30_18 X hP  wd_787 dX11_called_75 ?_
      refine lv_iconst (v := (0 : Int32)) hx hb dX11_called_78 (by decide) ?_
      refine al_41 X hP  (by decide : mm_ix (0 : Int32) 4 = true) dX11_called_79 ?_
      refine lv_aload_n hx hb dX11_called_80 rfl (lv_at hl 0 rfl) ?_
      refine gf_30_18 X hP  wd_787 dX11_called_81 ?_
      refine lv_iconst (v := (1 : Int32)) hx hb dX11_called_84 (by decide) ?_
      refine al_41 X hP  (by decide : mm_ix (1 : Int32) 4 = true) dX11_called_85 ?_
      obtain ⟨r_4, s_4, e_4, hf⟩ := mm_bd_ok hf
      refine mm_callV X hP hS hl.1 [.int (σ 10 41 0 (0 : Int32).toNatClampNeg), .int (σ 10 41 0 (1 : Int32).toNatClampNeg)] [] (cx_X11_kinds l D ad cA hI (σ 10 41 0 (0 : Int32).toNatClampNeg) (σ 10 41 0 (1 : Int32).toNatClampNeg) σ r_4 s_4 e_4) kp_30 rfl rfl wd_835 wd_837 wp_17 wd_12 wd_838 hd_X11_kinds ⟨Nat.le_of_ble_eq_true rfl, Nat.le_of_ble_eq_true rfl⟩ rfl (Nat.le_of_ble_eq_true rfl) dX11_called_86 (fun H locs hP hS => ?_)
      obtain ⟨rfl, rfl⟩ := mm_ret hf
      exact mm_iret X hP hS dX11_called_89
    replace hf := mm_if c_3 hf
    by_cases c_5 : x1 = (112 : Int32)
    · replace hf := mm_it c_5 hf
      refine lv_lookup (off := 43) (tgt := 44) hx hb dX11_called_1 (by decide +kernel) (by rw [c_5]; decide +kernel) (by decide) ?_
      refine lv_aload_n hx hb dX11_called_44 rfl (lv_at hl 0 rfl) ?_
      refine lv_aload_n hx hb dX11_called_45 rfl (lv_at hl 0 rfl) ?_
      refine gf_30_18 X hP  wd_787 dX11_called_46 ?_
      refine lv_iconst (v := (0 : Int32)) hx hb dX11_called_49 (by decide) ?_
      refine al_41 X hP  (by decide : mm_ix (0 : Int32) 4 = true) dX11_called_50 ?_
      refine lv_aload_n hx hb dX11_called_51 rfl (lv_at hl 0 rfl) ?_
      refine gf_30_18 X hP  wd_787 dX11_called_52 ?_
      refine lv_iconst (v := (1 : Int32)) hx hb dX11_called_55 (by decide) ?_
      refine al_41 X hP  (by decide : mm_ix (1 : Int32) 4 = true) dX11_called_56 ?_
      refine lv_aload_n hx hb dX11_called_57 rfl (lv_at hl 0 rfl) ?_
      refine gf_30_18 X hP  wd_787 dX11_called_58 ?_
      refine lv_iconst (v := (2 : Int32)) hx hb dX11_called_61 (by decide) ?_
      refine al_41 X hP  (by decide : mm_ix (2 : Int32) 4 = true) dX11_called_62 ?_
      refine lv_aload_n hx hb dX11_called_63 rfl (lv_at hl 0 rfl) ?_
      refine gf_30_18 X hP  wd_787 dX11_called_64 ?_
      refine lv_iconst (v := (3 : Int32)) hx hb dX11_called_67 (by decide) ?_
      refine al_41 X hP  (by decide : mm_ix (3 : Int32) 4 = true) dX11_called_68 ?_
      obtain ⟨r_6, s_6, e_6, hf⟩ := mm_bd_ok hf
      refine mm_callV X hP hS hl.1 [.int (σ 10 41 0 (0 : Int32).toNatClampNeg), .int (σ 10 41 0 (1 : Int32).toNatClampNeg), .int (σ 10 41 0 (2 : Int32).toNatClampNeg), .int (σ 10 41 0 (3 : Int32).toNatClampNeg)] [] (cx_X11_cards l D ad cA hI (σ 10 41 0 (0 : Int32).toNatClampNeg) (σ 10 41 0 (1 : Int32).toNatClampNeg) (σ 10 41 0 (2 : Int32).toNatClampNeg) (σ 10 41 0 (3 : Int32).toNatClampNeg) σ r_6 s_6 e_6) kp_30 rfl rfl wd_899 wd_901 wp_26 wd_12 wd_902 hd_X11_cards ⟨Nat.le_of_ble_eq_true rfl, Nat.le_of_ble_eq_true rfl⟩ rfl (Nat.le_of_ble_eq_true rfl) dX11_called_69 (fun H locs hP hS => ?_)
      obtain ⟨rfl, rfl⟩ := mm_ret hf
      exact mm_iret X hP hS dX11_called_72
    replace hf := mm_if c_5 hf
    by_cases c_7 : x1 = (119 : Int32)
    · replace hf := mm_it c_7 hf
      refine lv_lookup (off := 89) (tgt := 90) hx hb dX11_called_1 (by decide +kernel) (by rw [c_7]; decide +kernel) (by decide) ?_
      refine lv_aload_n hx hb dX11_called_90 rfl (lv_at hl 0 rfl) ?_
      refine lv_aload_n hx hb dX11_called_91 rfl (lv_at hl 0 rfl) ?_
      refine gf_30_18 X hP  wd_787 dX11_called_92 ?_
      refine lv_iconst (v := (0 : Int32)) hx hb dX11_called_95 (by decide) ?_
      refine al_41 X hP  (by decide : mm_ix (0 : Int32) 4 = true) dX11_called_96 ?_
      refine lv_aload_n hx hb dX11_called_97 rfl (lv_at hl 0 rfl) ?_
      refine gf_30_18 X hP  wd_787 dX11_called_98 ?_
      refine lv_iconst (v := (1 : Int32)) hx hb dX11_called_101 (by decide) ?_
      refine al_41 X hP  (by decide : mm_ix (1 : Int32) 4 = true) dX11_called_102 ?_
      obtain ⟨r_8, s_8, e_8, hf⟩ := mm_bd_ok hf
      refine mm_callV X hP hS hl.1 [.int (σ 10 41 0 (0 : Int32).toNatClampNeg), .int (σ 10 41 0 (1 : Int32).toNatClampNeg)] [] (cx_X11_walls l D ad cA hI (σ 10 41 0 (0 : Int32).toNatClampNeg) (σ 10 41 0 (1 : Int32).toNatClampNeg) σ r_8 s_8 e_8) kp_30 rfl rfl wd_867 wd_869 wp_22 wd_12 wd_870 hd_X11_walls ⟨Nat.le_of_ble_eq_true rfl, Nat.le_of_ble_eq_true rfl⟩ rfl (Nat.le_of_ble_eq_true rfl) dX11_called_103 (fun H locs hP hS => ?_)
      obtain ⟨rfl, rfl⟩ := mm_ret hf
      exact mm_iret X hP hS dX11_called_106
    replace hf := mm_if c_7 hf
    refine lv_lookup (off := 123) (tgt := 124) hx hb dX11_called_1 (by decide +kernel) (by show Op.lookupswitch.offset [(99, 106), (107, 72), (112, 43), (119, 89)] _ _ = _; rw [lv_osw c_1 (by decide), lv_osw c_3 (by decide), lv_osw c_5 (by decide), lv_osw c_7 (by decide)]; rfl) (by decide) ?_
    refine lv_aload_n hx hb dX11_called_124 rfl (lv_at hl 0 rfl) ?_
    obtain ⟨r_9, s_9, e_9, hf⟩ := mm_bd_ok hf
    refine mm_callV X hP hS hl.1 [] [] (cx_X11_phases l D ad cA hI  σ r_9 s_9 e_9) kp_30 rfl rfl wd_934 wd_936 wp_32 wd_12 wd_937 hd_X11_phases ⟨Nat.le_of_ble_eq_true rfl, Nat.le_of_ble_eq_true rfl⟩ rfl (Nat.le_of_ble_eq_true rfl) dX11_called_125 (fun H locs hP hS => ?_)
    obtain ⟨rfl, rfl⟩ := mm_ret hf
    exact mm_iret X hP hS dX11_called_128
  exact hgen _ _ hP hS
def fx_X11_isDigit  (σ : mm_M) : mm_R := mm_bd (fx_X11_here  σ) fun r_1 s_1 => (mm_bd (fx_X11_in r_1 (48 : Int32) (57 : Int32) s_1) fun r_2 s_2 => (mm_gd (r_2 = 0 ∨ r_2 = 1) (some (r_2, s_2))))
set_option maxHeartbeats 4000000 in
set_option maxRecDepth 100000 in
theorem cx_X11_isDigit (l : Launch) (D : va_G) (ad : mm_A) (cA : Nat → ClassId) (hI : mm_Inj ad)   (σ : mm_M) (rv : Int32) (σ1 : mm_M) (hf : fx_X11_isDigit  σ = some (rv, σ1)) : Met l yX11_isDigit (Cond.code yX11_isDigit cX11_isDigit 1 (some .boolean) :: tb) (mm_rm 1 22) (mm_pre D ad cA [.ref (ad 10 30 0)] σ) (mm_Q D ad cA (some (.int rv)) σ1) 0 0 (mm_AS ad) := by
  refine mm_start (by decide +kernel) hI (Nat.le_of_ble_eq_true rfl) ?_
  intro p e s m args below meth c X hP ls hl
  have hl : lv_has ls 1 [(0, .ref (ad 10 30 0))] := hl
  have hx := X.1
  have hb := X.2.1
  have hS : va_S (mm_AS ad) s.heap s.heap [] := va_S.rf
  have hgen : ∀ (H : Heap) (locs : List Loc), va_P D vwCl (mm_wd ad cA σ) H → va_S (mm_AS ad) s.heap H locs → W p l e (mm_rm 1 22) s m args below meth c H locs 0 0 (MQ below (mm_Q D ad cA (some (.int rv)) σ1) args s 0 0 (mm_AS ad)) (F0 m 0 ls []) := by
    intro H locs hP hS
    rw [fx_X11_isDigit] at hf
    refine lv_aload_n hx hb dX11_isDigit_0 rfl (lv_at hl 0 rfl) ?_
    obtain ⟨r_1, s_1, e_1, hf⟩ := mm_bd_ok hf
    refine mm_callV X hP hS hl.1 [] [] (cx_X11_here l D ad cA hI  σ r_1 s_1 e_1) kp_30 rfl rfl wd_1121 wd_1123 wp_63 wd_12 wd_1124 hd_X11_here ⟨Nat.le_of_ble_eq_true rfl, Nat.le_of_ble_eq_true rfl⟩ rfl (Nat.le_of_ble_eq_true rfl) dX11_isDigit_1 (fun H locs hP hS => ?_)
    refine lv_bipush (v := (48 : Int32)) hx hb dX11_isDigit_4 (by decide) ?_
    refine lv_bipush (v := (57 : Int32)) hx hb dX11_isDigit_6 (by decide) ?_
    obtain ⟨r_2, s_2, e_2, hf⟩ := mm_bd_ok hf
    refine mm_callS X hP hS hl.1 [.int r_1, .int (48 : Int32), .int (57 : Int32)] [] (cx_X11_in l D ad cA hI r_1 (48 : Int32) (57 : Int32) s_1 r_2 s_2 e_2) wd_842 wd_843 wd_12 wd_844 hd_X11_in ⟨Nat.le_of_ble_eq_true rfl, Nat.le_of_ble_eq_true rfl⟩ rfl (Nat.le_of_ble_eq_true rfl) dX11_isDigit_8 (fun H locs hP hS => ?_)
    obtain ⟨h_3, hf⟩ := mm_gd_ok hf
    obtain ⟨rfl, rfl⟩ := mm_ret hf
    exact mm_zret h_3 X hP hS dX11_isDigit_11
  exact hgen _ _ hP hS
def fx_X11_number_L27   : Nat → Int32 → Int32 → mm_M → mm_R
  | 0, _, _, _ => none
  | fu + 1, v1, v2, σ => if (3 : Int32) ≤ v2 then some (v1, σ) else if (σ 10 30 0 17) = (0 : Int32) then some (v1, σ) else mm_bd (fx_X11_isDigit  σ) fun r_8 s_8 => (if r_8 = (0 : Int32) then some (v1, s_8) else mm_bd (fx_X11_here  s_8) fun r_10 s_10 => (mm_li ((((10 : Int32) * v1) + r_10) - (48 : Int32)) fun y_11 => (mm_lt (mm_u s_10 10 30 0 13 ((s_10 10 30 0 13) + (1 : Int32))) fun s_12 => (mm_li (v2 + (1 : Int32)) fun y_13 => (fx_X11_number_L27 fu y_11 y_13 s_12)))))
set_option maxHeartbeats 4000000 in
set_option maxRecDepth 100000 in
theorem cx_X11_number_L27 {p : Program} {l : Launch} {e : Env} {s : State} {m : MethodId} {args : Array Value} {below : List Frame} {meth : Method} {c : Code} {D : va_G} {ad : mm_A} {cA : Nat → ClassId}   (rv : Int32) (σ1 : mm_M)  (X : mm_X p s m args meth c cX11_number 3 (some .int) RX11 D ad cA) : ∀ (fu : Nat), ∀ (v1 : Int32) (v2 : Int32) (σ : mm_M) (H : Heap) (locs : List Loc) (ls : Array Slot), fx_X11_number_L27  fu v1 v2 σ = some (rv, σ1) → va_P D vwCl (mm_wd ad cA σ) H → va_S (mm_AS ad) s.heap H locs → lv_has ls 3 [(0, .ref (ad 10 30 0)), (1, .int v1), (2, .int v2)] → W p l e (mm_rm 2 42) s m args below meth c H locs 0 0 (MQ below (mm_Q D ad cA (some (.int rv)) σ1) args s 0 0 (mm_AS ad)) (F0 m 27 ls []) := by
  have hx := X.1
  have hb := X.2.1
  have hI := X.2.2.2.2.2.2.2.2.2
  intro fu
  induction fu with
  | zero =>
    intro v1 v2 σ H locs ls hf
    exact mm_no hf
  | succ fu ih =>
    intro v1 v2 σ H locs ls hf hP hS hl
    rw [fx_X11_number_L27] at hf
    refine lv_iload_n hx hb dX11_number_27 rfl (lv_at hl 2 rfl) ?_
    refine lv_iconst (v := (3 : Int32)) hx hb dX11_number_28 (by decide) ?_
    refine lv_icmp_ge (tgt := 75) hx hb dX11_number_29 (by decide) (fun c_6 => ?_) (fun c_6 => ?_)
    · replace hf := mm_it c_6 hf
      refine lv_iload_n hx hb dX11_number_75 rfl (lv_at hl 1 rfl) ?_
      obtain ⟨rfl, rfl⟩ := mm_ret hf
      exact mm_iret X hP hS dX11_number_76
    · replace hf := mm_if c_6 hf
      refine lv_aload_n hx hb dX11_number_32 rfl (lv_at hl 0 rfl) ?_
      refine gf_30_17 X hP  wd_786 dX11_number_33 ?_
      refine lv_if_eq (tgt := 75) hx hb dX11_number_36 (by decide) (fun c_7 => ?_) (fun c_7 => ?_)
      · replace hf := mm_it c_7 hf
        refine lv_iload_n hx hb dX11_number_75 rfl (lv_at hl 1 rfl) ?_
        obtain ⟨rfl, rfl⟩ := mm_ret hf
        exact mm_iret X hP hS dX11_number_76
      · replace hf := mm_if c_7 hf
        refine lv_aload_n hx hb dX11_number_39 rfl (lv_at hl 0 rfl) ?_
        obtain ⟨r_8, s_8, e_8, hf⟩ := mm_bd_ok hf
        refine mm_callV X hP hS hl.1 [] [] (cx_X11_isDigit l D ad cA hI  σ r_8 s_8 e_8) kp_30 rfl rfl wd_1136 wd_1138 wp_66 wd_12 wd_1139 hd_X11_isDigit ⟨Nat.le_of_ble_eq_true rfl, Nat.le_of_ble_eq_true rfl⟩ rfl (Nat.le_of_ble_eq_true rfl) dX11_number_40 (fun H locs hP hS => ?_)
        refine lv_if_eq (tgt := 75) hx hb dX11_number_43 (by decide) (fun c_9 => ?_) (fun c_9 => ?_)
        · replace hf := mm_it c_9 hf
          refine lv_iload_n hx hb dX11_number_75 rfl (lv_at hl 1 rfl) ?_
          obtain ⟨rfl, rfl⟩ := mm_ret hf
          exact mm_iret X hP hS dX11_number_76
        · replace hf := mm_if c_9 hf
          refine lv_bipush (v := (10 : Int32)) hx hb dX11_number_46 (by decide) ?_
          refine lv_iload_n hx hb dX11_number_48 rfl (lv_at hl 1 rfl) ?_
          refine lv_imul hx hb dX11_number_49 ?_
          refine lv_aload_n hx hb dX11_number_50 rfl (lv_at hl 0 rfl) ?_
          obtain ⟨r_10, s_10, e_10, hf⟩ := mm_bd_ok hf
          refine mm_callV X hP hS hl.1 [] [.int ((10 : Int32) * v1)] (cx_X11_here l D ad cA hI  s_8 r_10 s_10 e_10) kp_30 rfl rfl wd_1121 wd_1123 wp_63 wd_12 wd_1124 hd_X11_here ⟨Nat.le_of_ble_eq_true rfl, Nat.le_of_ble_eq_true rfl⟩ rfl (Nat.le_of_ble_eq_true rfl) dX11_number_51 (fun H locs hP hS => ?_)
          refine lv_iadd hx hb dX11_number_54 ?_
          refine lv_bipush (v := (48 : Int32)) hx hb dX11_number_55 (by decide) ?_
          refine lv_isub hx hb dX11_number_57 ?_
          obtain ⟨y_11, e_11, hf⟩ := mm_li_ok hf
          rw [← e_11]
          refine lv_istore_n (lv' := [(1, .int y_11), (0, .ref (ad 10 30 0)), (2, .int v2)]) hx hb dX11_number_58 rfl hl (by decide) rfl (fun ls hl => ?_)
          refine lv_aload_n hx hb dX11_number_59 rfl (lv_at hl 1 rfl) ?_
          refine lv_dup hx hb dX11_number_60 rfl ?_
          refine gf_30_13 X hP  wd_782 dX11_number_61 ?_
          refine lv_iconst (v := (1 : Int32)) hx hb dX11_number_64 (by decide) ?_
          refine lv_iadd hx hb dX11_number_65 ?_
          refine pf_30_13 X hP hS  wd_782  dX11_number_66 (fun H locs hP hS => ?_)
          obtain ⟨s_12, e_12, hf⟩ := mm_lt_ok hf
          rw [← e_12] at hP
          obtain ⟨y_13, e_13, hf⟩ := mm_li_ok hf
          refine lv_iinc (v := y_13) (lv' := [(2, .int y_13), (1, .int y_11), (0, .ref (ad 10 30 0))]) hx hb dX11_number_69 hl (k := 2) rfl (by rw [e_13]; rfl) (by decide) rfl (fun ls hl => ?_)
          refine lv_goto (tgt := 27) hx hb dX11_number_72 (by decide) ?_
          exact ih y_11 y_13 s_12 H locs ls  hf hP hS (lv_sub hl [2, 1, 0] rfl)
def fx_X11_number_J20   (w1 : Int32) (σ : mm_M) : mm_R := mm_gd (w1 = 0 ∨ w1 = 1) (mm_lt (mm_u σ 10 30 0 17 w1) fun s_5 => (fx_X11_number_L27 mm_FU (0 : Int32) (0 : Int32) s_5))
set_option maxHeartbeats 4000000 in
set_option maxRecDepth 100000 in
theorem cx_X11_number_J20 {p : Program} {l : Launch} {e : Env} {s : State} {m : MethodId} {args : Array Value} {below : List Frame} {meth : Method} {c : Code} {D : va_G} {ad : mm_A} {cA : Nat → ClassId}   (rv : Int32) (σ1 : mm_M)  (X : mm_X p s m args meth c cX11_number 3 (some .int) RX11 D ad cA) : ∀ (w1 : Int32) (σ : mm_M) (H : Heap) (locs : List Loc) (ls : Array Slot), fx_X11_number_J20  w1 σ = some (rv, σ1) → va_P D vwCl (mm_wd ad cA σ) H → va_S (mm_AS ad) s.heap H locs → lv_has ls 3 [(0, .ref (ad 10 30 0))] → W p l e (mm_rm 2 42) s m args below meth c H locs 0 0 (MQ below (mm_Q D ad cA (some (.int rv)) σ1) args s 0 0 (mm_AS ad)) (F0 m 20 ls [.int w1, .ref (ad 10 30 0)]) := by
  have hx := X.1
  have hb := X.2.1
  have hI := X.2.2.2.2.2.2.2.2.2
  intro w1 σ H locs ls hf hP hS hl
  rw [fx_X11_number_J20] at hf
  obtain ⟨h_4, hf⟩ := mm_gd_ok hf
  refine pf_30_17 X hP hS  wd_786 h_4 dX11_number_20 (fun H locs hP hS => ?_)
  obtain ⟨s_5, e_5, hf⟩ := mm_lt_ok hf
  rw [← e_5] at hP
  refine lv_iconst (v := (0 : Int32)) hx hb dX11_number_23 (by decide) ?_
  refine lv_istore_n (lv' := [(1, .int (0 : Int32)), (0, .ref (ad 10 30 0))]) hx hb dX11_number_24 rfl hl (by decide) rfl (fun ls hl => ?_)
  refine lv_iconst (v := (0 : Int32)) hx hb dX11_number_25 (by decide) ?_
  refine lv_istore_n (lv' := [(2, .int (0 : Int32)), (1, .int (0 : Int32)), (0, .ref (ad 10 30 0))]) hx hb dX11_number_26 rfl hl (by decide) rfl (fun ls hl => ?_)
  exact cx_X11_number_L27 rv σ1 X mm_FU (0 : Int32) (0 : Int32) s_5 H locs ls hf hP hS (lv_sub hl [2, 1, 0] rfl)
def fx_X11_number_J19    (σ : mm_M) : mm_R := fx_X11_number_J20 (0 : Int32) σ
set_option maxHeartbeats 4000000 in
set_option maxRecDepth 100000 in
theorem cx_X11_number_J19 {p : Program} {l : Launch} {e : Env} {s : State} {m : MethodId} {args : Array Value} {below : List Frame} {meth : Method} {c : Code} {D : va_G} {ad : mm_A} {cA : Nat → ClassId}   (rv : Int32) (σ1 : mm_M)  (X : mm_X p s m args meth c cX11_number 3 (some .int) RX11 D ad cA) : ∀ (σ : mm_M) (H : Heap) (locs : List Loc) (ls : Array Slot), fx_X11_number_J19   σ = some (rv, σ1) → va_P D vwCl (mm_wd ad cA σ) H → va_S (mm_AS ad) s.heap H locs → lv_has ls 3 [(0, .ref (ad 10 30 0))] → W p l e (mm_rm 2 42) s m args below meth c H locs 0 0 (MQ below (mm_Q D ad cA (some (.int rv)) σ1) args s 0 0 (mm_AS ad)) (F0 m 19 ls [.ref (ad 10 30 0)]) := by
  have hx := X.1
  have hb := X.2.1
  have hI := X.2.2.2.2.2.2.2.2.2
  intro σ H locs ls hf hP hS hl
  rw [fx_X11_number_J19] at hf
  refine lv_iconst (v := (0 : Int32)) hx hb dX11_number_19 (by decide) ?_
  exact cx_X11_number_J20 rv σ1 X (0 : Int32) σ H locs ls hf hP hS (lv_sub hl [0] rfl)
def fx_X11_number  (σ : mm_M) : mm_R := if (σ 10 30 0 17) = (0 : Int32) then fx_X11_number_J19 σ else mm_bd (fx_X11_isDigit  σ) fun r_2 s_2 => (if r_2 = (0 : Int32) then fx_X11_number_J19 s_2 else fx_X11_number_J20 (1 : Int32) s_2)
set_option maxHeartbeats 4000000 in
set_option maxRecDepth 100000 in
theorem cx_X11_number (l : Launch) (D : va_G) (ad : mm_A) (cA : Nat → ClassId) (hI : mm_Inj ad)   (σ : mm_M) (rv : Int32) (σ1 : mm_M) (hf : fx_X11_number  σ = some (rv, σ1)) : Met l yX11_number (Cond.code yX11_number cX11_number 3 (some .int) :: tb) (mm_rm 2 42) (mm_pre D ad cA [.ref (ad 10 30 0)] σ) (mm_Q D ad cA (some (.int rv)) σ1) 0 0 (mm_AS ad) := by
  refine mm_start (by decide +kernel) hI (Nat.le_of_ble_eq_true rfl) ?_
  intro p e s m args below meth c X hP ls hl
  have hl : lv_has ls 3 [(0, .ref (ad 10 30 0))] := hl
  have hx := X.1
  have hb := X.2.1
  have hS : va_S (mm_AS ad) s.heap s.heap [] := va_S.rf
  have hgen : ∀ (H : Heap) (locs : List Loc), va_P D vwCl (mm_wd ad cA σ) H → va_S (mm_AS ad) s.heap H locs → W p l e (mm_rm 2 42) s m args below meth c H locs 0 0 (MQ below (mm_Q D ad cA (some (.int rv)) σ1) args s 0 0 (mm_AS ad)) (F0 m 0 ls []) := by
    intro H locs hP hS
    rw [fx_X11_number] at hf
    refine lv_aload_n hx hb dX11_number_0 rfl (lv_at hl 0 rfl) ?_
    refine lv_aload_n hx hb dX11_number_1 rfl (lv_at hl 0 rfl) ?_
    refine gf_30_17 X hP  wd_786 dX11_number_2 ?_
    refine lv_if_eq (tgt := 19) hx hb dX11_number_5 (by decide) (fun c_1 => ?_) (fun c_1 => ?_)
    · replace hf := mm_it c_1 hf
      exact cx_X11_number_J19 rv σ1 X σ H locs ls hf hP hS (lv_sub hl [0] rfl)
    · replace hf := mm_if c_1 hf
      refine lv_aload_n hx hb dX11_number_8 rfl (lv_at hl 0 rfl) ?_
      obtain ⟨r_2, s_2, e_2, hf⟩ := mm_bd_ok hf
      refine mm_callV X hP hS hl.1 [] [.ref (ad 10 30 0)] (cx_X11_isDigit l D ad cA hI  σ r_2 s_2 e_2) kp_30 rfl rfl wd_1136 wd_1138 wp_66 wd_12 wd_1139 hd_X11_isDigit ⟨Nat.le_of_ble_eq_true rfl, Nat.le_of_ble_eq_true rfl⟩ rfl (Nat.le_of_ble_eq_true rfl) dX11_number_9 (fun H locs hP hS => ?_)
      refine lv_if_eq (tgt := 19) hx hb dX11_number_12 (by decide) (fun c_3 => ?_) (fun c_3 => ?_)
      · replace hf := mm_it c_3 hf
        exact cx_X11_number_J19 rv σ1 X s_2 H locs ls hf hP hS (lv_sub hl [0] rfl)
      · replace hf := mm_if c_3 hf
        refine lv_iconst (v := (1 : Int32)) hx hb dX11_number_15 (by decide) ?_
        refine lv_goto (tgt := 20) hx hb dX11_number_16 (by decide) ?_
        exact cx_X11_number_J20 rv σ1 X (1 : Int32) s_2 H locs ls hf hP hS (lv_sub hl [0] rfl)
  exact hgen _ _ hP hS
def fx_X11_doesAll_J91  (k10 : mm_M → mm_R) (k73 : Int32 → Int32 → mm_M → mm_R) (v1 : Int32) (v2 : Int32) (σ : mm_M) : mm_R := mm_bd (fx_X11_number  σ) fun r_23 s_23 => (mm_gd (mm_ix v2 4 = true) (mm_lt (mm_u s_23 10 41 0 v2.toNatClampNeg r_23) fun s_25 => (mm_li (v2 + (1 : Int32)) fun y_26 => (k73 v1 y_26 s_25))))
set_option maxHeartbeats 4000000 in
set_option maxRecDepth 100000 in
theorem cx_X11_doesAll_J91 {p : Program} {l : Launch} {e : Env} {s : State} {m : MethodId} {args : Array Value} {below : List Frame} {meth : Method} {c : Code} {D : va_G} {ad : mm_A} {cA : Nat → ClassId}   (rv : Int32) (σ1 : mm_M) (k10 : mm_M → mm_R) (hk10 : ∀ (σ : mm_M) (H : Heap) (locs : List Loc) (ls : Array Slot), k10  σ = some (rv, σ1) → va_P D vwCl (mm_wd ad cA σ) H → va_S (mm_AS ad) s.heap H locs → lv_has ls 3 [(0, .ref (ad 10 30 0))] → W p l e (mm_rm 10 219) s m args below meth c H locs 0 0 (MQ below (mm_Q D ad cA (some (.int rv)) σ1) args s 0 0 (mm_AS ad)) (F0 m 10 ls [])) (k73 : Int32 → Int32 → mm_M → mm_R) (hk73 : ∀ (v1 : Int32) (v2 : Int32) (σ : mm_M) (H : Heap) (locs : List Loc) (ls : Array Slot), k73 v1 v2 σ = some (rv, σ1) → va_P D vwCl (mm_wd ad cA σ) H → va_S (mm_AS ad) s.heap H locs → lv_has ls 3 [(0, .ref (ad 10 30 0)), (1, .int v1), (2, .int v2)] → W p l e (mm_rm 10 219) s m args below meth c H locs 0 0 (MQ below (mm_Q D ad cA (some (.int rv)) σ1) args s 0 0 (mm_AS ad)) (F0 m 73 ls [])) (X : mm_X p s m args meth c cX11_doesAll 3 (some .boolean) RX11 D ad cA) : ∀ (v1 : Int32) (v2 : Int32) (σ : mm_M) (H : Heap) (locs : List Loc) (ls : Array Slot), fx_X11_doesAll_J91 k10 k73 v1 v2 σ = some (rv, σ1) → va_P D vwCl (mm_wd ad cA σ) H → va_S (mm_AS ad) s.heap H locs → lv_has ls 3 [(0, .ref (ad 10 30 0)), (1, .int v1), (2, .int v2)] → W p l e (mm_rm 10 219) s m args below meth c H locs 0 0 (MQ below (mm_Q D ad cA (some (.int rv)) σ1) args s 0 0 (mm_AS ad)) (F0 m 91 ls []) := by
  have hx := X.1
  have hb := X.2.1
  have hI := X.2.2.2.2.2.2.2.2.2
  intro v1 v2 σ H locs ls hf hP hS hl
  rw [fx_X11_doesAll_J91] at hf
  refine lv_aload_n hx hb dX11_doesAll_91 rfl (lv_at hl 0 rfl) ?_
  refine gf_30_18 X hP  wd_787 dX11_doesAll_92 ?_
  refine lv_iload_n hx hb dX11_doesAll_95 rfl (lv_at hl 2 rfl) ?_
  refine lv_aload_n hx hb dX11_doesAll_96 rfl (lv_at hl 0 rfl) ?_
  obtain ⟨r_23, s_23, e_23, hf⟩ := mm_bd_ok hf
  refine mm_callV X hP hS hl.1 [] [.int v2, .ref (ad 10 41 0)] (cx_X11_number l D ad cA hI  σ r_23 s_23 e_23) kp_30 rfl rfl wd_1132 wd_1134 wp_65 wd_12 wd_1135 hd_X11_number ⟨Nat.le_of_ble_eq_true rfl, Nat.le_of_ble_eq_true rfl⟩ rfl (Nat.le_of_ble_eq_true rfl) dX11_doesAll_97 (fun H locs hP hS => ?_)
  obtain ⟨h_24, hf⟩ := mm_gd_ok hf
  refine as_41 X hP hS  h_24  dX11_doesAll_100 (fun H locs hP hS => ?_)
  obtain ⟨s_25, e_25, hf⟩ := mm_lt_ok hf
  rw [← e_25] at hP
  obtain ⟨y_26, e_26, hf⟩ := mm_li_ok hf
  refine lv_iinc (v := y_26) (lv' := [(2, .int y_26), (0, .ref (ad 10 30 0)), (1, .int v1)]) hx hb dX11_doesAll_101 hl (k := 2) rfl (by rw [e_26]; rfl) (by decide) rfl (fun ls hl => ?_)
  refine lv_goto (tgt := 73) hx hb dX11_doesAll_104 (by decide) ?_
  exact hk73 v1 y_26 s_25 H locs ls  hf hP hS (lv_sub hl [1, 2, 0] rfl)
def fx_X11_doesAll_J130  (k10 : mm_M → mm_R) (w1 : Int32) (σ : mm_M) : mm_R := mm_lt (mm_u σ 10 30 0 16 w1) fun s_19 => (if (s_19 10 30 0 17) = (0 : Int32) then some ((0 : Int32), s_19) else if (-1000001 : Int32) < (s_19 10 30 0 16) then mm_lt (mm_u s_19 10 30 0 15 ((s_19 10 30 0 15) + (1 : Int32))) fun s_22 => (k10  s_22) else some ((0 : Int32), s_19))
set_option maxHeartbeats 4000000 in
set_option maxRecDepth 100000 in
theorem cx_X11_doesAll_J130 {p : Program} {l : Launch} {e : Env} {s : State} {m : MethodId} {args : Array Value} {below : List Frame} {meth : Method} {c : Code} {D : va_G} {ad : mm_A} {cA : Nat → ClassId}   (rv : Int32) (σ1 : mm_M) (k10 : mm_M → mm_R) (hk10 : ∀ (σ : mm_M) (H : Heap) (locs : List Loc) (ls : Array Slot), k10  σ = some (rv, σ1) → va_P D vwCl (mm_wd ad cA σ) H → va_S (mm_AS ad) s.heap H locs → lv_has ls 3 [(0, .ref (ad 10 30 0))] → W p l e (mm_rm 10 219) s m args below meth c H locs 0 0 (MQ below (mm_Q D ad cA (some (.int rv)) σ1) args s 0 0 (mm_AS ad)) (F0 m 10 ls [])) (X : mm_X p s m args meth c cX11_doesAll 3 (some .boolean) RX11 D ad cA) : ∀ (w1 : Int32) (σ : mm_M) (H : Heap) (locs : List Loc) (ls : Array Slot), fx_X11_doesAll_J130 k10 w1 σ = some (rv, σ1) → va_P D vwCl (mm_wd ad cA σ) H → va_S (mm_AS ad) s.heap H locs → lv_has ls 3 [(0, .ref (ad 10 30 0))] → W p l e (mm_rm 10 219) s m args below meth c H locs 0 0 (MQ below (mm_Q D ad cA (some (.int rv)) σ1) args s 0 0 (mm_AS ad)) (F0 m 130 ls [.int w1, .ref (ad 10 30 0)]) := by
  have hx := X.1
  have hb := X.2.1
  have hI := X.2.2.2.2.2.2.2.2.2
  intro w1 σ H locs ls hf hP hS hl
  rw [fx_X11_doesAll_J130] at hf
  refine pf_30_16 X hP hS  wd_785  dX11_doesAll_130 (fun H locs hP hS => ?_)
  obtain ⟨s_19, e_19, hf⟩ := mm_lt_ok hf
  rw [← e_19] at hP
  refine lv_aload_n hx hb dX11_doesAll_133 rfl (lv_at hl 0 rfl) ?_
  refine gf_30_17 X hP  wd_786 dX11_doesAll_134 ?_
  refine lv_if_eq (tgt := 149) hx hb dX11_doesAll_137 (by decide) (fun c_20 => ?_) (fun c_20 => ?_)
  · replace hf := mm_it c_20 hf
    refine lv_iconst (v := (0 : Int32)) hx hb dX11_doesAll_149 (by decide) ?_
    obtain ⟨rfl, rfl⟩ := mm_ret hf
    exact mm_zret (Or.inl rfl) X hP hS dX11_doesAll_150
  · replace hf := mm_if c_20 hf
    refine lv_aload_n hx hb dX11_doesAll_140 rfl (lv_at hl 0 rfl) ?_
    refine gf_30_16 X hP  wd_785 dX11_doesAll_141 ?_
    refine lv_ldc (v := (-1000001 : Int32)) hx hb X.2.2.2.2.2.1 (X.2.2.2.2.2.2.1 _ wd_845) dX11_doesAll_144 ?_
    refine lv_icmp_gt (tgt := 151) hx hb dX11_doesAll_146 (by decide) (fun c_21 => ?_) (fun c_21 => ?_)
    · replace hf := mm_it c_21 hf
      refine lv_aload_n hx hb dX11_doesAll_151 rfl (lv_at hl 0 rfl) ?_
      refine lv_dup hx hb dX11_doesAll_152 rfl ?_
      refine gf_30_15 X hP  wd_784 dX11_doesAll_153 ?_
      refine lv_iconst (v := (1 : Int32)) hx hb dX11_doesAll_156 (by decide) ?_
      refine lv_iadd hx hb dX11_doesAll_157 ?_
      refine pf_30_15 X hP hS  wd_784  dX11_doesAll_158 (fun H locs hP hS => ?_)
      obtain ⟨s_22, e_22, hf⟩ := mm_lt_ok hf
      rw [← e_22] at hP
      refine lv_goto (tgt := 10) hx hb dX11_doesAll_161 (by decide) ?_
      exact hk10  s_22 H locs ls  hf hP hS (lv_sub hl [0] rfl)
    · replace hf := mm_if c_21 hf
      refine lv_iconst (v := (0 : Int32)) hx hb dX11_doesAll_149 (by decide) ?_
      obtain ⟨rfl, rfl⟩ := mm_ret hf
      exact mm_zret (Or.inl rfl) X hP hS dX11_doesAll_150
def fx_X11_doesAll_L73  (k10 : mm_M → mm_R) : Nat → Int32 → Int32 → mm_M → mm_R
  | 0, _, _, _ => none
  | fu + 1, v1, v2, σ => mm_bd (fx_X11_wantsOf v1 σ) fun r_12 s_12 => (if r_12 ≤ v2 then mm_bd (fx_X11_takesSign (59 : Int32) s_12) fun _ s_14 => (if (s_14 10 30 0 17) = (0 : Int32) then fx_X11_doesAll_J130 k10 (0 : Int32) s_14 else mm_bd (fx_X11_called v1 s_14) fun r_16 s_16 => (fx_X11_doesAll_J130 k10 r_16 s_16)) else if v2 ≤ (0 : Int32) then fx_X11_doesAll_J91 k10 (fun z0 z1 z => fx_X11_doesAll_L73 k10 fu z0 z1 z) v1 v2 s_12 else mm_bd (fx_X11_takesSign (44 : Int32) s_12) fun _ s_18 => (fx_X11_doesAll_J91 k10 (fun z0 z1 z => fx_X11_doesAll_L73 k10 fu z0 z1 z) v1 v2 s_18))
set_option maxHeartbeats 4000000 in
set_option maxRecDepth 100000 in
theorem cx_X11_doesAll_L73 {p : Program} {l : Launch} {e : Env} {s : State} {m : MethodId} {args : Array Value} {below : List Frame} {meth : Method} {c : Code} {D : va_G} {ad : mm_A} {cA : Nat → ClassId}   (rv : Int32) (σ1 : mm_M) (k10 : mm_M → mm_R) (hk10 : ∀ (σ : mm_M) (H : Heap) (locs : List Loc) (ls : Array Slot), k10  σ = some (rv, σ1) → va_P D vwCl (mm_wd ad cA σ) H → va_S (mm_AS ad) s.heap H locs → lv_has ls 3 [(0, .ref (ad 10 30 0))] → W p l e (mm_rm 10 219) s m args below meth c H locs 0 0 (MQ below (mm_Q D ad cA (some (.int rv)) σ1) args s 0 0 (mm_AS ad)) (F0 m 10 ls [])) (X : mm_X p s m args meth c cX11_doesAll 3 (some .boolean) RX11 D ad cA) : ∀ (fu : Nat), ∀ (v1 : Int32) (v2 : Int32) (σ : mm_M) (H : Heap) (locs : List Loc) (ls : Array Slot), fx_X11_doesAll_L73 k10 fu v1 v2 σ = some (rv, σ1) → va_P D vwCl (mm_wd ad cA σ) H → va_S (mm_AS ad) s.heap H locs → lv_has ls 3 [(0, .ref (ad 10 30 0)), (1, .int v1), (2, .int v2)] → W p l e (mm_rm 10 219) s m args below meth c H locs 0 0 (MQ below (mm_Q D ad cA (some (.int rv)) σ1) args s 0 0 (mm_AS ad)) (F0 m 73 ls []) := by
  have hx := X.1
  have hb := X.2.1
  have hI := X.2.2.2.2.2.2.2.2.2
  intro fu
  induction fu with
  | zero =>
    intro v1 v2 σ H locs ls hf
    exact mm_no hf
  | succ fu ih =>
    intro v1 v2 σ H locs ls hf hP hS hl
    rw [fx_X11_doesAll_L73] at hf
    refine lv_iload_n hx hb dX11_doesAll_73 rfl (lv_at hl 2 rfl) ?_
    refine lv_iload_n hx hb dX11_doesAll_74 rfl (lv_at hl 1 rfl) ?_
    obtain ⟨r_12, s_12, e_12, hf⟩ := mm_bd_ok hf
    refine mm_callS X hP hS hl.1 [.int v1] [.int v2] (cx_X11_wantsOf l D ad cA hI v1 σ r_12 s_12 e_12) wd_1125 wd_1126 wd_12 wd_1127 hd_X11_wantsOf ⟨Nat.le_of_ble_eq_true rfl, Nat.le_of_ble_eq_true rfl⟩ rfl (Nat.le_of_ble_eq_true rfl) dX11_doesAll_75 (fun H locs hP hS => ?_)
    refine lv_icmp_ge (tgt := 107) hx hb dX11_doesAll_78 (by decide) (fun c_13 => ?_) (fun c_13 => ?_)
    · replace hf := mm_it c_13 hf
      refine lv_aload_n hx hb dX11_doesAll_107 rfl (lv_at hl 0 rfl) ?_
      refine lv_bipush (v := (59 : Int32)) hx hb dX11_doesAll_108 (by decide) ?_
      obtain ⟨r_14, s_14, e_14, hf⟩ := mm_bd_ok hf
      refine mm_callV X hP hS hl.1 [.int (59 : Int32)] [] (cx_X11_takesSign l D ad cA hI (59 : Int32) s_12 r_14 s_14 e_14) kp_30 rfl rfl wd_1128 wd_1130 wp_64 wd_12 wd_1131 hd_X11_takesSign ⟨Nat.le_of_ble_eq_true rfl, Nat.le_of_ble_eq_true rfl⟩ rfl (Nat.le_of_ble_eq_true rfl) dX11_doesAll_110 (fun H locs hP hS => ?_)
      refine lv_aload_n hx hb dX11_doesAll_113 rfl (lv_at hl 0 rfl) ?_
      refine lv_aload_n hx hb dX11_doesAll_114 rfl (lv_at hl 0 rfl) ?_
      refine gf_30_17 X hP  wd_786 dX11_doesAll_115 ?_
      refine lv_if_eq (tgt := 129) hx hb dX11_doesAll_118 (by decide) (fun c_15 => ?_) (fun c_15 => ?_)
      · replace hf := mm_it c_15 hf
        refine lv_iconst (v := (0 : Int32)) hx hb dX11_doesAll_129 (by decide) ?_
        exact cx_X11_doesAll_J130 rv σ1 k10 hk10 X (0 : Int32) s_14 H locs ls hf hP hS (lv_sub hl [0] rfl)
      · replace hf := mm_if c_15 hf
        refine lv_aload_n hx hb dX11_doesAll_121 rfl (lv_at hl 0 rfl) ?_
        refine lv_iload_n hx hb dX11_doesAll_122 rfl (lv_at hl 1 rfl) ?_
        obtain ⟨r_16, s_16, e_16, hf⟩ := mm_bd_ok hf
        refine mm_callV X hP hS hl.1 [.int v1] [.ref (ad 10 30 0)] (cx_X11_called l D ad cA hI v1 s_14 r_16 s_16 e_16) kp_30 rfl rfl wd_1140 wd_1142 wp_67 wd_12 wd_1143 hd_X11_called ⟨Nat.le_of_ble_eq_true rfl, Nat.le_of_ble_eq_true rfl⟩ rfl (Nat.le_of_ble_eq_true rfl) dX11_doesAll_123 (fun H locs hP hS => ?_)
        refine lv_goto (tgt := 130) hx hb dX11_doesAll_126 (by decide) ?_
        exact cx_X11_doesAll_J130 rv σ1 k10 hk10 X r_16 s_16 H locs ls hf hP hS (lv_sub hl [0] rfl)
    · replace hf := mm_if c_13 hf
      refine lv_iload_n hx hb dX11_doesAll_81 rfl (lv_at hl 2 rfl) ?_
      refine lv_if_le (tgt := 91) hx hb dX11_doesAll_82 (by decide) (fun c_17 => ?_) (fun c_17 => ?_)
      · replace hf := mm_it c_17 hf
        exact cx_X11_doesAll_J91 rv σ1 k10 hk10 (fun z0 z1 z => fx_X11_doesAll_L73 k10 fu z0 z1 z) ih X v1 v2 s_12 H locs ls hf hP hS (lv_sub hl [0, 1, 2] rfl)
      · replace hf := mm_if c_17 hf
        refine lv_aload_n hx hb dX11_doesAll_85 rfl (lv_at hl 0 rfl) ?_
        refine lv_bipush (v := (44 : Int32)) hx hb dX11_doesAll_86 (by decide) ?_
        obtain ⟨r_18, s_18, e_18, hf⟩ := mm_bd_ok hf
        refine mm_callV X hP hS hl.1 [.int (44 : Int32)] [] (cx_X11_takesSign l D ad cA hI (44 : Int32) s_12 r_18 s_18 e_18) kp_30 rfl rfl wd_1128 wd_1130 wp_64 wd_12 wd_1131 hd_X11_takesSign ⟨Nat.le_of_ble_eq_true rfl, Nat.le_of_ble_eq_true rfl⟩ rfl (Nat.le_of_ble_eq_true rfl) dX11_doesAll_88 (fun H locs hP hS => ?_)
        exact cx_X11_doesAll_J91 rv σ1 k10 hk10 (fun z0 z1 z => fx_X11_doesAll_L73 k10 fu z0 z1 z) ih X v1 v2 s_18 H locs ls hf hP hS (lv_sub hl [0, 1, 2] rfl)
def fx_X11_doesAll_J67  (k10 : mm_M → mm_R) (v1 : Int32) (w1 : Int32) (w2 : Int32) (σ : mm_M) : mm_R := mm_lt (mm_u σ 10 30 0 13 (w1 + w2)) fun s_11 => (fx_X11_doesAll_L73 k10 mm_FU v1 (0 : Int32) s_11)
set_option maxHeartbeats 4000000 in
set_option maxRecDepth 100000 in
theorem cx_X11_doesAll_J67 {p : Program} {l : Launch} {e : Env} {s : State} {m : MethodId} {args : Array Value} {below : List Frame} {meth : Method} {c : Code} {D : va_G} {ad : mm_A} {cA : Nat → ClassId}   (rv : Int32) (σ1 : mm_M) (k10 : mm_M → mm_R) (hk10 : ∀ (σ : mm_M) (H : Heap) (locs : List Loc) (ls : Array Slot), k10  σ = some (rv, σ1) → va_P D vwCl (mm_wd ad cA σ) H → va_S (mm_AS ad) s.heap H locs → lv_has ls 3 [(0, .ref (ad 10 30 0))] → W p l e (mm_rm 10 219) s m args below meth c H locs 0 0 (MQ below (mm_Q D ad cA (some (.int rv)) σ1) args s 0 0 (mm_AS ad)) (F0 m 10 ls [])) (X : mm_X p s m args meth c cX11_doesAll 3 (some .boolean) RX11 D ad cA) : ∀ (v1 : Int32) (w1 : Int32) (w2 : Int32) (σ : mm_M) (H : Heap) (locs : List Loc) (ls : Array Slot), fx_X11_doesAll_J67 k10 v1 w1 w2 σ = some (rv, σ1) → va_P D vwCl (mm_wd ad cA σ) H → va_S (mm_AS ad) s.heap H locs → lv_has ls 3 [(0, .ref (ad 10 30 0)), (1, .int v1)] → W p l e (mm_rm 10 219) s m args below meth c H locs 0 0 (MQ below (mm_Q D ad cA (some (.int rv)) σ1) args s 0 0 (mm_AS ad)) (F0 m 67 ls [.int w2, .int w1, .ref (ad 10 30 0)]) := by
  have hx := X.1
  have hb := X.2.1
  have hI := X.2.2.2.2.2.2.2.2.2
  intro v1 w1 w2 σ H locs ls hf hP hS hl
  rw [fx_X11_doesAll_J67] at hf
  refine lv_iadd hx hb dX11_doesAll_67 ?_
  refine pf_30_13 X hP hS  wd_782  dX11_doesAll_68 (fun H locs hP hS => ?_)
  obtain ⟨s_11, e_11, hf⟩ := mm_lt_ok hf
  rw [← e_11] at hP
  refine lv_iconst (v := (0 : Int32)) hx hb dX11_doesAll_71 (by decide) ?_
  refine lv_istore_n (lv' := [(2, .int (0 : Int32)), (0, .ref (ad 10 30 0)), (1, .int v1)]) hx hb dX11_doesAll_72 rfl hl (by decide) rfl (fun ls hl => ?_)
  exact cx_X11_doesAll_L73 rv σ1 k10 hk10 X mm_FU v1 (0 : Int32) s_11 H locs ls hf hP hS (lv_sub hl [1, 2, 0] rfl)
def fx_X11_doesAll_J47  (k10 : mm_M → mm_R) (v1 : Int32) (w1 : Int32) (σ : mm_M) : mm_R := mm_gd (w1 = 0 ∨ w1 = 1) (mm_lt (mm_u σ 10 30 0 17 w1) fun s_9 => (if (s_9 10 30 0 17) = (0 : Int32) then fx_X11_doesAll_J67 k10 v1 (s_9 10 30 0 13) (0 : Int32) s_9 else fx_X11_doesAll_J67 k10 v1 (s_9 10 30 0 13) (1 : Int32) s_9))
set_option maxHeartbeats 4000000 in
set_option maxRecDepth 100000 in
theorem cx_X11_doesAll_J47 {p : Program} {l : Launch} {e : Env} {s : State} {m : MethodId} {args : Array Value} {below : List Frame} {meth : Method} {c : Code} {D : va_G} {ad : mm_A} {cA : Nat → ClassId}   (rv : Int32) (σ1 : mm_M) (k10 : mm_M → mm_R) (hk10 : ∀ (σ : mm_M) (H : Heap) (locs : List Loc) (ls : Array Slot), k10  σ = some (rv, σ1) → va_P D vwCl (mm_wd ad cA σ) H → va_S (mm_AS ad) s.heap H locs → lv_has ls 3 [(0, .ref (ad 10 30 0))] → W p l e (mm_rm 10 219) s m args below meth c H locs 0 0 (MQ below (mm_Q D ad cA (some (.int rv)) σ1) args s 0 0 (mm_AS ad)) (F0 m 10 ls [])) (X : mm_X p s m args meth c cX11_doesAll 3 (some .boolean) RX11 D ad cA) : ∀ (v1 : Int32) (w1 : Int32) (σ : mm_M) (H : Heap) (locs : List Loc) (ls : Array Slot), fx_X11_doesAll_J47 k10 v1 w1 σ = some (rv, σ1) → va_P D vwCl (mm_wd ad cA σ) H → va_S (mm_AS ad) s.heap H locs → lv_has ls 3 [(0, .ref (ad 10 30 0)), (1, .int v1)] → W p l e (mm_rm 10 219) s m args below meth c H locs 0 0 (MQ below (mm_Q D ad cA (some (.int rv)) σ1) args s 0 0 (mm_AS ad)) (F0 m 47 ls [.int w1, .ref (ad 10 30 0)]) := by
  have hx := X.1
  have hb := X.2.1
  have hI := X.2.2.2.2.2.2.2.2.2
  intro v1 w1 σ H locs ls hf hP hS hl
  rw [fx_X11_doesAll_J47] at hf
  obtain ⟨h_8, hf⟩ := mm_gd_ok hf
  refine pf_30_17 X hP hS  wd_786 h_8 dX11_doesAll_47 (fun H locs hP hS => ?_)
  obtain ⟨s_9, e_9, hf⟩ := mm_lt_ok hf
  rw [← e_9] at hP
  refine lv_aload_n hx hb dX11_doesAll_50 rfl (lv_at hl 0 rfl) ?_
  refine lv_dup hx hb dX11_doesAll_51 rfl ?_
  refine gf_30_13 X hP  wd_782 dX11_doesAll_52 ?_
  refine lv_aload_n hx hb dX11_doesAll_55 rfl (lv_at hl 0 rfl) ?_
  refine gf_30_17 X hP  wd_786 dX11_doesAll_56 ?_
  refine lv_if_eq (tgt := 66) hx hb dX11_doesAll_59 (by decide) (fun c_10 => ?_) (fun c_10 => ?_)
  · replace hf := mm_it c_10 hf
    refine lv_iconst (v := (0 : Int32)) hx hb dX11_doesAll_66 (by decide) ?_
    exact cx_X11_doesAll_J67 rv σ1 k10 hk10 X v1 (s_9 10 30 0 13) (0 : Int32) s_9 H locs ls hf hP hS (lv_sub hl [0, 1] rfl)
  · replace hf := mm_if c_10 hf
    refine lv_iconst (v := (1 : Int32)) hx hb dX11_doesAll_62 (by decide) ?_
    refine lv_goto (tgt := 67) hx hb dX11_doesAll_63 (by decide) ?_
    exact cx_X11_doesAll_J67 rv σ1 k10 hk10 X v1 (s_9 10 30 0 13) (1 : Int32) s_9 H locs ls hf hP hS (lv_sub hl [0, 1] rfl)
def fx_X11_doesAll_L10   : Nat → mm_M → mm_R
  | 0, _ => none
  | fu + 1, σ => if (σ 10 30 0 6) ≤ (σ 10 30 0 13) then some ((1 : Int32), σ) else mm_lt (mm_u σ 10 30 0 14 (σ 10 30 0 13)) fun s_4 => (mm_bd (fx_X11_here  s_4) fun r_5 s_5 => (mm_bd (fx_X11_wantsOf r_5 s_5) fun r_6 s_6 => (if r_6 < (0 : Int32) then fx_X11_doesAll_J47 (fun z => fx_X11_doesAll_L10 fu z) r_5 (0 : Int32) s_6 else fx_X11_doesAll_J47 (fun z => fx_X11_doesAll_L10 fu z) r_5 (1 : Int32) s_6)))
set_option maxHeartbeats 4000000 in
set_option maxRecDepth 100000 in
theorem cx_X11_doesAll_L10 {p : Program} {l : Launch} {e : Env} {s : State} {m : MethodId} {args : Array Value} {below : List Frame} {meth : Method} {c : Code} {D : va_G} {ad : mm_A} {cA : Nat → ClassId}   (rv : Int32) (σ1 : mm_M)  (X : mm_X p s m args meth c cX11_doesAll 3 (some .boolean) RX11 D ad cA) : ∀ (fu : Nat), ∀ (σ : mm_M) (H : Heap) (locs : List Loc) (ls : Array Slot), fx_X11_doesAll_L10  fu  σ = some (rv, σ1) → va_P D vwCl (mm_wd ad cA σ) H → va_S (mm_AS ad) s.heap H locs → lv_has ls 3 [(0, .ref (ad 10 30 0))] → W p l e (mm_rm 10 219) s m args below meth c H locs 0 0 (MQ below (mm_Q D ad cA (some (.int rv)) σ1) args s 0 0 (mm_AS ad)) (F0 m 10 ls []) := by
  have hx := X.1
  have hb := X.2.1
  have hI := X.2.2.2.2.2.2.2.2.2
  intro fu
  induction fu with
  | zero =>
    intro σ H locs ls hf
    exact mm_no hf
  | succ fu ih =>
    intro σ H locs ls hf hP hS hl
    rw [fx_X11_doesAll_L10] at hf
    refine lv_aload_n hx hb dX11_doesAll_10 rfl (lv_at hl 0 rfl) ?_
    refine gf_30_13 X hP  wd_782 dX11_doesAll_11 ?_
    refine lv_aload_n hx hb dX11_doesAll_14 rfl (lv_at hl 0 rfl) ?_
    refine gf_30_6 X hP  wd_775 dX11_doesAll_15 ?_
    refine lv_icmp_ge (tgt := 164) hx hb dX11_doesAll_18 (by decide) (fun c_3 => ?_) (fun c_3 => ?_)
    · replace hf := mm_it c_3 hf
      refine lv_iconst (v := (1 : Int32)) hx hb dX11_doesAll_164 (by decide) ?_
      obtain ⟨rfl, rfl⟩ := mm_ret hf
      exact mm_zret (Or.inr rfl) X hP hS dX11_doesAll_165
    · replace hf := mm_if c_3 hf
      refine lv_aload_n hx hb dX11_doesAll_21 rfl (lv_at hl 0 rfl) ?_
      refine lv_aload_n hx hb dX11_doesAll_22 rfl (lv_at hl 0 rfl) ?_
      refine gf_30_13 X hP  wd_782 dX11_doesAll_23 ?_
      refine pf_30_14 X hP hS  wd_783  dX11_doesAll_26 (fun H locs hP hS => ?_)
      obtain ⟨s_4, e_4, hf⟩ := mm_lt_ok hf
      rw [← e_4] at hP
      refine lv_aload_n hx hb dX11_doesAll_29 rfl (lv_at hl 0 rfl) ?_
      obtain ⟨r_5, s_5, e_5, hf⟩ := mm_bd_ok hf
      refine mm_callV X hP hS hl.1 [] [] (cx_X11_here l D ad cA hI  s_4 r_5 s_5 e_5) kp_30 rfl rfl wd_1121 wd_1123 wp_63 wd_12 wd_1124 hd_X11_here ⟨Nat.le_of_ble_eq_true rfl, Nat.le_of_ble_eq_true rfl⟩ rfl (Nat.le_of_ble_eq_true rfl) dX11_doesAll_30 (fun H locs hP hS => ?_)
      refine lv_istore_n (lv' := [(1, .int r_5), (0, .ref (ad 10 30 0))]) hx hb dX11_doesAll_33 rfl hl (by decide) rfl (fun ls hl => ?_)
      refine lv_aload_n hx hb dX11_doesAll_34 rfl (lv_at hl 1 rfl) ?_
      refine lv_iload_n hx hb dX11_doesAll_35 rfl (lv_at hl 0 rfl) ?_
      obtain ⟨r_6, s_6, e_6, hf⟩ := mm_bd_ok hf
      refine mm_callS X hP hS hl.1 [.int r_5] [.ref (ad 10 30 0)] (cx_X11_wantsOf l D ad cA hI r_5 s_5 r_6 s_6 e_6) wd_1125 wd_1126 wd_12 wd_1127 hd_X11_wantsOf ⟨Nat.le_of_ble_eq_true rfl, Nat.le_of_ble_eq_true rfl⟩ rfl (Nat.le_of_ble_eq_true rfl) dX11_doesAll_36 (fun H locs hP hS => ?_)
      refine lv_if_lt (tgt := 46) hx hb dX11_doesAll_39 (by decide) (fun c_7 => ?_) (fun c_7 => ?_)
      · replace hf := mm_it c_7 hf
        refine lv_iconst (v := (0 : Int32)) hx hb dX11_doesAll_46 (by decide) ?_
        exact cx_X11_doesAll_J47 rv σ1 (fun z => fx_X11_doesAll_L10 fu z) ih X r_5 (0 : Int32) s_6 H locs ls hf hP hS (lv_sub hl [1, 0] rfl)
      · replace hf := mm_if c_7 hf
        refine lv_iconst (v := (1 : Int32)) hx hb dX11_doesAll_42 (by decide) ?_
        refine lv_goto (tgt := 47) hx hb dX11_doesAll_43 (by decide) ?_
        exact cx_X11_doesAll_J47 rv σ1 (fun z => fx_X11_doesAll_L10 fu z) ih X r_5 (1 : Int32) s_6 H locs ls hf hP hS (lv_sub hl [1, 0] rfl)
def fx_X11_doesAll  (σ : mm_M) : mm_R := mm_lt (mm_u σ 10 30 0 13 (0 : Int32)) fun s_1 => (mm_lt (mm_u s_1 10 30 0 15 (0 : Int32)) fun s_2 => (fx_X11_doesAll_L10 mm_FU s_2))
set_option maxHeartbeats 4000000 in
set_option maxRecDepth 100000 in
theorem cx_X11_doesAll (l : Launch) (D : va_G) (ad : mm_A) (cA : Nat → ClassId) (hI : mm_Inj ad)   (σ : mm_M) (rv : Int32) (σ1 : mm_M) (hf : fx_X11_doesAll  σ = some (rv, σ1)) : Met l yX11_doesAll (Cond.code yX11_doesAll cX11_doesAll 3 (some .boolean) :: tb) (mm_rm 10 219) (mm_pre D ad cA [.ref (ad 10 30 0)] σ) (mm_Q D ad cA (some (.int rv)) σ1) 0 0 (mm_AS ad) := by
  refine mm_start (by decide +kernel) hI (Nat.le_of_ble_eq_true rfl) ?_
  intro p e s m args below meth c X hP ls hl
  have hl : lv_has ls 3 [(0, .ref (ad 10 30 0))] := hl
  have hx := X.1
  have hb := X.2.1
  have hS : va_S (mm_AS ad) s.heap s.heap [] := va_S.rf
  have hgen : ∀ (H : Heap) (locs : List Loc), va_P D vwCl (mm_wd ad cA σ) H → va_S (mm_AS ad) s.heap H locs → W p l e (mm_rm 10 219) s m args below meth c H locs 0 0 (MQ below (mm_Q D ad cA (some (.int rv)) σ1) args s 0 0 (mm_AS ad)) (F0 m 0 ls []) := by
    intro H locs hP hS
    rw [fx_X11_doesAll] at hf
    refine lv_aload_n hx hb dX11_doesAll_0 rfl (lv_at hl 0 rfl) ?_
    refine lv_iconst (v := (0 : Int32)) hx hb dX11_doesAll_1 (by decide) ?_
    refine pf_30_13 X hP hS  wd_782  dX11_doesAll_2 (fun H locs hP hS => ?_)
    obtain ⟨s_1, e_1, hf⟩ := mm_lt_ok hf
    rw [← e_1] at hP
    refine lv_aload_n hx hb dX11_doesAll_5 rfl (lv_at hl 0 rfl) ?_
    refine lv_iconst (v := (0 : Int32)) hx hb dX11_doesAll_6 (by decide) ?_
    refine pf_30_15 X hP hS  wd_784  dX11_doesAll_7 (fun H locs hP hS => ?_)
    obtain ⟨s_2, e_2, hf⟩ := mm_lt_ok hf
    rw [← e_2] at hP
    exact cx_X11_doesAll_L10 rv σ1 X mm_FU s_2 H locs ls hf hP hS (lv_sub hl [0] rfl)
  exact hgen _ _ hP hS
def fx_X11_fault (x1 : Int32) (σ : mm_M) : mm_R := mm_bd (fx_X11_in x1 (0 : Int32) (2 : Int32) σ) fun r_1 s_1 => (if r_1 = (0 : Int32) then some ((-1000001 : Int32), s_1) else mm_bd (fx_X11_begins  s_1) fun _ s_3 => (mm_bd (fx_X11_doesAll  s_3) fun r_4 s_4 => (mm_bd (fx_X11_returns  s_4) fun _ s_5 => (if r_4 = (0 : Int32) then if x1 = (0 : Int32) then some (s_5 10 30 0 14, s_5) else if x1 = (1 : Int32) then if (s_5 10 30 0 17) = (0 : Int32) then some ((1 : Int32), s_5) else some ((2 : Int32), s_5) else if (s_5 10 30 0 17) = (0 : Int32) then some ((s_5 10 30 0 13) - (s_5 10 30 0 14), s_5) else some (s_5 10 30 0 16, s_5) else some ((-1000004 : Int32), s_5)))))
set_option maxHeartbeats 4000000 in
set_option maxRecDepth 100000 in
theorem cx_X11_fault (l : Launch) (D : va_G) (ad : mm_A) (cA : Nat → ClassId) (hI : mm_Inj ad) (x1 : Int32)  (σ : mm_M) (rv : Int32) (σ1 : mm_M) (hf : fx_X11_fault x1 σ = some (rv, σ1)) : Met l yX11_fault (Cond.code yX11_fault cX11_fault 3 (some .int) :: tb) (mm_rm 11 241) (mm_pre D ad cA [.ref (ad 10 30 0), .int x1] σ) (mm_Q D ad cA (some (.int rv)) σ1) 0 0 (mm_AS ad) := by
  refine mm_start (by decide +kernel) hI (Nat.le_of_ble_eq_true rfl) ?_
  intro p e s m args below meth c X hP ls hl
  have hl : lv_has ls 3 [(0, .ref (ad 10 30 0)), (1, .int x1)] := hl
  have hx := X.1
  have hb := X.2.1
  have hS : va_S (mm_AS ad) s.heap s.heap [] := va_S.rf
  have hgen : ∀ (H : Heap) (locs : List Loc), va_P D vwCl (mm_wd ad cA σ) H → va_S (mm_AS ad) s.heap H locs → W p l e (mm_rm 11 241) s m args below meth c H locs 0 0 (MQ below (mm_Q D ad cA (some (.int rv)) σ1) args s 0 0 (mm_AS ad)) (F0 m 0 ls []) := by
    intro H locs hP hS
    rw [fx_X11_fault] at hf
    refine lv_iload_n hx hb dX11_fault_0 rfl (lv_at hl 1 rfl) ?_
    refine lv_iconst (v := (0 : Int32)) hx hb dX11_fault_1 (by decide) ?_
    refine lv_iconst (v := (2 : Int32)) hx hb dX11_fault_2 (by decide) ?_
    obtain ⟨r_1, s_1, e_1, hf⟩ := mm_bd_ok hf
    refine mm_callS X hP hS hl.1 [.int x1, .int (0 : Int32), .int (2 : Int32)] [] (cx_X11_in l D ad cA hI x1 (0 : Int32) (2 : Int32) σ r_1 s_1 e_1) wd_842 wd_843 wd_12 wd_844 hd_X11_in ⟨Nat.le_of_ble_eq_true rfl, Nat.le_of_ble_eq_true rfl⟩ rfl (Nat.le_of_ble_eq_true rfl) dX11_fault_3 (fun H locs hP hS => ?_)
    refine lv_if_ne (tgt := 12) hx hb dX11_fault_6 (by decide) (fun c_2 => ?_) (fun c_2 => ?_)
    · replace hf := mm_if c_2 hf
      refine lv_aload_n hx hb dX11_fault_12 rfl (lv_at hl 0 rfl) ?_
      obtain ⟨r_3, s_3, e_3, hf⟩ := mm_bd_ok hf
      refine mm_callV X hP hS hl.1 [] [] (cx_X11_begins l D ad cA hI  s_1 r_3 s_3 e_3) kp_30 rfl rfl wd_831 wd_833 wp_16 wd_12 wd_834 hd_X11_begins ⟨Nat.le_of_ble_eq_true rfl, Nat.le_of_ble_eq_true rfl⟩ rfl (Nat.le_of_ble_eq_true rfl) dX11_fault_13 (fun H locs hP hS => ?_)
      refine lv_aload_n hx hb dX11_fault_16 rfl (lv_at hl 0 rfl) ?_
      obtain ⟨r_4, s_4, e_4, hf⟩ := mm_bd_ok hf
      refine mm_callV X hP hS hl.1 [] [] (cx_X11_doesAll l D ad cA hI  s_3 r_4 s_4 e_4) kp_30 rfl rfl wd_1117 wd_1119 wp_62 wd_12 wd_1120 hd_X11_doesAll ⟨Nat.le_of_ble_eq_true rfl, Nat.le_of_ble_eq_true rfl⟩ rfl (Nat.le_of_ble_eq_true rfl) dX11_fault_17 (fun H locs hP hS => ?_)
      refine lv_istore_n (lv' := [(2, .int r_4), (0, .ref (ad 10 30 0)), (1, .int x1)]) hx hb dX11_fault_20 rfl hl (by decide) rfl (fun ls hl => ?_)
      refine lv_aload_n hx hb dX11_fault_21 rfl (lv_at hl 1 rfl) ?_
      obtain ⟨r_5, s_5, e_5, hf⟩ := mm_bd_ok hf
      refine mm_callV X hP hS hl.1 [] [] (cx_X11_returns l D ad cA hI  s_4 r_5 s_5 e_5) kp_30 rfl rfl wd_859 wd_861 wp_21 wd_12 wd_862 hd_X11_returns ⟨Nat.le_of_ble_eq_true rfl, Nat.le_of_ble_eq_true rfl⟩ rfl (Nat.le_of_ble_eq_true rfl) dX11_fault_22 (fun H locs hP hS => ?_)
      refine lv_iload_n hx hb dX11_fault_25 rfl (lv_at hl 0 rfl) ?_
      refine lv_if_eq (tgt := 32) hx hb dX11_fault_26 (by decide) (fun c_6 => ?_) (fun c_6 => ?_)
      · replace hf := mm_it c_6 hf
        refine lv_iload_n hx hb dX11_fault_32 rfl (lv_at hl 2 rfl) ?_
        refine lv_if_ne (tgt := 43) hx hb dX11_fault_33 (by decide) (fun c_7 => ?_) (fun c_7 => ?_)
        · replace hf := mm_if c_7 hf
          refine lv_iload_n hx hb dX11_fault_43 rfl (lv_at hl 2 rfl) ?_
          refine lv_iconst (v := (1 : Int32)) hx hb dX11_fault_44 (by decide) ?_
          refine lv_icmp_ne (tgt := 63) hx hb dX11_fault_45 (by decide) (fun c_8 => ?_) (fun c_8 => ?_)
          · replace hf := mm_if c_8 hf
            refine lv_aload_n hx hb dX11_fault_63 rfl (lv_at hl 1 rfl) ?_
            refine gf_30_17 X hP  wd_786 dX11_fault_64 ?_
            refine lv_if_eq (tgt := 77) hx hb dX11_fault_67 (by decide) (fun c_9 => ?_) (fun c_9 => ?_)
            · replace hf := mm_it c_9 hf
              refine lv_aload_n hx hb dX11_fault_77 rfl (lv_at hl 1 rfl) ?_
              refine gf_30_13 X hP  wd_782 dX11_fault_78 ?_
              refine lv_aload_n hx hb dX11_fault_81 rfl (lv_at hl 1 rfl) ?_
              refine gf_30_14 X hP  wd_783 dX11_fault_82 ?_
              refine lv_isub hx hb dX11_fault_85 ?_
              obtain ⟨rfl, rfl⟩ := mm_ret hf
              exact mm_iret X hP hS dX11_fault_86
            · replace hf := mm_if c_9 hf
              refine lv_aload_n hx hb dX11_fault_70 rfl (lv_at hl 1 rfl) ?_
              refine gf_30_16 X hP  wd_785 dX11_fault_71 ?_
              refine lv_goto (tgt := 86) hx hb dX11_fault_74 (by decide) ?_
              obtain ⟨rfl, rfl⟩ := mm_ret hf
              exact mm_iret X hP hS dX11_fault_86
          · replace hf := mm_it c_8 hf
            refine lv_aload_n hx hb dX11_fault_48 rfl (lv_at hl 1 rfl) ?_
            refine gf_30_17 X hP  wd_786 dX11_fault_49 ?_
            refine lv_if_eq (tgt := 59) hx hb dX11_fault_52 (by decide) (fun c_10 => ?_) (fun c_10 => ?_)
            · replace hf := mm_it c_10 hf
              refine lv_iconst (v := (1 : Int32)) hx hb dX11_fault_59 (by decide) ?_
              refine lv_goto (tgt := 86) hx hb dX11_fault_60 (by decide) ?_
              obtain ⟨rfl, rfl⟩ := mm_ret hf
              exact mm_iret X hP hS dX11_fault_86
            · replace hf := mm_if c_10 hf
              refine lv_iconst (v := (2 : Int32)) hx hb dX11_fault_55 (by decide) ?_
              refine lv_goto (tgt := 86) hx hb dX11_fault_56 (by decide) ?_
              obtain ⟨rfl, rfl⟩ := mm_ret hf
              exact mm_iret X hP hS dX11_fault_86
        · replace hf := mm_it c_7 hf
          refine lv_aload_n hx hb dX11_fault_36 rfl (lv_at hl 1 rfl) ?_
          refine gf_30_14 X hP  wd_783 dX11_fault_37 ?_
          refine lv_goto (tgt := 86) hx hb dX11_fault_40 (by decide) ?_
          obtain ⟨rfl, rfl⟩ := mm_ret hf
          exact mm_iret X hP hS dX11_fault_86
      · replace hf := mm_if c_6 hf
        refine lv_ldc (v := (-1000004 : Int32)) hx hb X.2.2.2.2.2.1 (X.2.2.2.2.2.2.1 _ wd_1037) dX11_fault_29 ?_
        obtain ⟨rfl, rfl⟩ := mm_ret hf
        exact mm_iret X hP hS dX11_fault_31
    · replace hf := mm_it c_2 hf
      refine lv_ldc (v := (-1000001 : Int32)) hx hb X.2.2.2.2.2.1 (X.2.2.2.2.2.2.1 _ wd_845) dX11_fault_9 ?_
      obtain ⟨rfl, rfl⟩ := mm_ret hf
      exact mm_iret X hP hS dX11_fault_11
  exact hgen _ _ hP hS
