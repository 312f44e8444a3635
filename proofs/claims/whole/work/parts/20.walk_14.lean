def fx_X11_play_J21   (w1 : Int32) (σ : mm_M) : mm_R := mm_bd (fx_X11_acted w1 σ) fun r_4 s_4 => (some (r_4, s_4))
set_option maxHeartbeats 4000000 in
set_option maxRecDepth 100000 in
theorem cx_X11_play_J21 {p : Program} {l : Launch} {e : Env} {s : State} {m : MethodId} {args : Array Value} {below : List Frame} {meth : Method} {c : Code} {D : va_G} {ad : mm_A} {cA : Nat → ClassId}   (rv : Int32) (σ1 : mm_M)  (X : mm_X p s m args meth c cX11_play 1 (some .int) RX11 D ad cA) : ∀ (w1 : Int32) (σ : mm_M) (H : Heap) (locs : List Loc) (ls : Array Slot), fx_X11_play_J21  w1 σ = some (rv, σ1) → va_P D vwCl (mm_wd ad cA σ) H → va_S (mm_AS ad) s.heap H locs → lv_has ls 1 [] → W p l e (mm_rm 11 241) s m args below meth c H locs 0 0 (MQ below (mm_Q D ad cA (some (.int rv)) σ1) args s 0 0 (mm_AS ad)) (F0 m 21 ls [.int w1, .ref (ad 10 30 0)]) := by
  have hx := X.1
  have hb := X.2.1
  have hI := X.2.2.2.2.2.2.2.2.2
  intro w1 σ H locs ls hf hP hS hl
  rw [fx_X11_play_J21] at hf
  obtain ⟨r_4, s_4, e_4, hf⟩ := mm_bd_ok hf
  refine mm_callV X hP hS hl.1 [.int w1] [] (cx_X11_acted l D ad cA hI w1 σ r_4 s_4 e_4) kp_30 rfl rfl wd_855 wd_857 wp_20 wd_12 wd_858 hd_X11_acted ⟨Nat.le_of_ble_eq_true rfl, Nat.le_of_ble_eq_true rfl⟩ rfl (Nat.le_of_ble_eq_true rfl) dX11_play_21 (fun H locs hP hS => ?_)
  obtain ⟨rfl, rfl⟩ := mm_ret hf
  exact mm_iret X hP hS dX11_play_24
def fx_X11_play  (σ : mm_M) : mm_R := mm_bd (fx_X11_begins  σ) fun _ s_1 => (mm_bd (fx_X11_doesAll  s_1) fun r_2 s_2 => (if r_2 = (0 : Int32) then fx_X11_play_J21 (-1000002 : Int32) s_2 else fx_X11_play_J21 (s_2 10 30 0 15) s_2))
set_option maxHeartbeats 4000000 in
set_option maxRecDepth 100000 in
theorem cx_X11_play (l : Launch) (D : va_G) (ad : mm_A) (cA : Nat → ClassId) (hI : mm_Inj ad)   (σ : mm_M) (rv : Int32) (σ1 : mm_M) (hf : fx_X11_play  σ = some (rv, σ1)) : Met l yX11_play (Cond.code yX11_play cX11_play 1 (some .int) :: tb) (mm_rm 11 241) (mm_pre D ad cA [.ref (ad 10 30 0)] σ) (mm_Q D ad cA (some (.int rv)) σ1) 0 0 (mm_AS ad) := by
  refine mm_start (by decide +kernel) hI (Nat.le_of_ble_eq_true rfl) ?_
  intro p e s m args below meth c X hP ls hl
  have hl : lv_has ls 1 [(0, .ref (ad 10 30 0))] := hl
  have hx := X.1
  have hb := X.2.1
  have hS : va_S (mm_AS ad) s.heap s.heap [] := va_S.rf
  have hgen : ∀ (H : Heap) (locs : List Loc), va_P D vwCl (mm_wd ad cA σ) H → va_S (mm_AS ad) s.heap H locs → W p l e (mm_rm 11 241) s m args below meth c H locs 0 0 (MQ below (mm_Q D ad cA (some (.int rv)) σ1) args s 0 0 (mm_AS ad)) (F0 m 0 ls []) := by
    intro H locs hP hS
    rw [fx_X11_play] at hf
    refine lv_aload_n hx hb dX11_play_0 rfl (lv_at hl 0 rfl) ?_
    obtain ⟨r_1, s_1, e_1, hf⟩ := mm_bd_ok hf
    refine mm_callV X hP hS hl.1 [] [] (cx_X11_begins l D ad cA hI  σ r_1 s_1 e_1) kp_30 rfl rfl wd_831 wd_833 wp_16 wd_12 wd_834 hd_X11_begins ⟨Nat.le_of_ble_eq_true rfl, Nat.le_of_ble_eq_true rfl⟩ rfl (Nat.le_of_ble_eq_true rfl) dX11_play_1 (fun H locs hP hS => ?_)
    refine lv_aload_n hx hb dX11_play_4 rfl (lv_at hl 0 rfl) ?_
    refine lv_aload_n hx hb dX11_play_5 rfl (lv_at hl 0 rfl) ?_
    obtain ⟨r_2, s_2, e_2, hf⟩ := mm_bd_ok hf
    refine mm_callV X hP hS hl.1 [] [.ref (ad 10 30 0)] (cx_X11_doesAll l D ad cA hI  s_1 r_2 s_2 e_2) kp_30 rfl rfl wd_1117 wd_1119 wp_62 wd_12 wd_1120 hd_X11_doesAll ⟨Nat.le_of_ble_eq_true rfl, Nat.le_of_ble_eq_true rfl⟩ rfl (Nat.le_of_ble_eq_true rfl) dX11_play_6 (fun H locs hP hS => ?_)
    refine lv_if_eq (tgt := 19) hx hb dX11_play_9 (by decide) (fun c_3 => ?_) (fun c_3 => ?_)
    · replace hf := mm_it c_3 hf
      refine lv_ldc (v := (-1000002 : Int32)) hx hb X.2.2.2.2.2.1 (X.2.2.2.2.2.2.1 _ wd_854) dX11_play_19 ?_
      exact cx_X11_play_J21 rv σ1 X (-1000002 : Int32) s_2 H locs ls hf hP hS (lv_sub hl [] rfl)
    · replace hf := mm_if c_3 hf
      refine lv_aload_n hx hb dX11_play_12 rfl (lv_at hl 0 rfl) ?_
      refine gf_30_15 X hP  wd_784 dX11_play_13 ?_
      refine lv_goto (tgt := 21) hx hb dX11_play_16 (by decide) ?_
      exact cx_X11_play_J21 rv σ1 X (s_2 10 30 0 15) s_2 H locs ls hf hP hS (lv_sub hl [] rfl)
  exact hgen _ _ hP hS
