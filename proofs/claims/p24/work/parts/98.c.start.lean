theorem ml_class {s : State} {A : Array Value} {ty : FieldType} (h : (Cond.arrayClass ty).before A s = true) (hr : ∀ q, s.vm.findClass ("[" ++ ty.toString) = some q → va_RA s q ty) : ∃ q : ClassId, ArrOfT s q ty ∧ va_RA s q ty := by
  obtain ⟨c, k, comp, h1, h2, h3⟩ := Cond.arrayClass_spec h
  exact ⟨c, fun n z => ⟨fun k h => (by cases h), k, h2, comp, h3⟩, hr c h1⟩
theorem ml_over {s : State} {C : String} (h : va_AO C s) : ∃ q : ClassId, ArrOfT s q (.object C) ∧ va_RA s q (.object C) := by
  obtain ⟨comp, c, k, h1, h2, h3, h4, h5⟩ := Cond.arrayOver_spec h
  exact ⟨c, fun n z => ⟨fun k h => (by cases h), k, h3, comp, h4⟩, k, comp, h3, h4, h1, h5⟩
section MLN
variable {p : Program} {l : Launch} {e : Env} {R : Room} {s : State} {m : MethodId} {args : Array Value} {below : List Frame} {meth : Method} {c : Code} {H : Heap} {locs : List Loc} {cells slots : Nat} {Q : State → Prop} {cc : ByteArray} {nL : Nat} {own : String} {D : va_G} {cA : Nat → ClassId} {pc h n : Nat} {ls : Array Slot} {rest : List Value} {ws : va_W}
theorem ml_new (S : CallFix p m c cc nL s args tb own) (hK : va_K D vwCl (mm_tys cA) s) {C : String} {T : u_T} {N ci index : Nat} (hin : ∀ w ∈ u_ws C T N, w ∈ tb) (ty : Nat → FieldType) (hty : ∀ k, k < N → parseFieldDescriptor (T k).2.2.1 = some (ty k)) (hcl : Cond.classLink own index C ∈ tb) (hinst : Cond.instantiable C N ∈ tb) (hini : Cond.initialized C ∈ tb) (hc : vwCl[ci]? = some (C, T, N)) (fs : List Value) (hfs : ∀ j, j < N → defaultValue (ty j) = vp_V fs j)
    (hP : va_P D vwCl ws H) (hS : va_S (fun q => h ≤ q) s.heap H locs) (hz : H.size = h + n) (hcells : cells + 1 ≤ R.cells) (hslots : slots + N ≤ R.slots) (hdg : decode cc pc = .ok (.new index, 3))
    (kk : ∀ (H1 : Heap), va_P D vwCl (ws ++ [(h + n, .inr (ci, fs))]) H1 → H1.size = h + (n + 1) → va_S (fun q => h ≤ q) s.heap H1 locs → W p l e R s m args below meth c H1 locs (cells + 1) (slots + N) Q (F0 m (pc + 3) ls (.ref (h + n) :: rest))) : W p l e R s m args below meth c H locs cells slots Q (F0 m pc ls rest) := by
  have hts := S.2.2.2.2
  have hKn := hK.1 ci _ hc
  refine W.newcK S.1 S.2.1 S.2.2.2.1 (hts _ hcl) (hts _ hinst) (hts _ hini) rfl hdg hcells hslots hKn.2.1 hz fun H1 kC hkC e1 z1 o1 => ?_
  have hk : ∀ (k : Nat) (x : Nat × va_E), ws[k]? = some x → H1[x.1]? = H[x.1]? := fun k x hx => o1 x.1 (by have := (hP k x hx).lt; omega)
  refine kk H1 ((hP.kept hk).app (fun k x hx => ?_)) z1 ⟨Nat.le_trans hS.1 (by omega), fun x h1 h2 => (o1 x (by have := hS.1; omega)).trans (hS.2.1 x h1 h2), hS.2.2⟩
  have hz : k < 1 := (List.getElem?_eq_some_iff.mp hx).1
  rw [show k = 0 by omega] at hx
  cases hx
  exact ⟨_, hc, (u_born ty hts hin hKn hkC e1 hty).to hfs⟩
end MLN
theorem ml_nest : (mm_nest.all fun q => decide (Cond.methodLinkNest q.1 q.2.1 q.2.2.1 q.2.2.2 ∈ tables_1)) = true := by decide +kernel
set_option maxHeartbeats 4000000 in
set_option maxRecDepth 100000 in
theorem start_of {b L : Nat} {xs : Nat → Int32} {rv : Int32} {σ1 : mm_M} (hf : fx_L_law (ml_lo xs L) m_s0 = some (rv, σ1)) {p : Program} {e : Env} {s : State} {m : MethodId} {below : List Frame} {meth : Method} {c : Code} (l : Launch) (hL : L ≤ 260) (C0 : lw_At p s m meth c b L xs) : W p l e room_1 s m #[Value.ref b] below meth c s.heap [] 0 0 (lw_Z below #[Value.ref b] s) (entryFrame m ([Value.ref b] : List Value).toArray 11) := by
  obtain ⟨hx, hb, hr, hml, hown, hts, hX, hbl, hlocks, hgv⟩ := id C0
  have hb : c.code = cL_law := hb
  have hown : s.vm.findClass RL = some m.cls := hown
  have htb : ∀ w ∈ tb, w.before #[Value.ref b] s = true := fun w h => hts w (tb_lw w h)
  have S : CallFix p m c cL_law 11 s #[Value.ref b] tb RL := ⟨hx, hb, hml, hown, htb⟩
  obtain ⟨c0, i0, hKn0⟩ := u_known (C := RX0) (T := TX0) (N := 3) (n := 3) htb inTX0 (htb _ wd_187)
  obtain ⟨c1, i1, hKn1⟩ := u_known (C := RX1) (T := TX1) (N := 4) (n := 4) htb inTX1 (htb _ wd_31)
  obtain ⟨c2, i2, hKn2⟩ := u_known (C := RX2) (T := TX2) (N := 2) (n := 2) htb inTX2 (htb _ wd_173)
  obtain ⟨c3, i3, hKn3⟩ := u_known (C := RX3) (T := TX3) (N := 9) (n := 9) htb inTX3 (htb _ wd_57)
  obtain ⟨c4, i4, hKn4⟩ := u_known (C := RX4) (T := TX4) (N := 2) (n := 2) htb inTX4 (htb _ wd_150)
  obtain ⟨c5, i5, hKn5⟩ := u_known (C := RX5) (T := TX5) (N := 6) (n := 6) htb inTX5 (htb _ wd_255)
  obtain ⟨c6, i6, hKn6⟩ := u_known (C := RX6) (T := TX6) (N := 5) (n := 5) htb inTX6 (htb _ wd_227)
  obtain ⟨c7, i7, hKn7⟩ := u_known (C := RX7) (T := TX7) (N := 2) (n := 2) htb inTX7 (htb _ wd_167)
  obtain ⟨c8, i8, hKn8⟩ := u_known (C := RX8) (T := TX8) (N := 8) (n := 8) htb inTX8 (htb _ wd_25)
  obtain ⟨c9, i9, hKn9⟩ := u_known (C := RX9) (T := TX9) (N := 3) (n := 3) htb inTX9 (htb _ wd_211)
  obtain ⟨c10, i10, hKn10⟩ := u_known (C := RX10) (T := TX10) (N := 7) (n := 7) htb inTX10 (htb _ wd_17)
  obtain ⟨dC, dI, hKc⟩ : ∃ (dC : Nat → ClassId) (dI : Nat → Nat → Nat), ∀ (k : Nat) (q : vw_C), vwCl[k]? = some q → u_Kn s q.1 q.2.1 q.2.2 (dC k) (dI k) := by
    refine ⟨fun k => if k = 0 then c0 else if k = 1 then c1 else if k = 2 then c2 else if k = 3 then c3 else if k = 4 then c4 else if k = 5 then c5 else if k = 6 then c6 else if k = 7 then c7 else if k = 8 then c8 else if k = 9 then c9 else c10, fun k => if k = 0 then i0 else if k = 1 then i1 else if k = 2 then i2 else if k = 3 then i3 else if k = 4 then i4 else if k = 5 then i5 else if k = 6 then i6 else if k = 7 then i7 else if k = 8 then i8 else if k = 9 then i9 else i10, ?_⟩
    intro k q hq
    match k, hq with
    | 0, hq => cases hq; exact hKn0
    | 1, hq => cases hq; exact hKn1
    | 2, hq => cases hq; exact hKn2
    | 3, hq => cases hq; exact hKn3
    | 4, hq => cases hq; exact hKn4
    | 5, hq => cases hq; exact hKn5
    | 6, hq => cases hq; exact hKn6
    | 7, hq => cases hq; exact hKn7
    | 8, hq => cases hq; exact hKn8
    | 9, hq => cases hq; exact hKn9
    | 10, hq => cases hq; exact hKn10
    | k + 11, hq => simp [vwCl] at hq
  have hO : mc_AO s := ⟨va_AO.of (A := #[Value.ref b]) (hts (Cond.arrayOver (.object RX3)) (List.mem_append_right _ (List.mem_of_getElem? (i := 56) (by decide +kernel)))), va_AO.of (A := #[Value.ref b]) (hts (Cond.arrayOver (.object RX8)) (List.mem_append_right _ (List.mem_of_getElem? (i := 156) (by decide +kernel))))⟩
  have hN : mm_N s := fun q hq => va_Nw.of rfl (hts _ (List.mem_append_right _ (of_decide_eq_true (List.all_eq_true.mp ml_nest q hq))))
  obtain ⟨q0, t0, t0r⟩ := ml_class (ty := .int) (htb _ wd_54) (fun q h => h)
  obtain ⟨q1, t1, t1r⟩ := ml_class (ty := .boolean) (htb _ wd_202) (fun q h => h)
  obtain ⟨q2, t2, t2r⟩ := ml_class (ty := .char) (htb _ wd_253) (fun q h => h)
  obtain ⟨q3, t3, t3r⟩ := ml_over hO.1
  obtain ⟨q4, t4, t4r⟩ := ml_over hO.2
  obtain ⟨cA, hcA⟩ : ∃ cA : Nat → ClassId, cA = fun k => if k = 0 then q0 else if k = 1 then q1 else if k = 2 then q2 else if k = 3 then q3 else q4 := ⟨_, rfl⟩
  have hK : va_K (dC, dI) vwCl (mm_tys cA) s := by
    refine ⟨hKc, fun k q hq => ?_⟩
    subst hcA
    match k, hq with
    | 0, hq => cases hq; exact ⟨t0, t0r⟩
    | 1, hq => cases hq; exact ⟨t1, t1r⟩
    | 2, hq => cases hq; exact ⟨t2, t2r⟩
    | 3, hq => cases hq; exact ⟨t3, t3r⟩
    | 4, hq => cases hq; exact ⟨t4, t4r⟩
    | k + 5, hq => simp at hq
  have X : mm_X p s m #[Value.ref b] meth c cL_law 11 ret RL (dC, dI) (m_ad s.heap.size) cA := ⟨hx, hb, hml, hr, hlocks, hown, htb, hK, hN, m_inj _⟩
  have hS : va_S (fun q : Nat => s.heap.size ≤ q) s.heap s.heap [] := va_S.rf
  have hP : va_P (dC, dI) vwCl [] s.heap := fun k q h => by simp at h
  have hl := lv_entry ([.ref b]) (n := 11) (Nat.le_of_ble_eq_true rfl)
  rw [lg_entry_eq]
  generalize (lg_sl ([.ref b]) ++ List.replicate (11 - (lg_sl ([.ref b])).length) Slot.unset).toArray = ls at hl ⊢
  have hl : lv_has ls 11 [(0, .ref b)] := hl
  generalize hh : s.heap.size = h at X hS ⊢
  have hz : s.heap.size = h + 0 := hh
  refine ml_new (h := h) (ci := 10) (n := 0) S hK inTX10 tyX10 tyX10_ok wd_16 wd_17 wd_1 rfl [.null, .null, .null, .null, .null, .null, .null] (fun j hj => by rcases (show j = 0 ∨ j = 1 ∨ j = 2 ∨ j = 3 ∨ j = 4 ∨ j = 5 ∨ j = 6 by omega) with rfl | rfl | rfl | rfl | rfl | rfl | rfl <;> rfl) hP hS hz (Nat.le_of_ble_eq_true rfl) (Nat.le_of_ble_eq_true rfl) dL_law_0 (fun H hP hz hS => ?_)
  refine lv_dup hx hb dL_law_3 rfl ?_
  refine ml_callI (h := h) (wr := []) (w1 := mw_X10 cA (h + 0)) (k := 0) (n1 := 126) (mc := 125) (ms := 1583) (cs := 126) (ss := 1590) S hK hN hO hP (fun i q hq => by simp at hq) rfl (wc_X10 cA (h + 0)) rfl hS hz hl.1 [.ref (h + 0)] (cc_X10 l (dC, dI) cA (h + 0)) wd_18 wd_19 wd_1 wd_20 rfl hdi_X10 ⟨Nat.le_of_ble_eq_true rfl, Nat.le_of_ble_eq_true rfl⟩ (Nat.le_of_ble_eq_true rfl) dL_law_4 ⟨Nat.le_of_ble_eq_true rfl, Nat.le_of_ble_eq_true rfl⟩ rfl rfl (fun H locs hP hz hC hS => ?_)
  refine lv_astore_n (lv' := [(1, .ref (h + 0)), (0, .ref b)]) hx hb dL_law_7 rfl hl (by decide) rfl (fun ls hl => ?_)
  have hP := m_world (h := h) hP
  subst hh
  exact cx_L_law _ rfl rv σ1 hL C0 (fun q h => m_AS h) X m_s0 H locs ls hf hP hS (lv_sub hl [0, 1] rfl)
