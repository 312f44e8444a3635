/-! constructors: the cells of an object lie one behind the other, from its own address on -/
def mc_C (h : Nat) (ws : va_W) : Prop := ∀ (i : Nat) (q : Nat × va_E), ws[i]? = some q → q.1 = h + i
theorem mc_C.one {h : Nat} {e : va_E} : mc_C h [(h, e)] := fun i q hq => by
  have hi : i < 1 := (List.getElem?_eq_some_iff.mp hq).1
  have h0 : i = 0 := by omega
  subst h0
  cases hq
  rfl
theorem mc_C.app {h n : Nat} {w1 w2 : va_W} (h1 : mc_C h w1) (hn : w1.length = n) (h2 : mc_C (h + n) w2) : mc_C h (w1 ++ w2) := fun i q hq => by
  by_cases hl : i < w1.length
  · rw [List.getElem?_append_left hl] at hq
    exact h1 i q hq
  · rw [List.getElem?_append_right (by omega)] at hq
    have := h2 _ q hq
    omega
theorem mc_C.set {h p a : Nat} {e0 e : va_E} {ws : va_W} (hc : mc_C h ws) (hp : ws[p]? = some (a, e0)) : mc_C h (ws.set p (a, e)) := fun i q hq => by
  by_cases hi : i = p
  · subst hi
    rw [List.getElem?_set_self (List.getElem?_eq_some_iff.mp hp).1] at hq
    cases hq
    exact hc i (a, e0) hp
  · rw [List.getElem?_set_ne (Ne.symm hi)] at hq
    exact hc i q hq
theorem mc_C.D {h : Nat} {ws : va_W} (hc : mc_C h ws) : va_D (fun q => h ≤ q) ws := ⟨fun i j p q hi hj e => by
  have a := hc i p hi
  have b := hc j q hj
  omega, fun k q hk => by
  have a := hc k q hk
  show h ≤ q.1
  omega⟩
def mc_AO (U : State) : Prop := va_AO RX3 U ∧ va_AO RX8 U
theorem mc_AO.moved {u U : State} (hvm : u.vm.Alike U.vm) (h : mc_AO u) : mc_AO U := ⟨va_AO.moved hvm h.1, va_AO.moved hvm h.2⟩
def mc_pre (D : va_G) (cA : Nat → ClassId) (h : Nat) (vs : List Value) (ws : va_W) : Array Value → State → Prop := va_Pc vs (fun U => U.heap.size = h + ws.length ∧ va_P D vwCl ws U.heap ∧ va_K D vwCl (mm_tys cA) U ∧ mm_N U ∧ mc_AO U)
def mc_Q (D : va_G) (h : Nat) (ws : va_W) : Array Value → State → Outcome → State → Prop := fun _ st oc t => (oc = .returned none ∧ t.heap.size = h + ws.length ∧ va_P D vwCl ws t.heap) ∧ va_F (fun q => h ≤ q) st t
theorem mc_blind {D : va_G} {cA : Nat → ClassId} {h : Nat} {vs : List Value} {ws : va_W} : FrameBlind (mc_pre D cA h vs ws) := fun a U g mk q => by
  obtain ⟨q0, qz, qP, qK, qN, qO⟩ := q
  exact ⟨q0, qz, qP, va_K.moved (u := U) (U := U.calling g mk a) (Vm.Alike.refl U.vm) qK, qN.same rfl, mc_AO.moved (u := U) (U := U.calling g mk a) (Vm.Alike.refl U.vm) qO⟩
def mc_X (p : Program) (s : State) (m : MethodId) (args : Array Value) (meth : Method) (c : Code) (cc : ByteArray) (nL : Nat) (own : String) (D : va_G) (cA : Nat → ClassId) : Prop :=
  p.tables.exec = Jvm.exec ∧ c.code = cc ∧ c.maxLocals = nL ∧ meth.sig.returnType = none ∧ meth.locks = false ∧ s.vm.findClass own = some m.cls ∧ (∀ w ∈ tb, w.before args s = true) ∧ va_K D vwCl (mm_tys cA) s ∧ mm_N s ∧ mc_AO s ∧ meth.name = "<init>"
theorem mc_start {l : Launch} {D : va_G} {cA : Nat → ClassId} {y : MethodName} {cc : ByteArray} {maxL h mc ms : Nat} {rm : Room} {vs : List Value} {ws w1 : va_W} (hy : plainName y.cls = true) (hyi : y.name = "<init>") (hsz : (lg_sl vs).length ≤ maxL)
    (body : ∀ p e s m args below meth c, mc_X p s m args meth c cc maxL y.cls D cA → va_P D vwCl ws s.heap → s.heap.size = h + ws.length → ∀ ls, lv_has ls maxL (lv_args 0 vs) → W p l e rm s m args below meth c s.heap [] 0 0 (MQ below (mc_Q D h w1) args s mc ms (fun q => h ≤ q)) (F0 m 0 ls [])) :
    Met l y (Cond.code y cc maxL none :: tb) rm (mc_pre D cA h vs ws) (mc_Q D h w1) mc ms (fun q => h ≤ q) := by
  refine Met.ofW (cc := cc) (maxL := maxL) (ret := none) hy rfl ?_
  intro p e s m args below meth c s₁ B hml hv
  obtain ⟨rfl, hz, hP, hK, hN, hO⟩ := hv
  have hl := lv_entry vs (n := maxL) hsz
  rw [lg_entry_eq]
  generalize (lg_sl vs ++ List.replicate (maxL - (lg_sl vs).length) Slot.unset).toArray = ls at hl ⊢
  exact body p e s m _ below meth c ⟨B.exec, B.bytes, hml, B.returns, B.notSynchronized, findClass_of_methodNamed B.named, fun w hw => atoms_spec (ws := Cond.code y cc maxL none :: tb) B.pre w (List.mem_cons_of_mem _ hw), hK, hN, hO, ((name_of_methodNamed B.named B.method).1).trans hyi⟩ hP hz ls hl
section MC
variable {p : Program} {l : Launch} {e : Env} {R : Room} {s : State} {m : MethodId} {args : Array Value} {below : List Frame} {meth : Method} {c : Code} {H : Heap} {locs : List Loc} {cells slots : Nat} {Q : State → Prop} {cc : ByteArray} {nL : Nat} {own : String} {D : va_G} {cA : Nat → ClassId} {pc h n : Nat} {ls : Array Slot} {rest : List Value} {ws : va_W}
theorem mc_obj (X : mc_X p s m args meth c cc nL own D cA) {index : Nat} {a : Addr} (hl : Cond.methodLink own index objectInit ∈ tb) (hz : ls.size = nL) (hfr : 1 ≤ R.frames) (hlo : (rest.map fun v => v.category).sum + 12 ≤ R.locals) (hdg : decode cc pc = .ok (.invokespecial index, 3))
    (kk : W p l e R s m args below meth c H locs cells slots Q (F0 m (pc + 3) ls rest)) : W p l e R s m args below meth c H locs cells slots Q (F0 m pc ls (.ref a :: rest)) :=
  W.objInit X.1 X.2.1 X.2.2.2.2.2.1 (X.2.2.2.2.2.2.1 _ hl) (X.2.2.2.2.2.2.1 _ wd_22) (X.2.2.2.2.2.2.1 _ wd_23) rfl (by rw [X.2.2.1]; exact hz) rfl hdg hfr (by show 2 * 0 + _ + _ ≤ _; omega) kk
theorem mc_new (X : mc_X p s m args meth c cc nL own D cA) {C : String} {T : u_T} {N ci index : Nat} (hin : ∀ w ∈ u_ws C T N, w ∈ tb) (ty : Nat → FieldType) (hty : ∀ k, k < N → parseFieldDescriptor (T k).2.2.1 = some (ty k)) (hcl : Cond.classLink own index C ∈ tb) (hinst : Cond.instantiable C N ∈ tb) (hini : Cond.initialized C ∈ tb) (hc : vwCl[ci]? = some (C, T, N)) (fs : List Value) (hfs : ∀ j, j < N → defaultValue (ty j) = vp_V fs j)
    (hP : va_P D vwCl ws H) (hS : va_S (fun q => h ≤ q) s.heap H locs) (hz : H.size = h + n) (hcells : cells + 1 ≤ R.cells) (hslots : slots + N ≤ R.slots) (hdg : decode cc pc = .ok (.new index, 3))
    (kk : ∀ (H1 : Heap), va_P D vwCl (ws ++ [(h + n, .inr (ci, fs))]) H1 → H1.size = h + (n + 1) → va_S (fun q => h ≤ q) s.heap H1 locs → W p l e R s m args below meth c H1 locs (cells + 1) (slots + N) Q (F0 m (pc + 3) ls (.ref (h + n) :: rest))) : W p l e R s m args below meth c H locs cells slots Q (F0 m pc ls rest) := by
  have hts := X.2.2.2.2.2.2.1
  have hKn := X.2.2.2.2.2.2.2.1.1 ci _ hc
  refine W.newcK X.1 X.2.1 X.2.2.2.2.2.1 (hts _ hcl) (hts _ hinst) (hts _ hini) rfl hdg hcells hslots hKn.2.1 hz fun H1 kC hkC e1 z1 o1 => ?_
  have hk : ∀ (k : Nat) (x : Nat × va_E), ws[k]? = some x → H1[x.1]? = H[x.1]? := fun k x hx => o1 x.1 (by have := (hP k x hx).lt; omega)
  refine kk H1 ((hP.kept hk).app (fun k x hx => ?_)) z1 ⟨Nat.le_trans hS.1 (by omega), fun x h1 h2 => (o1 x (by have := hS.1; omega)).trans (hS.2.1 x h1 h2), hS.2.2⟩
  have hz : k < 1 := (List.getElem?_eq_some_iff.mp hx).1
  rw [show k = 0 by omega] at hx
  cases hx
  exact ⟨_, hc, (u_born ty hts hin hKn hkC e1 hty).to hfs⟩
theorem mc_newa (X : mc_X p s m args meth c cc nL own D cA) {atype : ArrayType} (t0 : Nat) (ht : (mm_tys cA)[t0]? = some (cA t0, newarray.typeOf atype)) (harr : Cond.arrayClass (newarray.typeOf atype) ∈ tb) (hdv : defaultValue (newarray.typeOf atype) = .int 0) (hra : ∀ (U : State) (q : ClassId), va_RA U q (newarray.typeOf atype) → U.vm.findClass ("[" ++ (newarray.typeOf atype).toString) = some q)
    (hP : va_P D vwCl ws H) (hS : va_S (fun q => h ≤ q) s.heap H locs) (hz : H.size = h + n) {k : Int32} (N : Nat) (hk : ¬ k < 0) (hN : k.toNatClampNeg = N) (hbytes : N * componentBytes (newarray.typeOf atype) ≤ 536870912) (hcells : cells + 1 ≤ R.cells) (hslots : slots + N ≤ R.slots) (hdg : decode cc pc = .ok (.newarray atype, 2))
    (kk : ∀ (H1 : Heap), va_P D vwCl (ws ++ [(h + n, .inl (cA t0, N, .inl (fun _ => 0)))]) H1 → H1.size = h + (n + 1) → va_S (fun q => h ≤ q) s.heap H1 locs → W p l e R s m args below meth c H1 locs (cells + 1) (slots + N) Q (F0 m (pc + 2) ls (.ref (h + n) :: rest))) : W p l e R s m args below meth c H locs cells slots Q (F0 m pc ls (.int k :: rest)) := by
  refine va_newaK X.1 X.2.1 (X.2.2.2.2.2.2.1 _ harr) rfl hdg rfl hk hN hbytes hcells hslots hz fun H1 c1 e1 z1 o1 hAr hNm => ?_
  have hc1 : c1 = cA t0 := Option.some.inj (hNm.symm.trans (hra s _ (X.2.2.2.2.2.2.2.1.2 t0 _ ht).2))
  subst hc1
  have hkk : ∀ (k : Nat) (x : Nat × va_E), ws[k]? = some x → H1[x.1]? = H[x.1]? := fun k x hx => o1 x.1 (by have := (hP k x hx).lt; omega)
  refine kk H1 ((hP.kept hkk).app (fun k x hx => ?_)) z1 ⟨Nat.le_trans hS.1 (by omega), fun x h1 h2 => (o1 x (by have := hS.1; omega)).trans (hS.2.1 x h1 h2), hS.2.2⟩
  have hz : k < 1 := (List.getElem?_eq_some_iff.mp hx).1
  rw [show k = 0 by omega] at hx
  cases hx
  show H1[h + n]? = some (vp_cell _ _)
  rw [e1, hdv]
  rfl
theorem mc_anew (X : mc_X p s m args meth c cc nL own D cA) {C : String} {index : Nat} (t0 : Nat) (ht : (mm_tys cA)[t0]? = some (cA t0, .object C)) (hcl : Cond.classLink own index C ∈ tb) (hover : va_AO C s)
    (hP : va_P D vwCl ws H) (hS : va_S (fun q => h ≤ q) s.heap H locs) (hz : H.size = h + n) (hcells : cells + 1 ≤ R.cells) (hslots : slots + 4 ≤ R.slots) (hdg : decode cc pc = .ok (.anewarray index, 3))
    (kk : ∀ (H1 : Heap), va_P D vwCl (ws ++ [(h + n, .inl (cA t0, 4, .inr (.inr (.inr (.inr (fun _ => none))))))]) H1 → H1.size = h + (n + 1) → va_S (fun q => h ≤ q) s.heap H1 locs → W p l e R s m args below meth c H1 locs (cells + 1) (slots + 4) Q (F0 m (pc + 3) ls (.ref (h + n) :: rest))) : W p l e R s m args below meth c H locs cells slots Q (F0 m pc ls (.int (4 : Int32) :: rest)) := by
  refine W.anew X.1 X.2.1 X.2.2.2.2.2.1 (X.2.2.2.2.2.2.1 _ hcl) hover.use rfl hdg rfl (by decide) (by decide) hcells hslots fun c1 kA comp h1 h2 h3 h4 => ?_
  obtain ⟨kA', comp', k1, k2, k3, k4⟩ := (X.2.2.2.2.2.2.2.1.2 t0 _ ht).2
  have hc1 : c1 = cA t0 := Option.some.inj (h1.symm.trans k4)
  subst hc1
  have e0 : ({ cls := cA t0, slots := Array.replicate (4 : Int32).toNatClampNeg .null, vm := .none } : Cell) = arrV (cA t0) 4 (fun _ => .null) := arrV_new (cA t0) 4 .null
  rw [e0, hz]
  have o1 : ∀ x, x < H.size → (H.push (arrV (cA t0) 4 (fun _ => .null)))[x]? = H[x]? := fun x hx => by rw [Array.getElem?_push, if_neg (Nat.ne_of_lt hx)]
  have hkk : ∀ (k : Nat) (x : Nat × va_E), ws[k]? = some x → (H.push (arrV (cA t0) 4 (fun _ => .null)))[x.1]? = H[x.1]? := fun k x hx => o1 x.1 ((hP k x hx).lt)
  refine kk _ ((hP.kept hkk).app (fun k x hx => ?_)) (by rw [Array.size_push]; omega) ⟨Nat.le_trans hS.1 (by rw [Array.size_push]; omega), fun x h1 h2 => (o1 x (by have := hS.1; omega)).trans (hS.2.1 x h1 h2), hS.2.2⟩
  have hz2 : k < 1 := (List.getElem?_eq_some_iff.mp hx).1
  rw [show k = 0 by omega] at hx
  cases hx
  show (H.push _)[h + n]? = some (vp_cell _ _)
  rw [← hz]
  simp
  rfl
theorem mc_putF (X : mc_X p s m args meth c cc nL own D cA) (hP : va_P D vwCl ws H) (hC : mc_C h ws) (hS : va_S (fun q => h ≤ q) s.heap H locs) (hz : H.size = h + n) {C : String} {T : u_T} {N ci index a : Nat} {ref : String} {fs : List Value} (hin : ∀ w ∈ u_ws C T N, w ∈ tb) (ty0 : Nat → FieldType) (hty : ∀ k, k < N → parseFieldDescriptor (T k).2.2.1 = some (ty0 k)) (hnm : ∀ a, a < N → ∀ b, b < N → a ≠ b → (T a).2.1 ≠ (T b).2.1) (q0 : Nat) (he : ws[q0]? = some (a, .inr (ci, fs))) (hc : vwCl[ci]? = some (C, T, N)) (k : Nat) (hkN : k < N) (href : (T k).1 = ref) (hown2 : (T k).1 = own) (hl : Cond.fieldLink own index ref (T k).2.1 (T k).2.2.1 ∈ tb) (hfin : (T k).2.2.2 = true) (ty : FieldType) {v : Nat} (hd : parseFieldDescriptor (T k).2.2.1 = some ty) (hn : narrow ty (.ref v) = .ref v) (hfit : fits ty (.ref v) = true) (hlen : k < fs.length) (hdg : decode cc pc = .ok (.putfield index, 3))
    (kk : ∀ (H1 : Heap) (locs1 : List Loc), va_P D vwCl (ws.set q0 (a, .inr (ci, fs.set k (.ref v)))) H1 → H1.size = h + n → mc_C h (ws.set q0 (a, .inr (ci, fs.set k (.ref v)))) → va_S (fun q => h ≤ q) s.heap H1 locs1 → W p l e R s m args below meth c H1 locs1 cells slots Q (F0 m (pc + 3) ls rest)) : W p l e R s m args below meth c H locs cells slots Q (F0 m pc ls (.ref v :: .ref a :: rest)) := by
  have hts := X.2.2.2.2.2.2.1
  have hown := X.2.2.2.2.2.1
  have hK := X.2.2.2.2.2.2.2.1
  have hD := hC.D
  have hap := va_apart (own := own) hts hin ty0 hty hnm hK hc
  obtain ⟨r, h1, cell, q1, q2, q3, q4⟩ := hP q0 _ he
  have hr : r = (C, T, N) := Option.some.inj (h1.symm.trans hc)
  subst hr
  obtain ⟨hSl, hfc, kC, hkC, hkind⟩ := hK.1 ci _ hc
  obtain ⟨cf, kf, fi, f, hi, hsl⟩ := hSl k hkN
  have hlay := hts _ (hin _ (u_in_lay hkN))
  unfold u_lay at hlay
  rw [if_pos hfin] at hlay
  have hst := (u_facts hfc hkC (u_lays hts hin hkN) hi).1
  have hcf : m.cls = cf := by
    obtain ⟨_, _, c', _, _, _, -, -, hf', -, -, -, hown3, -⟩ := Cond.laysFinal_spec hlay
    have e1 : c' = cf := by have := hi.symm.trans hf'; simp at this; exact this.1.symm
    rw [hown2] at hown3
    rw [← e1]; exact Option.some.inj (hown.symm.trans hown3)
  have h6 := u_fits hfc hkC hkind (Or.inr hlay) hi hd hn hfit
  subst href
  refine W.putFinK X.1 X.2.1 hown (hts _ hl) hi hst hcf X.2.2.2.2.2.2.2.2.2.2 (by rw [q2]; exact h6) q1 q3 (by rw [hsl]; exact k2_hasslot (q4 k hkN)) rfl rfl hdg fun H' e1 e2 e3 => ?_
  rw [hsl] at e1 ⊢
  exact kk H' _ (hP.set hD he ⟨_, hc, t_OB.to (V := updV (vp_V fs) k (.ref v)) ⟨_, e1, q2, q3, t_set q4 hap hkN (.ref v)⟩ (fun j _ => vp_updV_set hlen (.ref v) j)⟩ e3) (e2.trans hz) (hC.set he) (hS.put e2 e3 (hD.2 q0 _ he))
theorem mc_puti (X : mc_X p s m args meth c cc nL own D cA) (hP : va_P D vwCl ws H) (hC : mc_C h ws) (hS : va_S (fun q => h ≤ q) s.heap H locs) (hz : H.size = h + n) {C : String} {T : u_T} {N ci index a : Nat} {ref : String} {fs : List Value} (hin : ∀ w ∈ u_ws C T N, w ∈ tb) (ty0 : Nat → FieldType) (hty : ∀ k, k < N → parseFieldDescriptor (T k).2.2.1 = some (ty0 k)) (hnm : ∀ a, a < N → ∀ b, b < N → a ≠ b → (T a).2.1 ≠ (T b).2.1) (q0 : Nat) (he : ws[q0]? = some (a, .inr (ci, fs))) (hc : vwCl[ci]? = some (C, T, N)) (k : Nat) (hkN : k < N) (href : (T k).1 = ref) (hl : Cond.fieldLink own index ref (T k).2.1 (T k).2.2.1 ∈ tb) (hfin : (T k).2.2.2 = false) {v : Int32} (hd : parseFieldDescriptor (T k).2.2.1 = some .int) (hlen : k < fs.length) (hdg : decode cc pc = .ok (.putfield index, 3))
    (kk : ∀ (H1 : Heap) (locs1 : List Loc), va_P D vwCl (ws.set q0 (a, .inr (ci, fs.set k (.int v)))) H1 → H1.size = h + n → mc_C h (ws.set q0 (a, .inr (ci, fs.set k (.int v)))) → va_S (fun q => h ≤ q) s.heap H1 locs1 → W p l e R s m args below meth c H1 locs1 cells slots Q (F0 m (pc + 3) ls rest)) : W p l e R s m args below meth c H locs cells slots Q (F0 m pc ls (.int v :: .ref a :: rest)) := by
  have hts := X.2.2.2.2.2.2.1
  have hown := X.2.2.2.2.2.1
  have hK := X.2.2.2.2.2.2.2.1
  have hD := hC.D
  have hap := va_apart (own := own) hts hin ty0 hty hnm hK hc
  obtain ⟨r, h1, cell, q1, q2, q3, q4⟩ := hP q0 _ he
  have hr : r = (C, T, N) := Option.some.inj (h1.symm.trans hc)
  subst hr
  obtain ⟨hSl, hfc, kC, hkC, hkind⟩ := hK.1 ci _ hc
  obtain ⟨cf, kf, fi, f, hi, hsl⟩ := hSl k hkN
  have hlay := hts _ (hin _ (u_in_lay hkN))
  unfold u_lay at hlay
  rw [if_neg (by rw [hfin]; decide)] at hlay
  have hst := (u_facts hfc hkC (u_lays hts hin hkN) hi).1
  have h6 := u_store hfc hkC hkind hlay hi hd (v := .int v) rfl rfl
  subst href
  refine W.putK X.1 X.2.1 (f := f) ⟨hown, hts _ hl, ⟨_, _, _, hi⟩, hst⟩ (by rw [q2]; exact h6) q1 q3 (by rw [hsl]; exact k2_hasslot (q4 k hkN)) rfl rfl hdg fun H' e1 e2 e3 => ?_
  rw [hsl] at e1 ⊢
  exact kk H' _ (hP.set hD he ⟨_, hc, t_OB.to (V := updV (vp_V fs) k (.int v)) ⟨_, e1, q2, q3, t_set q4 hap hkN (.int v)⟩ (fun j _ => vp_updV_set hlen (.int v) j)⟩ e3) (e2.trans hz) (hC.set he) (hS.put e2 e3 (hD.2 q0 _ he))
theorem mc_get (X : mc_X p s m args meth c cc nL own D cA) (hP : va_P D vwCl ws H) {C : String} {T : u_T} {N ci index a : Nat} {ref : String} {fs : List Value} (hin : ∀ w ∈ u_ws C T N, w ∈ tb) (q0 : Nat) (he : ws[q0]? = some (a, .inr (ci, fs))) (hc : vwCl[ci]? = some (C, T, N)) (k : Nat) (hkN : k < N) (href : (T k).1 = ref) (hl : Cond.fieldLink own index ref (T k).2.1 (T k).2.2.1 ∈ tb) {v : Value} (hv : fs[k]? = some v) (hdg : decode cc pc = .ok (.getfield index, 3))
    (kk : W p l e R s m args below meth c H locs cells slots Q (F0 m (pc + 3) ls (v :: rest))) : W p l e R s m args below meth c H locs cells slots Q (F0 m pc ls (.ref a :: rest)) :=
  va_get X.1 X.2.1 X.2.2.2.2.2.2.1 hin X.2.2.2.2.2.1 X.2.2.2.2.2.2.2.1 hP q0 he hc k hkN (X.2.2.2.2.2.2.1 _ hl) (fun x h => by rw [← href]; exact h) hv hdg kk
theorem mc_ast (X : mc_X p s m args meth c cc nL own D cA) (hP : va_P D vwCl ws H) (hC : mc_C h ws) (hS : va_S (fun q => h ≤ q) s.heap H locs) (hz : H.size = h + n) (q0 : Nat) {a N : Nat} {f : Nat → Int32} (he : ws[q0]? = some (a, .inl (cA 0, N, .inl f))) {i x : Int32} (j : Nat) (hj : i.toNatClampNeg = j) (hi : ¬ i < 0) (hjN : j < N) (hdg : decode cc pc = .ok (.iastore, 1))
    (kk : ∀ (H1 : Heap) (locs1 : List Loc), va_P D vwCl (ws.set q0 (a, .inl (cA 0, N, .inl (upd f j x)))) H1 → H1.size = h + n → mc_C h (ws.set q0 (a, .inl (cA 0, N, .inl (upd f j x)))) → va_S (fun q => h ≤ q) s.heap H1 locs1 → W p l e R s m args below meth c H1 locs1 cells slots Q (F0 m (pc + 1) ls rest)) : W p l e R s m args below meth c H locs cells slots Q (F0 m pc ls (.int x :: .int i :: .ref a :: rest)) := by
  subst hj
  have hD := hC.D
  have hK := X.2.2.2.2.2.2.2.1
  refine W.iast X.1 X.2.1 (hP q0 _ he) ((hK.2 0 _ rfl).1 N (fun j => .int (f j))) (fun q => by cases q) (by show ¬ (i < 0 ∨ (arrV _ _ _).slots.size ≤ _); rw [arrV_size]; exact fun z => z.elim hi (fun z => Nat.not_le.mpr hjN z)) rfl rfl hdg fun H1 e z oq => ?_
  refine kk H1 _ (hP.set hD he ?_ oq) (z.trans hz) (hC.set he) (hS.put z oq (hD.2 q0 _ he))
  show H1[a]? = some (vp_cell _ _)
  rw [e]
  rw [vp_cell_i, vp_cell_i, arrV_store]
  congr 2
  funext q
  by_cases hq : q = i.toNatClampNeg
  · subst hq
    simp [updV, upd]
  · simp [updV, upd, hq]
theorem mc_aast (X : mc_X p s m args meth c cc nL own D cA) (hP : va_P D vwCl ws H) (hC : mc_C h ws) (hS : va_S (fun q => h ≤ q) s.heap H locs) (hz : H.size = h + n) (q0 qk t0 ci : Nat) {a v : Nat} {r : vw_C} {vs : List Value} {f : Nat → Option Nat} (he : ws[q0]? = some (a, .inl (cA t0, 4, .inr (.inr (.inr (.inr f)))))) (ht : (mm_tys cA)[t0]? = some (cA t0, .object r.1)) (hv : ws[qk]? = some (v, .inr (ci, vs))) (hc : vwCl[ci]? = some r) {i : Int32} (j : Nat) (hj : i.toNatClampNeg = j) (hi : ¬ i < 0) (hjN : j < 4) (hdg : decode cc pc = .ok (.aastore, 1))
    (kk : ∀ (H1 : Heap) (locs1 : List Loc), va_P D vwCl (ws.set q0 (a, .inl (cA t0, 4, .inr (.inr (.inr (.inr (va_up f j (some v)))))))) H1 → H1.size = h + n → mc_C h (ws.set q0 (a, .inl (cA t0, 4, .inr (.inr (.inr (.inr (va_up f j (some v)))))))) → va_S (fun q => h ≤ q) s.heap H1 locs1 → W p l e R s m args below meth c H1 locs1 cells slots Q (F0 m (pc + 1) ls rest)) : W p l e R s m args below meth c H locs cells slots Q (F0 m pc ls (.ref v :: .int i :: .ref a :: rest)) := by
  subst hj
  have hD := hC.D
  have hK := X.2.2.2.2.2.2.2.1
  obtain ⟨r', hr', cellV, g1, g2, g3, -⟩ := hP qk _ hv
  have hcls := (hK.1 ci r hc).2
  obtain ⟨kA, comp, k1, k2, k3, -⟩ := (hK.2 t0 _ ht).2
  have hcomp : comp = D.1 ci := Option.some.inj (k3.symm.trans hcls.1)
  subst hcomp
  obtain ⟨kC, hkC, -⟩ := hcls.2
  refine W.aast X.1 X.2.1 (hP q0 _ he) (fun q h => by cases h) (fun h => by cases h) k1 k2 rfl hkC ⟨hi, by show _ < (arrV _ _ _).slots.size; rw [arrV_size]; exact hjN⟩ g1 (fun q h => by rw [g3] at h; cases h) (by rw [g2]; exact hkC) (by rw [g2]; exact va_assign hcls) rfl rfl hdg fun H1 e z oq => ?_
  refine kk H1 _ (hP.set hD he ?_ oq) (z.trans hz) (hC.set he) (hS.put z oq (hD.2 q0 _ he))
  show H1[a]? = some (vp_cell _ _)
  rw [e]
  rw [vp_cell_q, vp_cell_q, arrV_store]
  congr 2
  funext q
  by_cases hq : q = i.toNatClampNeg
  · subst hq
    simp [updV, va_up, va_rf]
  · simp [updV, va_up, hq]
theorem mc_after {g : JFrame} {wr wc w1 : va_W} {mc ms cs ss : Nat} {a : Array Value} {st0 : List Value} (hr : va_Run p l e R s m args below meth c H locs cells slots mc ms (F0 m pc ls st0) rest (mc_Q D (h + n) w1 a) (fun q => h + n ≤ q)) (hP : va_P D vwCl (wr ++ wc) H) (hC : mc_C h wr) (hlr : wr.length = n) (hC1 : mc_C (h + n) w1) {n1 : Nat} (hl1 : n + w1.length = n1) (hS : va_S (fun q => h ≤ q) s.heap H locs) (hzz : h + n ≤ H.size) (hcs : cells + mc = cs) (hss : slots + ms = ss)
    (kk : ∀ (H1 : Heap) (locs1 : List Loc), va_P D vwCl (wr ++ w1) H1 → H1.size = h + n1 → mc_C h (wr ++ w1) → va_S (fun q => h ≤ q) s.heap H1 locs1 → W p l e R s m args below meth c H1 locs1 cs ss Q (F0 m (pc + 3) ls rest)) : W p l e R s m args below meth c H locs cells slots Q (F0 m pc ls st0) := by
  subst hcs; subst hss
  intro T hT X
  obtain ⟨v, st₀, t, T', L, h0, X', hL, e1, e2, ⟨⟨hv, hsz, hp⟩, hz, hk⟩, st⟩ := hr T hT X
  cases hv
  rw [h0] at hz hk
  obtain ⟨t2, a1, b1⟩ := kk T'.heap (locs ++ L) (by
      rw [e1]
      refine va_P.app (fun k q hq => ?_) hp
      have hq1 : (wr ++ wc)[k]? = some q := by rw [List.getElem?_append_left (List.getElem?_eq_some_iff.mp hq).1]; exact hq
      have hlt := (List.getElem?_eq_some_iff.mp hq).1
      have hqa := hC k q hq
      exact (hP k q hq1).kept (hk q.1 ((hP k q hq1).lt) (by omega))) (by rw [e1, hsz]; omega) (hC.app hlr hC1) ⟨Nat.le_trans hS.1 (by rw [e1]; exact hz), fun q h1 h2 => by rw [e1, hk q (Nat.lt_of_lt_of_le h1 hS.1) (by omega)]; exact hS.2.1 q h1 h2, fun q hq => by
      rcases List.mem_append.mp hq with h | h
      · exact hS.2.2 q h
      · have := hL q h
        show _ ≤ _
        omega⟩ T' rfl X'
  exact ⟨t2, st t2 a1, b1⟩
theorem mc_pay {vs : List Value} {wc : va_W} (X : mc_X p s m args meth c cc nL own D cA) (hP : va_P D vwCl wc H) {k : Nat} (hz : H.size = k + wc.length) : ∀ U : State, U.heap = H → s.WarmedH U.vm → mc_pre D cA k vs wc vs.toArray U := fun U hU hW => ⟨rfl, by rw [hU]; exact hz, by rw [hU]; exact hP, va_K.moved hW.alike X.2.2.2.2.2.2.2.1, X.2.2.2.2.2.2.2.2.1.warm hW, mc_AO.moved hW.alike X.2.2.2.2.2.2.2.2.2.1⟩
/-- a constructor of a nest mate's is called -/
theorem mc_callN (X : mc_X p s m args meth c cc nL own D cA) {wr w1 : va_W} {e0 : va_E} (hP : va_P D vwCl (wr ++ [(h + n, e0)]) H) (hC : mc_C h wr) (hlr : wr.length = n) (hC1 : mc_C (h + n) w1) {n1 : Nat} (hl1 : n + w1.length = n1) (hS : va_S (fun q => h ≤ q) s.heap H locs) (hz : H.size = h + (n + 1)) (hzl : ls.size = nL) {y : MethodName} {bytes : ByteArray} {maxL index fr lo mc ms cs ss : Nat} {host : String} (rest : List Value)
    (hM : Met l y (Cond.code y bytes maxL none :: tb) ({ frames := fr, cells := mc, slots := ms, locals := lo }) (mc_pre D cA (h + n) [.ref (h + n)] [(h + n, e0)]) (mc_Q D (h + n) w1) mc ms (fun q => h + n ≤ q))
    (w1' : (own, index, y, host) ∈ mm_nest) (w2 : Cond.instanceMethod y ∈ tb) (w4 : Cond.initialized y.cls ∈ tb) (w5 : Cond.code y bytes maxL none ∈ tb) (hy1 : y.name = "<init>")
    (hd : y.cls ≠ "java/lang/invoke/MethodHandle" ∧ y.cls ≠ "java/lang/invoke/VarHandle" ∧ (parseMethodDescriptor y.desc).map (fun d => d.parameters.length) = some 0) (hR : fr + 1 ≤ R.frames ∧ 8 + (maxL + 11) + lo ≤ R.locals) (hW : (rest.map fun v => v.category).sum ≤ 8) (hdg : decode cc pc = .ok (.invokespecial index, 3)) (hf : cells + mc ≤ R.cells ∧ slots + ms ≤ R.slots) (hcs : cells + mc = cs) (hss : slots + ms = ss)
    (kk : ∀ (H1 : Heap) (locs1 : List Loc), va_P D vwCl (wr ++ w1) H1 → H1.size = h + n1 → mc_C h (wr ++ w1) → va_S (fun q => h ≤ q) s.heap H1 locs1 → W p l e R s m args below meth c H1 locs1 cs ss Q (F0 m (pc + 3) ls rest)) : W p l e R s m args below meth c H locs cells slots Q (F0 m pc ls (.ref (h + n) :: rest)) := by
  have hts := X.2.2.2.2.2.2.1
  have hPc : va_P D vwCl [(h + n, e0)] H := fun k q hq => hP (n + k) q (by rw [List.getElem?_append_right (by omega), hlr, Nat.add_sub_cancel_left]; exact hq)
  exact mc_after (g := F0 m pc ls []) (wr := wr) (wc := [(h + n, e0)]) (va_runIN (As := []) (rest := rest) ⟨X.1, X.2.1, X.2.2.1, X.2.2.2.2.2.1, hts⟩ hM ⟨va_cnB 0 hts (tb_goodIn w5) rfl rfl rfl (X.2.2.2.2.2.2.2.2.1 _ w1') (hts _ w4) hd ⟨hR.1, hR.2⟩, hy1, hts _ w2⟩ ⟨mc_blind, mc_pay X hPc (by rw [hz]; rfl)⟩ rfl rfl hzl rfl (lv_room hW) hdg hf) hP hC hlr hC1 hl1 hS (by omega) hcs hss kk
/-- a constructor of two arguments -/
theorem mc_call2 (X : mc_X p s m args meth c cc nL own D cA) {wr w1 : va_W} {e0 : va_E} (hP : va_P D vwCl (wr ++ [(h + n, e0)]) H) (hC : mc_C h wr) (hlr : wr.length = n) (hC1 : mc_C (h + n) w1) {n1 : Nat} (hl1 : n + w1.length = n1) (hS : va_S (fun q => h ≤ q) s.heap H locs) (hz : H.size = h + (n + 1)) (hzl : ls.size = nL) {y : MethodName} {bytes : ByteArray} {maxL index fr lo mc ms cs ss a1 a2 : Nat} (rest : List Value)
    (hM : Met l y (Cond.code y bytes maxL none :: tb) ({ frames := fr, cells := mc, slots := ms, locals := lo }) (mc_pre D cA (h + n) [.ref (h + n), .ref a1, .ref a2] [(h + n, e0)]) (mc_Q D (h + n) w1) mc ms (fun q => h + n ≤ q))
    (w1' : Cond.methodLink own index y ∈ tb) (w2 : Cond.instanceMethod y ∈ tb) (w4 : Cond.initialized y.cls ∈ tb) (w5 : Cond.code y bytes maxL none ∈ tb) (hy1 : y.name = "<init>")
    (hd : y.cls ≠ "java/lang/invoke/MethodHandle" ∧ y.cls ≠ "java/lang/invoke/VarHandle" ∧ (parseMethodDescriptor y.desc).map (fun d => d.parameters.length) = some 2) (hR : fr + 1 ≤ R.frames ∧ 8 + (maxL + 11) + lo ≤ R.locals) (hW : (rest.map fun v => v.category).sum ≤ 8) (hdg : decode cc pc = .ok (.invokespecial index, 3)) (hf : cells + mc ≤ R.cells ∧ slots + ms ≤ R.slots) (hcs : cells + mc = cs) (hss : slots + ms = ss)
    (kk : ∀ (H1 : Heap) (locs1 : List Loc), va_P D vwCl (wr ++ w1) H1 → H1.size = h + n1 → mc_C h (wr ++ w1) → va_S (fun q => h ≤ q) s.heap H1 locs1 → W p l e R s m args below meth c H1 locs1 cs ss Q (F0 m (pc + 3) ls rest)) : W p l e R s m args below meth c H locs cells slots Q (F0 m pc ls (.ref a2 :: .ref a1 :: .ref (h + n) :: rest)) := by
  have hts := X.2.2.2.2.2.2.1
  have hPc : va_P D vwCl [(h + n, e0)] H := fun k q hq => hP (n + k) q (by rw [List.getElem?_append_right (by omega), hlr, Nat.add_sub_cancel_left]; exact hq)
  exact mc_after (g := F0 m pc ls []) (wr := wr) (wc := [(h + n, e0)]) (va_runI (As := [.ref a1, .ref a2]) (rest := rest) ⟨X.1, X.2.1, X.2.2.1, X.2.2.2.2.2.1, hts⟩ hM (cwI 2 hts (tb_goodIn w5) rfl rfl rfl (hts _ w4) (hts _ w1') (hts _ w2) hy1 hd ⟨hR.1, hR.2⟩) ⟨mc_blind, mc_pay X hPc (by rw [hz]; rfl)⟩ rfl rfl hzl rfl (lv_room hW) hdg hf) hP hC hlr hC1 hl1 hS (by omega) hcs hss kk
theorem mc_vret (X : mc_X p s m args meth c cc nL own D cA) (hP : va_P D vwCl ws H) (hz : H.size = h + n) (hln : ws.length = n) (hS : va_S (fun q => h ≤ q) s.heap H locs) (hdg : decode cc pc = .ok (.return_, 1)) : W p l e R s m args below meth c H locs cells slots (MQ below (mc_Q D h ws) args s cells slots (fun q => h ≤ q)) (F0 m pc ls []) :=
  W.vret X.1 X.2.1 X.2.2.2.1 (fun t ht _ => ⟨⟨rfl, by rw [ht, hz, hln], by rw [ht]; exact hP⟩, hS.F ht⟩) hS.2.2 hdg X.2.2.2.2.1
end MC
theorem mc_C.init {h : Nat} {w1 w2 ws : va_W} (hc : mc_C h ws) (e : w1 ++ w2 = ws) : mc_C h w1 := fun i q hq => hc i q (by rw [← e, List.getElem?_append_left (List.getElem?_eq_some_iff.mp hq).1]; exact hq)
theorem mc_C.sh {h : Nat} {ws : va_W} (hc : mc_C h ws) : mc_C h ws := hc
theorem mc_C.list {h : Nat} {ws : va_W} (e : ws.map (fun q => q.1) = (List.range ws.length).map (fun i => h + i)) : mc_C h ws := fun i q hq => by
  have h1 : (ws.map (fun q => q.1))[i]? = some q.1 := by rw [List.getElem?_map, hq]; rfl
  rw [e, List.getElem?_map] at h1
  have hi := (List.getElem?_eq_some_iff.mp hq).1
  rw [List.getElem?_range hi] at h1
  exact (Option.some.inj h1).symm
