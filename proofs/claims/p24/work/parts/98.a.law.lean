/-! from the constructors' cells to the one world of the methods -/
def m_off (r t n : Nat) : Nat := if t < 6 then (if r < 2 then 1 + 18 * r else 3 + 18 * r) + t else if t < 9 then (if r < 2 then 1 + 18 * r else 3 + 18 * r) + (3 * n + t) else if t = 9 then 0 else if t = 10 then 37 else if t = 11 then 38 else if t < 30 then 99 + t else 96 + t
def m_ad (h : Nat) : mm_A := fun r t n => h + m_off r t n
def m_s0 : mm_M := fun _ t _ => match t with
  | 0 => fun i => if i = 7 then -1 else 0
  | 6 => fun i => if i = 3 then -1 else 0
  | 11 => fun i => nI (i + 2)
  | _ => fun _ => 0
def m_ce (ad : mm_A) (cA : Nat → ClassId) (f : Nat → Int32) (r t n : Nat) : va_E := match t with
  | 5 => .inl (cA 3, 4, .inr (.inr (.inr (.inr (va_up (va_up (va_up (va_up (fun _ => none) 0 (some (ad r 6 0))) 1 (some (ad r 6 1))) 2 (some (ad r 6 2))) 3 (some (ad r 6 3)))))))
  | 11 => .inl (cA 4, 4, .inr (.inr (.inr (.inr (va_up (va_up (va_up (va_up (fun _ => none) 0 (some (ad 2 0 0))) 1 (some (ad 3 0 0))) 2 (some (ad 4 0 0))) 3 (some (ad 5 0 0)))))))
  | _ => mm_ce ad cA f r t n
theorem m_nd : (mm_keys.map fun k => m_off k.1 k.2.1 k.2.2).Nodup := by decide +kernel
theorem m_inj (h : Nat) : mm_Inj (m_ad h) := by
  intro i j p q hi hj e
  have e2 : m_off p.1 p.2.1 p.2.2 = m_off q.1 q.2.1 q.2.2 := by
    have := e
    unfold m_ad at this
    omega
  have h1 : (mm_keys.map fun k => m_off k.1 k.2.1 k.2.2)[i]? = some (m_off p.1 p.2.1 p.2.2) := by rw [List.getElem?_map, hi]; rfl
  have h2 : (mm_keys.map fun k => m_off k.1 k.2.1 k.2.2)[j]? = some (m_off p.1 p.2.1 p.2.2) := by rw [List.getElem?_map, hj, e2]; rfl
  obtain ⟨hi1, e3⟩ := List.getElem?_eq_some_iff.mp h1
  obtain ⟨hj1, e4⟩ := List.getElem?_eq_some_iff.mp h2
  have hn := List.pairwise_iff_getElem.mp m_nd
  rcases Nat.lt_trichotomy i j with z | z | z
  · exact absurd (e3.trans e4.symm) (hn i j hi1 hj1 z)
  · exact z
  · exact absurd (e4.trans e3.symm) (hn j i hj1 hi1 z)
theorem m_AS {h q : Nat} (hq : mm_AS (m_ad h) q) : h ≤ q := by
  obtain ⟨i, k, _, rfl⟩ := hq
  unfold m_ad
  omega
theorem m_arr {c : ClassId} {n : Nat} {f g : Nat → Option Nat} (e : ∀ j, j < n → f j = g j) : vp_cell c (n, .inr (.inr (.inr (.inr f)))) = vp_cell c (n, .inr (.inr (.inr (.inr g)))) := by
  rw [vp_cell_q, vp_cell_q]
  unfold arrV
  congr 2
  funext j
  exact congrArg va_rf (e j.val j.isLt)
def m_places : List Nat := mm_keys.map fun k => m_off k.1 k.2.1 k.2.2
set_option maxRecDepth 1000000 in
set_option maxHeartbeats 4000000 in
theorem m_list (cA : Nat → ClassId) (h : Nat) : m_places.filterMap (fun i => (mw_X10 cA h)[i]?) = mm_keys.map (fun k => (m_ad h k.1 k.2.1 k.2.2, m_ce (m_ad h) cA (m_s0 k.1 k.2.1 k.2.2) k.1 k.2.1 k.2.2)) := rfl
theorem m_world {D : va_G} {cA : Nat → ClassId} {h : Nat} {H : Heap} (hP : va_P D vwCl (mw_X10 cA h) H) : va_P D vwCl (mm_wd (m_ad h) cA m_s0) H := by
  have h1 := hP.sub m_places (m_list cA h)
  intro k q hk
  unfold mm_wd at hk
  rw [List.getElem?_map] at hk
  cases hz : mm_keys[k]? with
  | none => rw [hz] at hk; cases hk
  | some z =>
    rw [hz] at hk
    cases hk
    have h2 := h1 k (m_ad h z.1 z.2.1 z.2.2, m_ce (m_ad h) cA (m_s0 z.1 z.2.1 z.2.2) z.1 z.2.1 z.2.2) (by rw [List.getElem?_map, hz]; rfl)
    obtain ⟨r, t, n⟩ := z
    by_cases h5 : t = 5
    · subst h5
      refine Eq.trans h2 ?_
      refine congrArg some (m_arr (fun j hj => ?_))
      rcases (show j = 0 ∨ j = 1 ∨ j = 2 ∨ j = 3 by omega) with rfl | rfl | rfl | rfl <;> rfl
    · by_cases h11 : t = 11
      · subst h11
        refine Eq.trans h2 ?_
        refine congrArg some (m_arr (fun j hj => ?_))
        rcases (show j = 0 ∨ j = 1 ∨ j = 2 ∨ j = 3 by omega) with rfl | rfl | rfl | rfl <;> rfl
      · have e : m_ce (m_ad h) cA (m_s0 r t n) r t n = mm_ce (m_ad h) cA (m_s0 r t n) r t n := by
          unfold m_ce
          split
          · exact absurd rfl h5
          · exact absurd rfl h11
          · rfl
        rw [e] at h2
        exact h2
section ML
variable {p : Program} {l : Launch} {e : Env} {R : Room} {s : State} {m : MethodId} {args : Array Value} {below : List Frame} {meth : Method} {c : Code} {H : Heap} {locs : List Loc} {cells slots : Nat} {Q : State → Prop} {cc : ByteArray} {nL : Nat} {ret : Option FieldType} {own : String} {D : va_G} {ad : mm_A} {cA : Nat → ClassId} {σ : mm_M} {pc : Nat} {ls : Array Slot} {rest : List Value} {A0 : Nat → Prop}
theorem ml_after {pc : Nat} {st0 : List Value} {a : Array Value} {ov : Option Value} {σ1 : mm_M} (hr : va_Run p l e R s m args below meth c H locs cells slots 0 0 (F0 m pc ls st0) rest (mm_Q D ad cA ov σ1 a) (mm_AS ad)) (hS : va_S A0 s.heap H locs) (hsub : ∀ q, mm_AS ad q → A0 q)
    (kk : ∀ (H1 : Heap) (locs1 : List Loc), va_P D vwCl (mm_wd ad cA σ1) H1 → va_S A0 s.heap H1 locs1 → W p l e R s m args below meth c H1 locs1 cells slots Q (F0 m (pc + 3) ls (ov.toList ++ rest))) : W p l e R s m args below meth c H locs cells slots Q (F0 m pc ls st0) := by
  intro T hT X
  obtain ⟨v, st₀, t, T', L, h0, X', hL, e1, e2, ⟨⟨hv, hp⟩, hz, hk⟩, st⟩ := hr T hT X
  cases hv
  rw [h0] at hz hk
  obtain ⟨t2, a1, b1⟩ := kk T'.heap (locs ++ L) (by rw [e1]; exact hp) ⟨Nat.le_trans hS.1 (by rw [e1]; exact hz), fun q h1 h2 => by rw [e1, hk q (Nat.lt_of_lt_of_le h1 hS.1) (fun z => h2 (hsub q z))]; exact hS.2.1 q h1 h2, fun q hq => by
      rcases List.mem_append.mp hq with h | h
      · exact hS.2.2 q h
      · exact hsub _ (hL q h)⟩ T' rfl X'
  exact ⟨t2, st t2 a1, b1⟩
theorem ml_callV (X : mm_X p s m args meth c cc nL ret own D ad cA) (hP : va_P D vwCl (mm_wd ad cA σ) H) (hS : va_S A0 s.heap H locs) (hsub : ∀ q, mm_AS ad q → A0 q) (hz : ls.size = nL) {y : MethodName} {bytes : ByteArray} {maxL index fr lo : Nat} {ret1 : Option FieldType} {q0 r t n ci : Nat} {q : vw_C} {fs : List Value} (As : List Value) (rest : List Value) {ov : Option Value} {σ1 : mm_M}
    (hM : Met l y (Cond.code y bytes maxL ret1 :: tb) (mm_rm fr lo) (mm_pre D ad cA (.ref (ad r t n) :: As) σ) (mm_Q D ad cA ov σ1) 0 0 (mm_AS ad)) (hk : mm_keys[q0]? = some (r, t, n)) (he : mm_ce ad cA (σ r t n) r t n = .inr (ci, fs)) (hc : vwCl[ci]? = some q)
    (w1 : Cond.methodLink own index y ∈ tb) (w2 : Cond.instanceMethod y ∈ tb) (w3 : Cond.selects q.1 y y ∈ tb) (w4 : Cond.initialized q.1 ∈ tb) (w5 : Cond.code y bytes maxL ret1 ∈ tb)
    (hd : y.cls = q.1 ∧ y.cls ≠ "java/lang/invoke/MethodHandle" ∧ y.cls ≠ "java/lang/invoke/VarHandle" ∧ (parseMethodDescriptor y.desc).map (fun d => d.parameters.length) = some As.length) (hR : fr + 1 ≤ R.frames ∧ 8 + (maxL + 11) + lo ≤ R.locals) {st0 : List Value} (hst : st0 = As.reverse ++ .ref (ad r t n) :: rest) (hW : (rest.map fun v => v.category).sum ≤ 8) (hdg : decode cc pc = .ok (.invokevirtual index, 3)) (hf : cells ≤ R.cells ∧ slots ≤ R.slots)
    (kk : ∀ (H1 : Heap) (locs1 : List Loc), va_P D vwCl (mm_wd ad cA σ1) H1 → va_S A0 s.heap H1 locs1 → W p l e R s m args below meth c H1 locs1 cells slots Q (F0 m (pc + 3) ls (ov.toList ++ rest))) : W p l e R s m args below meth c H locs cells slots Q (F0 m pc ls st0) := by
  have hts := X.2.2.2.2.2.2.1
  refine ml_after (va_runV (As := As) (rest := rest) ⟨X.1, X.2.1, X.2.2.1, X.2.2.2.2.2.1, hts⟩ hM (cwV As.length hts (C := q.1) (fun w hw => ?_) rfl rfl rfl hd ⟨hR.1, hR.2⟩) ⟨mm_blind, va_recv X.2.2.2.2.2.2.2.1 hP hc (by rw [mm_at hk, he]), mm_prePay X hP⟩ rfl rfl hz hst (lv_room hW) hdg hf) hS hsub kk
  simp only [wsV, List.cons_append, List.nil_append, List.mem_cons] at hw
  rcases hw with rfl | rfl | rfl | rfl | rfl | hw
  · exact ⟨w1, tb_good _ w1⟩
  · exact ⟨w2, tb_good _ w2⟩
  · exact ⟨w3, tb_good _ w3⟩
  · exact ⟨w4, tb_good _ w4⟩
  · exact ⟨w5, tb_good _ w5⟩
  · exact ⟨hw, tb_good _ hw⟩
/-- a constructor of a class of its own, called by the law -/
theorem ml_callI {h : Nat} {wr w1 : va_W} {e0 : va_E} (S : CallFix p m c cc nL s args tb own) (hK : va_K D vwCl (mm_tys cA) s) (hN : mm_N s) (hO : mc_AO s) {k : Nat} (hP : va_P D vwCl (wr ++ [(h + k, e0)]) H) (hC : mc_C h wr) (hlr : wr.length = k) (hC1 : mc_C (h + k) w1) {n1 : Nat} (hl1 : k + w1.length = n1) (hS : va_S (fun q => h ≤ q) s.heap H locs) (hz : H.size = h + (k + 1)) (hzl : ls.size = nL) {y : MethodName} {bytes : ByteArray} {maxL index fr lo mc ms cs ss : Nat} (rest : List Value)
    (hM : Met l y (Cond.code y bytes maxL none :: tb) ({ frames := fr, cells := mc, slots := ms, locals := lo }) (mc_pre D cA (h + k) [.ref (h + k)] [(h + k, e0)]) (mc_Q D (h + k) w1) mc ms (fun q => h + k ≤ q))
    (w1' : Cond.methodLink own index y ∈ tb) (w2 : Cond.instanceMethod y ∈ tb) (w4 : Cond.initialized y.cls ∈ tb) (w5 : Cond.code y bytes maxL none ∈ tb) (hy1 : y.name = "<init>")
    (hd : y.cls ≠ "java/lang/invoke/MethodHandle" ∧ y.cls ≠ "java/lang/invoke/VarHandle" ∧ (parseMethodDescriptor y.desc).map (fun d => d.parameters.length) = some 0) (hR : fr + 1 ≤ R.frames ∧ 8 + (maxL + 11) + lo ≤ R.locals) (hW : (rest.map fun v => v.category).sum ≤ 8) (hdg : decode cc pc = .ok (.invokespecial index, 3)) (hf : cells + mc ≤ R.cells ∧ slots + ms ≤ R.slots) (hcs : cells + mc = cs) (hss : slots + ms = ss)
    (kk : ∀ (H1 : Heap) (locs1 : List Loc), va_P D vwCl (wr ++ w1) H1 → H1.size = h + n1 → mc_C h (wr ++ w1) → va_S (fun q => h ≤ q) s.heap H1 locs1 → W p l e R s m args below meth c H1 locs1 cs ss Q (F0 m (pc + 3) ls rest)) : W p l e R s m args below meth c H locs cells slots Q (F0 m pc ls (.ref (h + k) :: rest)) := by
  have hts := S.2.2.2.2
  have hPc : va_P D vwCl [(h + k, e0)] H := fun i q hq => hP (k + i) q (by rw [List.getElem?_append_right (by omega), hlr, Nat.add_sub_cancel_left]; exact hq)
  exact mc_after (g := F0 m pc ls []) (wr := wr) (wc := [(h + k, e0)]) (va_runI (As := []) (rest := rest) S hM (cwI 0 hts (tb_goodIn w5) rfl rfl rfl (hts _ w4) (hts _ w1') (hts _ w2) hy1 hd ⟨hR.1, hR.2⟩) ⟨mc_blind, fun U hU hW => ⟨rfl, by rw [hU, hz]; rfl, by rw [hU]; exact hPc, va_K.moved hW.alike hK, hN.warm hW, mc_AO.moved hW.alike hO⟩⟩ rfl rfl hzl rfl (lv_room hW) hdg hf) hP hC hlr hC1 hl1 hS (by omega) hcs hss kk
theorem ml_callS (X : mm_X p s m args meth c cc nL ret own D ad cA) (hP : va_P D vwCl (mm_wd ad cA σ) H) (hS : va_S A0 s.heap H locs) (hsub : ∀ q, mm_AS ad q → A0 q) (hz : ls.size = nL) {y : MethodName} {bytes : ByteArray} {maxL index fr lo : Nat} {ret1 : Option FieldType} (As : List Value) (rest : List Value) {ov : Option Value} {σ1 : mm_M}
    (hM : Met l y (Cond.code y bytes maxL ret1 :: tb) (mm_rm fr lo) (mm_pre D ad cA As σ) (mm_Q D ad cA ov σ1) 0 0 (mm_AS ad))
    (w1 : Cond.methodLink own index y ∈ tb) (w2 : Cond.static y ∈ tb) (w4 : Cond.initialized y.cls ∈ tb) (w5 : Cond.code y bytes maxL ret1 ∈ tb)
    (hd : y.cls ≠ "java/lang/invoke/MethodHandle" ∧ y.cls ≠ "java/lang/invoke/VarHandle" ∧ (parseMethodDescriptor y.desc).map (fun d => d.parameters.length) = some As.length) (hR : fr + 1 ≤ R.frames ∧ 8 + (maxL + 11) + lo ≤ R.locals) {st0 : List Value} (hst : st0 = As.reverse ++ rest) (hW : (rest.map fun v => v.category).sum ≤ 8) (hdg : decode cc pc = .ok (.invokestatic index, 3)) (hf : cells ≤ R.cells ∧ slots ≤ R.slots)
    (kk : ∀ (H1 : Heap) (locs1 : List Loc), va_P D vwCl (mm_wd ad cA σ1) H1 → va_S A0 s.heap H1 locs1 → W p l e R s m args below meth c H1 locs1 cells slots Q (F0 m (pc + 3) ls (ov.toList ++ rest))) : W p l e R s m args below meth c H locs cells slots Q (F0 m pc ls st0) := by
  have hts := X.2.2.2.2.2.2.1
  exact ml_after (va_runS (As := As) (rest := rest) ⟨X.1, X.2.1, X.2.2.1, X.2.2.2.2.2.1, hts⟩ hM ⟨callB_of As.length hts (tb_goodIn w5) rfl rfl rfl (hts _ w4) (hts _ w1) hd ⟨hR.1, hR.2⟩, hts _ w2⟩ ⟨mm_blind, mm_prePay X hP⟩ rfl rfl hz hst (lv_room hW) hdg hf) hS hsub kk
end ML
