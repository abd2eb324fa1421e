/-! the bundle that every contract asks for, and calls by contract over it -/
def mx_isNest : Cond → Bool
  | .fieldLinkNest .. => true
  | .methodLinkNest .. => true
  | _ => false
def mx_WS : List Cond := lw_tbl.filter goodWord
def mx_NL : List Cond := lw_tbl.filter mx_isNest
def mx_NW (U : State) : Prop := ∀ w ∈ mx_NL, va_Nw w U
theorem mx_NW.warm {s U : State} (hW : s.WarmedH U.vm) (h : mx_NW s) : mx_NW U := by
  intro w hw
  have h2 := (List.mem_filter.mp hw).2
  have h3 := h w hw
  cases w <;> first | exact va_Nw.warmF hW h3 | exact va_Nw.warmM hW h3 | exact absurd h2 (by simp [mx_isNest])
theorem mx_NW.same {s U : State} (hv : s.vm = U.vm) (h : mx_NW s) : mx_NW U := by
  intro w hw
  have h2 := (List.mem_filter.mp hw).2
  have h3 := h w hw
  cases w <;> first | exact va_Nw.same rfl hv h3 | exact absurd h2 (by simp [mx_isNest])
abbrev mx_E : Type := va_G × (Nat → ClassId)
def mx_tys (E : mx_E) : List (ClassId × FieldType) := [(E.2 0, .int), (E.2 1, .char), (E.2 2, .boolean), (E.2 3, .object "TopDownTowers$Tower")]
def mx_KN (E : mx_E) (U : State) : Prop := va_K E.1 vwCl (mx_tys E) U ∧ mx_NW U
theorem mx_KN.warm {E : mx_E} {s U : State} (hW : s.WarmedH U.vm) (h : mx_KN E s) : mx_KN E U := ⟨va_K.moved hW.alike h.1, mx_NW.warm hW h.2⟩
theorem mx_KN.same {E : mx_E} {s U : State} (hv : s.vm = U.vm) (h : mx_KN E s) : mx_KN E U := ⟨va_K.moved (by rw [hv]; exact Vm.Alike.refl _) h.1, mx_NW.same hv h.2⟩
/-- starts: of a method that changes nothing, and of one that may -/
def mx_Pp (E : mx_E) (ws : va_W) (U : State) : Prop := va_P E.1 vwCl ws U.heap ∧ mx_KN E U
def mx_Pw (E : mx_E) (ws : va_W) (sz : Nat) (U : State) : Prop := U.heap.size = sz ∧ va_P E.1 vwCl ws U.heap ∧ mx_KN E U ∧ va_D (fun _ => True) ws
theorem mx_bp {E : mx_E} {ws : va_W} {av : List Value} : FrameBlind (va_Pc av (mx_Pp E ws)) := fun _ U g mk q => ⟨q.1, q.2.1, mx_KN.same (s := U) (U := U.calling g mk _) rfl q.2.2⟩
theorem mx_bw {E : mx_E} {ws : va_W} {sz : Nat} {av : List Value} : FrameBlind (va_Pc av (mx_Pw E ws sz)) := fun _ U g mk q => ⟨q.1, q.2.1, q.2.2.1, mx_KN.same (s := U) (U := U.calling g mk _) rfl q.2.2.2.1, q.2.2.2.2⟩
/-- what holds throughout a method's body -/
def mx_B (p : Program) (m : MethodId) (c : Code) (cc : ByteArray) (nL : Nat) (s : State) (args : Array Value) (own : String) (E : mx_E) : Prop :=
  p.tables.exec = Jvm.exec ∧ c.code = cc ∧ c.maxLocals = nL ∧ s.vm.findClass own = some m.cls ∧ (∀ w ∈ mx_WS, w.before args s = true) ∧ mx_KN E s
section MXB
variable {p : Program} {m : MethodId} {c : Code} {cc : ByteArray} {nL : Nat} {s : State} {args : Array Value} {own : String} {E : mx_E}
theorem mx_B.x (h : mx_B p m c cc nL s args own E) : p.tables.exec = Jvm.exec := h.1
theorem mx_B.b (h : mx_B p m c cc nL s args own E) : c.code = cc := h.2.1
theorem mx_B.l (h : mx_B p m c cc nL s args own E) : c.maxLocals = nL := h.2.2.1
theorem mx_B.o (h : mx_B p m c cc nL s args own E) : s.vm.findClass own = some m.cls := h.2.2.2.1
theorem mx_B.w (h : mx_B p m c cc nL s args own E) {w : Cond} (hw : w ∈ mx_WS) : w.before args s = true := h.2.2.2.2.1 w hw
theorem mx_B.t (h : mx_B p m c cc nL s args own E) : ∀ w ∈ mx_WS, w.before args s = true := h.2.2.2.2.1
theorem mx_B.K (h : mx_B p m c cc nL s args own E) : va_K E.1 vwCl (mx_tys E) s := h.2.2.2.2.2.1
theorem mx_B.N (h : mx_B p m c cc nL s args own E) {w : Cond} (hw : w ∈ mx_NL) : va_Nw w s := h.2.2.2.2.2.2 w hw
theorem mx_B.KN (h : mx_B p m c cc nL s args own E) : mx_KN E s := h.2.2.2.2.2
end MXB
theorem mx_good : GoodIn mx_WS mx_WS := fun w hw => ⟨hw, good_of_word (List.mem_filter.mp hw).2⟩
theorem mx_goodC {y : MethodName} {b : ByteArray} {n : Nat} {r : Option FieldType} (h : Cond.code y b n r ∈ mx_WS) : GoodIn mx_WS (Cond.code y b n r :: mx_WS) := fun w hw => (List.mem_cons.mp hw).elim (fun e => by subst e; exact mx_good _ h) (fun h => mx_good w h)
/-- what the tables say of a called method -/
def mx_sB (y : MethodName) (b : ByteArray) (n : Nat) (r : Option FieldType) (k : Nat) : Prop := Cond.code y b n r ∈ mx_WS ∧ Cond.initialized y.cls ∈ mx_WS ∧ (y.cls ≠ "java/lang/invoke/MethodHandle" ∧ y.cls ≠ "java/lang/invoke/VarHandle" ∧ (parseMethodDescriptor y.desc).map (fun d => d.parameters.length) = some k)
def mx_sV (C : String) (y : MethodName) : Prop := Cond.instanceMethod y ∈ mx_WS ∧ Cond.selects C y y ∈ mx_WS
section MXC
variable {p : Program} {l : Launch} {e : Env} {R : Room} {s : State} {m : MethodId} {args : Array Value} {below : List Frame} {meth : Method} {c : Code} {H : Heap} {locs : List Loc} {cells slots : Nat} {Q : State → Prop}
variable {cc bytes : ByteArray} {nL maxL idx mc ms pc : Nat} {own C : String} {y : MethodName} {ret : Option FieldType} {rm : Room} {Pc : Array Value → State → Prop} {Qc : Array Value → State → Outcome → State → Prop} {free : Addr → Prop}
variable {b : Addr} {As rest st0 : List Value} {ls : Array Slot} {E : mx_E}
/-- rooms: the called one's and the caller's -/
def mx_rm (rm R : Room) (maxL mc ms : Nat) : Bool := decide (rm.cells = mc) && decide (rm.slots = ms) && decide (rm.frames + 1 ≤ R.frames) && decide (8 + (maxL + 11) + rm.locals ≤ R.locals)
theorem mx_rm.to (h : mx_rm rm R maxL mc ms = true) : rm.cells = mc ∧ rm.slots = ms ∧ (rm.frames + 1 ≤ R.frames ∧ 8 + (maxL + 11) + rm.locals ≤ R.locals) := by
  simp only [mx_rm, Bool.and_eq_true, decide_eq_true_eq] at h
  exact ⟨h.1.1.1, h.1.1.2, h.1.2, h.2⟩
def mx_cat (rest : List Value) : Bool := decide ((rest.map fun v => v.category).sum ≤ 8)
theorem mx_runV (hB : mx_B p m c cc nL s args own E) (hM : Met l y (Cond.code y bytes maxL ret :: mx_WS) rm Pc Qc mc ms free) (hs : mx_sB y bytes maxL ret As.length) (hv : mx_sV C y) (hk : Cond.methodLink own idx y ∈ mx_WS) (hrm : mx_rm rm R maxL mc ms = true)
    (hp : PreV s H C b Pc As) (hsize : ls.size = nL) (hst : st0 = As.reverse ++ .ref b :: rest) (hcat : (rest.map fun v => v.category).sum ≤ 8) (hdg : decode cc pc = .ok (.invokevirtual idx, 3)) (hf : cells + mc ≤ R.cells ∧ slots + ms ≤ R.slots) :
    va_Run p l e R s m args below meth c H locs cells slots mc ms (F0 m pc ls st0) rest (Qc (Value.ref b :: As).toArray) free :=
  va_runV ⟨hB.x, hB.b, hB.l, hB.o, hB.t⟩ hM ⟨callB_of As.length hB.t (mx_goodC hs.1) rfl (mx_rm.to hrm).1 (mx_rm.to hrm).2.1 (hB.w hs.2.1) (hB.w hk) hs.2.2 (mx_rm.to hrm).2.2, hB.w hv.1, hB.w hv.2⟩ hp rfl rfl hsize hst (lv_room hcat) hdg hf
theorem mx_runN {host : String} (hB : mx_B p m c cc nL s args own E) (hM : Met l y (Cond.code y bytes maxL ret :: mx_WS) rm Pc Qc mc ms free) (hs : mx_sB y bytes maxL ret As.length) (hv : mx_sV C y) (hk : Cond.methodLinkNest own idx y host ∈ mx_NL) (hrm : mx_rm rm R maxL mc ms = true)
    (hp : PreV s H C b Pc As) (hsize : ls.size = nL) (hst : st0 = As.reverse ++ .ref b :: rest) (hcat : (rest.map fun v => v.category).sum ≤ 8) (hdg : decode cc pc = .ok (.invokevirtual idx, 3)) (hf : cells + mc ≤ R.cells ∧ slots + ms ≤ R.slots) :
    va_Run p l e R s m args below meth c H locs cells slots mc ms (F0 m pc ls st0) rest (Qc (Value.ref b :: As).toArray) free :=
  va_runVN ⟨hB.x, hB.b, hB.l, hB.o, hB.t⟩ hM ⟨va_cnB As.length hB.t (mx_goodC hs.1) rfl (mx_rm.to hrm).1 (mx_rm.to hrm).2.1 (hB.N hk) (hB.w hs.2.1) hs.2.2 (mx_rm.to hrm).2.2, hB.w hv.1, hB.w hv.2⟩ hp rfl rfl hsize hst (lv_room hcat) hdg hf
theorem mx_runS (hB : mx_B p m c cc nL s args own E) (hM : Met l y (Cond.code y bytes maxL ret :: mx_WS) rm Pc Qc mc ms free) (hs : mx_sB y bytes maxL ret As.length) (hv : Cond.static y ∈ mx_WS) (hk : Cond.methodLink own idx y ∈ mx_WS) (hrm : mx_rm rm R maxL mc ms = true)
    (hp : PreS s H Pc As) (hsize : ls.size = nL) (hst : st0 = As.reverse ++ rest) (hcat : (rest.map fun v => v.category).sum ≤ 8) (hdg : decode cc pc = .ok (.invokestatic idx, 3)) (hf : cells + mc ≤ R.cells ∧ slots + ms ≤ R.slots) :
    va_Run p l e R s m args below meth c H locs cells slots mc ms (F0 m pc ls st0) rest (Qc As.toArray) free :=
  va_runS ⟨hB.x, hB.b, hB.l, hB.o, hB.t⟩ hM ⟨callB_of As.length hB.t (mx_goodC hs.1) rfl (mx_rm.to hrm).1 (mx_rm.to hrm).2.1 (hB.w hs.2.1) (hB.w hk) hs.2.2 (mx_rm.to hrm).2.2, hB.w hv⟩ hp rfl rfl hsize hst (lv_room hcat) hdg hf
/-- behind a call that changes nothing -/
theorem mx_gi {post : Int32 → Prop} {a : Array Value} (hr : va_Run p l e R s m args below meth c H locs cells slots 0 0 (F0 m pc ls st0) rest (vp_Si post a) (fun _ => False))
    (kk : ∀ r : Int32, post r → W p l e R s m args below meth c H locs cells slots Q (F0 m (pc + 3) ls (.int r :: rest))) : W p l e R s m args below meth c H locs cells slots Q (F0 m pc ls st0) := by
  intro T hT X
  obtain ⟨v, st₀, t, T', L, h0, X', hL, e1, e2, ⟨r, hv, hp, hh⟩, st⟩ := hr T hT X
  cases hv
  obtain ⟨t2, a1, b1⟩ := kk r hp T' (by rw [e1, hh, h0]) (Stand.forget X' (fun q h => (hL q h).elim))
  exact ⟨t2, st t2 a1, b1⟩
theorem mx_gl {post : Int64 → Prop} {a : Array Value} (hr : va_Run p l e R s m args below meth c H locs cells slots 0 0 (F0 m pc ls st0) rest (vp_Sl post a) (fun _ => False))
    (kk : ∀ r : Int64, post r → W p l e R s m args below meth c H locs cells slots Q (F0 m (pc + 3) ls (.long r :: rest))) : W p l e R s m args below meth c H locs cells slots Q (F0 m pc ls st0) := by
  intro T hT X
  obtain ⟨v, st₀, t, T', L, h0, X', hL, e1, e2, ⟨r, hv, hp, hh⟩, st⟩ := hr T hT X
  cases hv
  obtain ⟨t2, a1, b1⟩ := kk r hp T' (by rw [e1, hh, h0]) (Stand.forget X' (fun q h => (hL q h).elim))
  exact ⟨t2, st t2 a1, b1⟩
/-- what a call asks of the start -/
theorem mx_pp {ws wc : va_W} (hB : mx_B p m c cc nL s args own E) (hP : va_P E.1 vwCl ws H) (is : List Nat) (hs : is.filterMap (fun i => ws[i]?) = wc) {av : List Value} : PreS s H (va_Pc av (mx_Pp E wc)) av :=
  ⟨mx_bp, fun U hU hW => ⟨rfl, by rw [hU]; exact hP.sub is hs, mx_KN.warm hW hB.KN⟩⟩
theorem mx_ppV {ws wc : va_W} (hB : mx_B p m c cc nL s args own E) (hP : va_P E.1 vwCl ws H) (is : List Nat) (hs : is.filterMap (fun i => ws[i]?) = wc) (ci : Nat) {q : vw_C} {fs : List Value} (hc : vwCl[ci]? = some q) (hC : q.1 = C) (he : wc[0]? = some (b, .inr (ci, fs))) : PreV s H C b (va_Pc (.ref b :: As) (mx_Pp E wc)) As :=
  ⟨mx_bp, by subst hC; exact va_recv hB.K (hP.sub is hs) hc he, fun U hU hW => ⟨rfl, by rw [hU]; exact hP.sub is hs, mx_KN.warm hW hB.KN⟩⟩
theorem mx_pw {A : Nat → Prop} {ws wc : va_W} (hB : mx_B p m c cc nL s args own E) (hP : va_P E.1 vwCl ws H) (hD : va_D A ws) (is : List Nat) (hn : va_nd is = true) (hs : is.filterMap (fun i => ws[i]?) = wc) (hs2 : is.map (fun i => ws[i]?) = wc.map some) {av : List Value} : PreS s H (va_Pc av (mx_Pw E wc H.size)) av :=
  ⟨mx_bw, fun U hU hW => ⟨rfl, by rw [hU], by rw [hU]; exact hP.sub is hs, mx_KN.warm hW hB.KN, (hD.sub is hn hs2).weaken (fun _ _ _ _ => trivial)⟩⟩
theorem mx_pwV {A : Nat → Prop} {ws wc : va_W} (hB : mx_B p m c cc nL s args own E) (hP : va_P E.1 vwCl ws H) (hD : va_D A ws) (is : List Nat) (hn : va_nd is = true) (hs : is.filterMap (fun i => ws[i]?) = wc) (hs2 : is.map (fun i => ws[i]?) = wc.map some) (ci : Nat) {q : vw_C} {fs : List Value} (hc : vwCl[ci]? = some q) (hC : q.1 = C) (he : wc[0]? = some (b, .inr (ci, fs))) : PreV s H C b (va_Pc (.ref b :: As) (mx_Pw E wc H.size)) As :=
  ⟨mx_bw, by subst hC; exact va_recv hB.K (hP.sub is hs) hc he, fun U hU hW => ⟨rfl, by rw [hU], by rw [hU]; exact hP.sub is hs, mx_KN.warm hW hB.KN, (hD.sub is hn hs2).weaken (fun _ _ _ _ => trivial)⟩⟩
end MXC
/-- the caller's world behind a call: the called one's cells are put back in their places -/
theorem mx_D_addr {A : Nat → Prop} {w1 w2 : va_W} (h : w1.map Prod.fst = w2.map Prod.fst) (hD : va_D A w1) : va_D A w2 := by
  have key : ∀ (k : Nat) (q : Nat × va_E), w2[k]? = some q → ∃ q0, w1[k]? = some q0 ∧ q0.1 = q.1 := by
    intro k q hk
    have h1 : (w1.map Prod.fst)[k]? = some q.1 := by rw [h, List.getElem?_map, hk]; rfl
    rw [List.getElem?_map] at h1
    cases hz : w1[k]? with
    | none => rw [hz] at h1; cases h1
    | some z => rw [hz] at h1; exact ⟨z, rfl, Option.some.inj h1⟩
  refine ⟨fun i j x y hi hj hxy => ?_, fun k q hk => ?_⟩
  · obtain ⟨x0, a1, a2⟩ := key i x hi
    obtain ⟨y0, b1, b2⟩ := key j y hj
    exact hD.1 i j x0 y0 a1 b1 (a2.trans (hxy.trans b2.symm))
  · obtain ⟨x0, a1, a2⟩ := key k q hk
    rw [← a2]; exact hD.2 k x0 a1
def mx_cov (is isR : List Nat) (n : Nat) : Bool := (List.range n).all (fun k => decide (k ∈ is) || decide (k ∈ isR))
theorem mx_back {A0 : Nat → Prop} {D : va_G} {cl : List vw_C} {ws wc w1 ws' : va_W} {H H1 : Heap} (hP : va_P D cl ws H) (hD : va_D A0 ws) (is isR : List Nat) (n : Nat) (hC : is.map (fun i => ws[i]?) = wc.map some)
    (hk : ∀ q : Nat, q < H.size → ¬ va_A wc H.size q → H1[q]? = H[q]?) (hP1 : va_P D cl w1 H1) (hlen : ws'.length = n) (hcov : mx_cov is isR n = true) (h1 : is.map (fun i => ws'[i]?) = w1.map some) (h2 : isR.map (fun i => ws'[i]?) = isR.map (fun i => ws[i]?)) (ha : ws'.map Prod.fst = ws.map Prod.fst) : va_P D cl ws' H1 ∧ va_D A0 ws' := by
  have at' : ∀ {w v : va_W}, is.map (fun i => v[i]?) = w.map some → ∀ (k : Nat) (q : Nat × va_E), w[k]? = some q → ∃ i, is[k]? = some i ∧ v[i]? = some q := by
    intro w v hs k q hq
    have h1 : (is.map (fun i => v[i]?))[k]? = some (some q) := by rw [hs, List.getElem?_map, hq]; rfl
    rw [List.getElem?_map] at h1
    cases hi : is[k]? with
    | none => rw [hi] at h1; cases h1
    | some i => rw [hi] at h1; exact ⟨i, rfl, Option.some.inj h1⟩
  refine ⟨fun k q hq => ?_, mx_D_addr ha.symm hD⟩
  by_cases hki : k ∈ is
  · obtain ⟨j, hj⟩ := List.getElem?_of_mem hki
    have h3 : (is.map (fun i => ws'[i]?))[j]? = some (some q) := by rw [List.getElem?_map, hj]; exact congrArg some hq
    rw [h1, List.getElem?_map] at h3
    cases hz : w1[j]? with
    | none => rw [hz] at h3; cases h3
    | some z =>
      rw [hz] at h3
      have hzq : z = q := Option.some.inj (Option.some.inj h3)
      subst hzq
      exact hP1 j z hz
  · have hkn : k < n := by rw [← hlen]; exact (List.getElem?_eq_some_iff.mp hq).1
    have h4 := List.all_eq_true.mp hcov k (List.mem_range.mpr hkn)
    simp only [Bool.or_eq_true, decide_eq_true_eq] at h4
    rcases h4 with h4 | h4
    · exact absurd h4 hki
    · obtain ⟨j, hj⟩ := List.getElem?_of_mem h4
      have h5 : (isR.map (fun i => ws'[i]?))[j]? = (isR.map (fun i => ws[i]?))[j]? := by rw [h2]
      rw [List.getElem?_map, List.getElem?_map, hj] at h5
      have h6 : ws[k]? = some q := (Option.some.inj h5).symm.trans hq
      have hl := (hP k q h6).lt
      refine (hP k q h6).kept (hk q.1 hl ?_)
      rintro (⟨k2, e, h⟩ | h)
      · obtain ⟨i, e1, e2⟩ := at' hC k2 (q.1, e) h
        have hik := hD.1 k i q (q.1, e) h6 e2 rfl
        subst hik
        exact hki (List.mem_of_getElem? e1)
      · omega
section MXW
variable {p : Program} {l : Launch} {e : Env} {R : Room} {s : State} {m : MethodId} {args : Array Value} {below : List Frame} {meth : Method} {c : Code} {H : Heap} {locs : List Loc} {cells slots pc : Nat} {Q : State → Prop}
variable {rest st0 : List Value} {ls : Array Slot} {E : mx_E} {A : Nat → Prop} {ws wc : va_W} {a : Array Value} {H0 : Heap}
/-- behind a call that may change its world -/
theorem mx_wi {S : Type} {post : Int32 → S → Prop} {w1 : S → va_W} (hr : va_Run p l e R s m args below meth c H locs cells slots 0 0 (F0 m pc ls st0) rest (va_Qi post (fun u t => va_P E.1 vwCl (w1 u) t.heap) (va_A wc H.size) a) (va_A wc H.size)) (hP : va_P E.1 vwCl ws H) (hD : va_D A ws) (hS : va_S A H0 H locs) (hA : ∀ q, H0.size ≤ q → A q) (is isR : List Nat) (n : Nat) (hC : is.map (fun i => ws[i]?) = wc.map some)
    (w2 : S → va_W) (hlen : ∀ u, (w2 u).length = n) (hcov : mx_cov is isR n = true) (hw : ∀ u, is.map (fun i => (w2 u)[i]?) = (w1 u).map some) (hw2 : ∀ u, isR.map (fun i => (w2 u)[i]?) = (isR.filterMap (fun i => ws[i]?)).map some) (hw3 : isR.map (fun i => ws[i]?) = (isR.filterMap (fun i => ws[i]?)).map some) (ha : ∀ u, (w2 u).map Prod.fst = ws.map Prod.fst)
    (kk : ∀ (r : Int32) (u : S) (H1 : Heap) (locs1 : List Loc), post r u → va_P E.1 vwCl (w2 u) H1 → va_D A (w2 u) → va_S A H0 H1 locs1 → W p l e R s m args below meth c H1 locs1 cells slots Q (F0 m (pc + 3) ls (.int r :: rest))) : W p l e R s m args below meth c H locs cells slots Q (F0 m pc ls st0) := by
  have hF := va_free (wc := wc) hD hS hA is hC
  refine va_calli hr hS (fun q _ h => hF q h) hF (fun r u t H1 locs1 ht hvm hw1 hB hz hk hS1 => ?_)
  rw [ht] at hB
  obtain ⟨h1, h2⟩ := mx_back hP hD is isR n hC hk hB (hlen u) hcov (hw u) ((hw2 u).trans hw3.symm) (ha u)
  exact kk r u H1 locs1 hw1 h1 h2 hS1
theorem mx_wv {S : Type} {post : S → Prop} {w1 : S → va_W} (hr : va_Run p l e R s m args below meth c H locs cells slots 0 0 (F0 m pc ls st0) rest (va_Qv post (fun u t => va_P E.1 vwCl (w1 u) t.heap) (va_A wc H.size) a) (va_A wc H.size)) (hP : va_P E.1 vwCl ws H) (hD : va_D A ws) (hS : va_S A H0 H locs) (hA : ∀ q, H0.size ≤ q → A q) (is isR : List Nat) (n : Nat) (hC : is.map (fun i => ws[i]?) = wc.map some)
    (w2 : S → va_W) (hlen : ∀ u, (w2 u).length = n) (hcov : mx_cov is isR n = true) (hw : ∀ u, is.map (fun i => (w2 u)[i]?) = (w1 u).map some) (hw2 : ∀ u, isR.map (fun i => (w2 u)[i]?) = (isR.filterMap (fun i => ws[i]?)).map some) (hw3 : isR.map (fun i => ws[i]?) = (isR.filterMap (fun i => ws[i]?)).map some) (ha : ∀ u, (w2 u).map Prod.fst = ws.map Prod.fst)
    (kk : ∀ (u : S) (H1 : Heap) (locs1 : List Loc), post u → va_P E.1 vwCl (w2 u) H1 → va_D A (w2 u) → va_S A H0 H1 locs1 → W p l e R s m args below meth c H1 locs1 cells slots Q (F0 m (pc + 3) ls rest)) : W p l e R s m args below meth c H locs cells slots Q (F0 m pc ls st0) := by
  have hF := va_free (wc := wc) hD hS hA is hC
  refine va_callv hr hS (fun q _ h => hF q h) hF (fun u t H1 locs1 ht hvm hw1 hB hz hk hS1 => ?_)
  rw [ht] at hB
  obtain ⟨h1, h2⟩ := mx_back hP hD is isR n hC hk hB (hlen u) hcov (hw u) ((hw2 u).trans hw3.symm) (ha u)
  exact kk u H1 locs1 hw1 h1 h2 hS1
end MXW
theorem mx_in_of {ws : List Cond} (h : ws.all (fun w => decide (w ∈ lw_tbl) && goodWord w) = true) : ∀ w ∈ ws, w ∈ mx_WS := by
  intro w hw
  have h1 := List.all_eq_true.mp h w hw
  simp only [Bool.and_eq_true, decide_eq_true_eq] at h1
  exact List.mem_filter.mpr ⟨h1.1, h1.2⟩
theorem mx_out {x : Int32} (lo hi : Int) (ks : List Int32) (h : ∀ k ∈ ks, ¬ x = k) (hk : (List.range (hi - lo + 1).toNat).all (fun j => decide (Int32.ofInt (lo + (j : Int)) ∈ ks)) = true) : x.toInt < lo ∨ hi < x.toInt := by
  by_cases h1 : x.toInt < lo
  · exact Or.inl h1
  · by_cases h2 : hi < x.toInt
    · exact Or.inr h2
    · exfalso
      have h3 := List.all_eq_true.mp hk (x.toInt - lo).toNat (List.mem_range.mpr (by omega))
      simp only [decide_eq_true_eq] at h3
      have h4 : lo + (((x.toInt - lo).toNat : Nat) : Int) = x.toInt := by omega
      rw [h4, Int32.ofInt_toInt] at h3
      exact h x h3 rfl
def mx_two (a b : Nat) : Nat → Option Nat := fun k => if k = 0 then some a else some b
section MXA
variable {p : Program} {l : Launch} {e : Env} {R : Room} {s : State} {m : MethodId} {args : Array Value} {below : List Frame} {meth : Method} {c : Code} {H : Heap} {locs : List Loc} {cells slots pc : Nat} {Q : State → Prop}
variable {cc : ByteArray} {ls : Array Slot} {rest : List Value} {D : va_G} {cl : List vw_C} {a : Nat} {tys : List (ClassId × FieldType)} {ws : va_W}
theorem mx_ald2 (hexec : p.tables.exec = Jvm.exec) (hb : c.code = cc) (hK : va_K D cl tys s) (hP : va_P D cl ws H) (q0 t0 : Nat) {cA : ClassId} {C : String} {a0 a1 : Nat} (ha : ws[q0]? = some (a, .inl (cA, 2, .inr (.inr (.inr (.inr (mx_two a0 a1))))))) (ht : tys[t0]? = some (cA, .object C)) {i : Int32} (hin : vp_in i 2) (hdg : decode cc pc = .ok (.aaload, 1))
    (k0 : i = 0 → W p l e R s m args below meth c H locs cells slots Q (F0 m (pc + 1) ls (.ref a0 :: rest))) (k1 : i = 1 → W p l e R s m args below meth c H locs cells slots Q (F0 m (pc + 1) ls (.ref a1 :: rest))) : W p l e R s m args below meth c H locs cells slots Q (F0 m pc ls (.int i :: .ref a :: rest)) := by
  refine va_aldq hexec hb hK hP q0 t0 ha ht hin hdg ?_
  obtain ⟨j, hj, rfl⟩ := vp_in_of hin (by decide)
  rw [nI_clamp (by omega)]
  rcases (show j = 0 ∨ j = 1 by omega) with rfl | rfl
  · exact k0 rfl
  · exact k1 rfl
end MXA
section MXM
variable {l : Launch} {y : MethodName} {b : ByteArray} {n : Nat} {rm : Room} {E : mx_E} {ws : va_W} {av : List Value} {own : String} {S : Type} {w1 : S → va_W} {sz : Nat}
theorem mx_B.of {p : Program} {e : Env} {s : State} {m : MethodId} {args : Array Value} {below : List Frame} {meth : Method} {c : Code} {s₁ : State} {ret : Option FieldType} (ho : y.cls = own) (B : BodyLoose p l y (headSpec (Cond.code y b n ret :: mx_WS) rm) b n ret e s m args below meth c s₁) (hml : c.maxLocals = n) (hk : mx_KN E s) : mx_B p m c b n s args own E := by
  subst ho
  have hts := atoms_spec (ws := Cond.code y b n ret :: mx_WS) B.pre
  exact ⟨B.exec, B.bytes, hml, findClass_of_methodNamed B.named, fun w hw => hts w (List.mem_cons_of_mem _ hw), hk⟩
theorem mx_metPi {post : Int32 → Prop} (hy : plainName y.cls = true) (ho : y.cls = own) (hn : Nat.ble (lg_sl av).length n = true)
    (body : ∀ {p : Program} {e : Env} {s : State} {m : MethodId} {args : Array Value} {below : List Frame} {meth : Method} {c : Code} {Q : State → Prop}, mx_B p m c b n s args own E → va_P E.1 vwCl ws s.heap → (∀ (v : Int32) (pc : Nat) (ls : Array Slot), decode b pc = .ok (.ireturn, 1) → post v → W p l e rm s m args below meth c s.heap [] 0 0 Q (F0 m pc ls [.int v])) → ∀ (ls : Array Slot), lv_has ls n (lv_args 0 av) → W p l e rm s m args below meth c s.heap [] 0 0 Q (F0 m 0 ls [])) :
    Met l y (Cond.code y b n (some .int) :: mx_WS) rm (va_Pc av (mx_Pp E ws)) (vp_Si post) 0 0 (fun _ => False) := by
  refine Met.ofW (cc := b) (maxL := n) (ret := some .int) hy rfl ?_
  intro p e s m args below meth c s₁ B hml hv
  obtain ⟨rfl, hP, hKN⟩ := hv
  rw [lg_entry_eq]
  exact body (mx_B.of ho B hml hKN) hP (fun v pc ls hd hp => W.iret B.exec B.bytes B.returns (fun t ht hW => ⟨v, rfl, hp, ht⟩) (fun q hq => by cases hq) hd B.notSynchronized) _ (lv_entry av (Nat.le_of_ble_eq_true hn))
theorem mx_nz {v : Int32} (h : v = 0 ∨ v = 1) : narrow .boolean (.int v) = .int v := by rcases h with rfl | rfl <;> rfl
theorem mx_metPz {post : Int32 → Prop} (hy : plainName y.cls = true) (ho : y.cls = own) (hn : Nat.ble (lg_sl av).length n = true)
    (body : ∀ {p : Program} {e : Env} {s : State} {m : MethodId} {args : Array Value} {below : List Frame} {meth : Method} {c : Code} {Q : State → Prop}, mx_B p m c b n s args own E → va_P E.1 vwCl ws s.heap → (∀ (v : Int32) (pc : Nat) (ls : Array Slot), decode b pc = .ok (.ireturn, 1) → (v = 0 ∨ v = 1) → post v → W p l e rm s m args below meth c s.heap [] 0 0 Q (F0 m pc ls [.int v])) → ∀ (ls : Array Slot), lv_has ls n (lv_args 0 av) → W p l e rm s m args below meth c s.heap [] 0 0 Q (F0 m 0 ls [])) :
    Met l y (Cond.code y b n (some .boolean) :: mx_WS) rm (va_Pc av (mx_Pp E ws)) (vp_Si post) 0 0 (fun _ => False) := by
  refine Met.ofW (cc := b) (maxL := n) (ret := some .boolean) hy rfl ?_
  intro p e s m args below meth c s₁ B hml hv
  obtain ⟨rfl, hP, hKN⟩ := hv
  rw [lg_entry_eq]
  exact body (mx_B.of ho B hml hKN) hP (fun v pc ls hd h01 hp => W.zret B.exec B.bytes B.returns (mx_nz h01) (fun t ht hW => ⟨v, rfl, hp, ht⟩) (fun q hq => by cases hq) hd B.notSynchronized) _ (lv_entry av (Nat.le_of_ble_eq_true hn))
theorem mx_metPl {post : Int64 → Prop} (hy : plainName y.cls = true) (ho : y.cls = own) (hn : Nat.ble (lg_sl av).length n = true)
    (body : ∀ {p : Program} {e : Env} {s : State} {m : MethodId} {args : Array Value} {below : List Frame} {meth : Method} {c : Code} {Q : State → Prop}, mx_B p m c b n s args own E → va_P E.1 vwCl ws s.heap → (∀ (v : Int64) (pc : Nat) (ls : Array Slot), decode b pc = .ok (.lreturn, 1) → post v → W p l e rm s m args below meth c s.heap [] 0 0 Q (F0 m pc ls [.long v])) → ∀ (ls : Array Slot), lv_has ls n (lv_args 0 av) → W p l e rm s m args below meth c s.heap [] 0 0 Q (F0 m 0 ls [])) :
    Met l y (Cond.code y b n (some .long) :: mx_WS) rm (va_Pc av (mx_Pp E ws)) (vp_Sl post) 0 0 (fun _ => False) := by
  refine Met.ofW (cc := b) (maxL := n) (ret := some .long) hy rfl ?_
  intro p e s m args below meth c s₁ B hml hv
  obtain ⟨rfl, hP, hKN⟩ := hv
  rw [lg_entry_eq]
  exact body (mx_B.of ho B hml hKN) hP (fun v pc ls hd hp => W.lret B.exec B.bytes B.returns (fun t ht hW => ⟨v, rfl, hp, ht⟩) (fun q hq => by cases hq) hd B.notSynchronized) _ (lv_entry av (Nat.le_of_ble_eq_true hn))
theorem mx_metWi {post : Int32 → S → Prop} (hy : plainName y.cls = true) (ho : y.cls = own) (hn : Nat.ble (lg_sl av).length n = true)
    (body : ∀ {p : Program} {e : Env} {s : State} {m : MethodId} {args : Array Value} {below : List Frame} {meth : Method} {c : Code} {Q : State → Prop} {A : Nat → Prop}, mx_B p m c b n s args own E → va_P E.1 vwCl ws s.heap → va_D A ws → (∀ q : Nat, s.heap.size ≤ q → A q) → (∀ (v : Int32) (u : S) (pc : Nat) (ls : Array Slot) (H : Heap) (locs : List Loc), decode b pc = .ok (.ireturn, 1) → post v u → va_P E.1 vwCl (w1 u) H → va_S A s.heap H locs → W p l e rm s m args below meth c H locs 0 0 Q (F0 m pc ls [.int v])) → ∀ (ls : Array Slot), lv_has ls n (lv_args 0 av) → W p l e rm s m args below meth c s.heap [] 0 0 Q (F0 m 0 ls [])) :
    Met l y (Cond.code y b n (some .int) :: mx_WS) rm (va_Pc av (mx_Pw E ws sz)) (va_Qi post (fun u t => va_P E.1 vwCl (w1 u) t.heap) (va_A ws sz)) 0 0 (va_A ws sz) := by
  refine Met.ofW (cc := b) (maxL := n) (ret := some .int) hy rfl ?_
  intro p e s m args below meth c s₁ B hml hv
  obtain ⟨rfl, hsz, hP, hKN, hD⟩ := hv
  subst hsz
  rw [lg_entry_eq]
  exact body (mx_B.of ho B hml hKN) hP (hD.self (sz := s.heap.size)) (fun q h => Or.inr h) (fun v u pc ls H locs hd hp h1 hS => W.iret B.exec B.bytes B.returns (fun t ht hW => ⟨⟨v, u, rfl, hp, by show va_P E.1 vwCl (w1 u) t.heap; rw [ht]; exact h1⟩, hS.F ht⟩) hS.2.2 hd B.notSynchronized) _ (lv_entry av (Nat.le_of_ble_eq_true hn))
theorem mx_metWz {post : Int32 → S → Prop} (hy : plainName y.cls = true) (ho : y.cls = own) (hn : Nat.ble (lg_sl av).length n = true)
    (body : ∀ {p : Program} {e : Env} {s : State} {m : MethodId} {args : Array Value} {below : List Frame} {meth : Method} {c : Code} {Q : State → Prop} {A : Nat → Prop}, mx_B p m c b n s args own E → va_P E.1 vwCl ws s.heap → va_D A ws → (∀ q : Nat, s.heap.size ≤ q → A q) → (∀ (v : Int32) (u : S) (pc : Nat) (ls : Array Slot) (H : Heap) (locs : List Loc), decode b pc = .ok (.ireturn, 1) → (v = 0 ∨ v = 1) → post v u → va_P E.1 vwCl (w1 u) H → va_S A s.heap H locs → W p l e rm s m args below meth c H locs 0 0 Q (F0 m pc ls [.int v])) → ∀ (ls : Array Slot), lv_has ls n (lv_args 0 av) → W p l e rm s m args below meth c s.heap [] 0 0 Q (F0 m 0 ls [])) :
    Met l y (Cond.code y b n (some .boolean) :: mx_WS) rm (va_Pc av (mx_Pw E ws sz)) (va_Qi post (fun u t => va_P E.1 vwCl (w1 u) t.heap) (va_A ws sz)) 0 0 (va_A ws sz) := by
  refine Met.ofW (cc := b) (maxL := n) (ret := some .boolean) hy rfl ?_
  intro p e s m args below meth c s₁ B hml hv
  obtain ⟨rfl, hsz, hP, hKN, hD⟩ := hv
  subst hsz
  rw [lg_entry_eq]
  exact body (mx_B.of ho B hml hKN) hP (hD.self (sz := s.heap.size)) (fun q h => Or.inr h) (fun v u pc ls H locs hd h01 hp h1 hS => W.zret B.exec B.bytes B.returns (mx_nz h01) (fun t ht hW => ⟨⟨v, u, rfl, hp, by show va_P E.1 vwCl (w1 u) t.heap; rw [ht]; exact h1⟩, hS.F ht⟩) hS.2.2 hd B.notSynchronized) _ (lv_entry av (Nat.le_of_ble_eq_true hn))
theorem mx_metWv {post : S → Prop} (hy : plainName y.cls = true) (ho : y.cls = own) (hn : Nat.ble (lg_sl av).length n = true)
    (body : ∀ {p : Program} {e : Env} {s : State} {m : MethodId} {args : Array Value} {below : List Frame} {meth : Method} {c : Code} {Q : State → Prop} {A : Nat → Prop}, mx_B p m c b n s args own E → va_P E.1 vwCl ws s.heap → va_D A ws → (∀ q : Nat, s.heap.size ≤ q → A q) → (∀ (u : S) (pc : Nat) (ls : Array Slot) (H : Heap) (locs : List Loc), decode b pc = .ok (.return_, 1) → post u → va_P E.1 vwCl (w1 u) H → va_S A s.heap H locs → W p l e rm s m args below meth c H locs 0 0 Q (F0 m pc ls [])) → ∀ (ls : Array Slot), lv_has ls n (lv_args 0 av) → W p l e rm s m args below meth c s.heap [] 0 0 Q (F0 m 0 ls [])) :
    Met l y (Cond.code y b n none :: mx_WS) rm (va_Pc av (mx_Pw E ws sz)) (va_Qv post (fun u t => va_P E.1 vwCl (w1 u) t.heap) (va_A ws sz)) 0 0 (va_A ws sz) := by
  refine Met.ofW (cc := b) (maxL := n) (ret := none) hy rfl ?_
  intro p e s m args below meth c s₁ B hml hv
  obtain ⟨rfl, hsz, hP, hKN, hD⟩ := hv
  subst hsz
  rw [lg_entry_eq]
  exact body (mx_B.of ho B hml hKN) hP (hD.self (sz := s.heap.size)) (fun q h => Or.inr h) (fun u pc ls H locs hd hp h1 hS => W.vret B.exec B.bytes B.returns (fun t ht hW => ⟨⟨u, rfl, hp, by show va_P E.1 vwCl (w1 u) t.heap; rw [ht]; exact h1⟩, hS.F ht⟩) hS.2.2 hd B.notSynchronized) _ (lv_entry av (Nat.le_of_ble_eq_true hn))
end MXM
/-- a loop's predicate, by the step -/
def mx_l1 {A1 : Type} (f : (A1 → Prop) → A1 → Prop) : Nat → A1 → Prop
  | 0, _ => False
  | n + 1, a1 => f (mx_l1 f n) a1
def mx_l2 {A1 A2 : Type} (f : (A1 → A2 → Prop) → A1 → A2 → Prop) : Nat → A1 → A2 → Prop
  | 0, _, _ => False
  | n + 1, a1, a2 => f (mx_l2 f n) a1 a2
def mx_l3 {A1 A2 A3 : Type} (f : (A1 → A2 → A3 → Prop) → A1 → A2 → A3 → Prop) : Nat → A1 → A2 → A3 → Prop
  | 0, _, _, _ => False
  | n + 1, a1, a2, a3 => f (mx_l3 f n) a1 a2 a3
def mx_l4 {A1 A2 A3 A4 : Type} (f : (A1 → A2 → A3 → A4 → Prop) → A1 → A2 → A3 → A4 → Prop) : Nat → A1 → A2 → A3 → A4 → Prop
  | 0, _, _, _, _ => False
  | n + 1, a1, a2, a3, a4 => f (mx_l4 f n) a1 a2 a3 a4
def mx_l5 {A1 A2 A3 A4 A5 : Type} (f : (A1 → A2 → A3 → A4 → A5 → Prop) → A1 → A2 → A3 → A4 → A5 → Prop) : Nat → A1 → A2 → A3 → A4 → A5 → Prop
  | 0, _, _, _, _, _ => False
  | n + 1, a1, a2, a3, a4, a5 => f (mx_l5 f n) a1 a2 a3 a4 a5
def mx_l6 {A1 A2 A3 A4 A5 A6 : Type} (f : (A1 → A2 → A3 → A4 → A5 → A6 → Prop) → A1 → A2 → A3 → A4 → A5 → A6 → Prop) : Nat → A1 → A2 → A3 → A4 → A5 → A6 → Prop
  | 0, _, _, _, _, _, _ => False
  | n + 1, a1, a2, a3, a4, a5, a6 => f (mx_l6 f n) a1 a2 a3 a4 a5 a6
def mx_l7 {A1 A2 A3 A4 A5 A6 A7 : Type} (f : (A1 → A2 → A3 → A4 → A5 → A6 → A7 → Prop) → A1 → A2 → A3 → A4 → A5 → A6 → A7 → Prop) : Nat → A1 → A2 → A3 → A4 → A5 → A6 → A7 → Prop
  | 0, _, _, _, _, _, _, _ => False
  | n + 1, a1, a2, a3, a4, a5, a6, a7 => f (mx_l7 f n) a1 a2 a3 a4 a5 a6 a7
def mx_l8 {A1 A2 A3 A4 A5 A6 A7 A8 : Type} (f : (A1 → A2 → A3 → A4 → A5 → A6 → A7 → A8 → Prop) → A1 → A2 → A3 → A4 → A5 → A6 → A7 → A8 → Prop) : Nat → A1 → A2 → A3 → A4 → A5 → A6 → A7 → A8 → Prop
  | 0, _, _, _, _, _, _, _, _ => False
  | n + 1, a1, a2, a3, a4, a5, a6, a7, a8 => f (mx_l8 f n) a1 a2 a3 a4 a5 a6 a7 a8
def mx_l9 {A1 A2 A3 A4 A5 A6 A7 A8 A9 : Type} (f : (A1 → A2 → A3 → A4 → A5 → A6 → A7 → A8 → A9 → Prop) → A1 → A2 → A3 → A4 → A5 → A6 → A7 → A8 → A9 → Prop) : Nat → A1 → A2 → A3 → A4 → A5 → A6 → A7 → A8 → A9 → Prop
  | 0, _, _, _, _, _, _, _, _, _ => False
  | n + 1, a1, a2, a3, a4, a5, a6, a7, a8, a9 => f (mx_l9 f n) a1 a2 a3 a4 a5 a6 a7 a8 a9
def mx_l10 {A1 A2 A3 A4 A5 A6 A7 A8 A9 A10 : Type} (f : (A1 → A2 → A3 → A4 → A5 → A6 → A7 → A8 → A9 → A10 → Prop) → A1 → A2 → A3 → A4 → A5 → A6 → A7 → A8 → A9 → A10 → Prop) : Nat → A1 → A2 → A3 → A4 → A5 → A6 → A7 → A8 → A9 → A10 → Prop
  | 0, _, _, _, _, _, _, _, _, _, _ => False
  | n + 1, a1, a2, a3, a4, a5, a6, a7, a8, a9, a10 => f (mx_l10 f n) a1 a2 a3 a4 a5 a6 a7 a8 a9 a10
def mx_l11 {A1 A2 A3 A4 A5 A6 A7 A8 A9 A10 A11 : Type} (f : (A1 → A2 → A3 → A4 → A5 → A6 → A7 → A8 → A9 → A10 → A11 → Prop) → A1 → A2 → A3 → A4 → A5 → A6 → A7 → A8 → A9 → A10 → A11 → Prop) : Nat → A1 → A2 → A3 → A4 → A5 → A6 → A7 → A8 → A9 → A10 → A11 → Prop
  | 0, _, _, _, _, _, _, _, _, _, _, _ => False
  | n + 1, a1, a2, a3, a4, a5, a6, a7, a8, a9, a10, a11 => f (mx_l11 f n) a1 a2 a3 a4 a5 a6 a7 a8 a9 a10 a11
def mx_l12 {A1 A2 A3 A4 A5 A6 A7 A8 A9 A10 A11 A12 : Type} (f : (A1 → A2 → A3 → A4 → A5 → A6 → A7 → A8 → A9 → A10 → A11 → A12 → Prop) → A1 → A2 → A3 → A4 → A5 → A6 → A7 → A8 → A9 → A10 → A11 → A12 → Prop) : Nat → A1 → A2 → A3 → A4 → A5 → A6 → A7 → A8 → A9 → A10 → A11 → A12 → Prop
  | 0, _, _, _, _, _, _, _, _, _, _, _, _ => False
  | n + 1, a1, a2, a3, a4, a5, a6, a7, a8, a9, a10, a11, a12 => f (mx_l12 f n) a1 a2 a3 a4 a5 a6 a7 a8 a9 a10 a11 a12
def mx_l13 {A1 A2 A3 A4 A5 A6 A7 A8 A9 A10 A11 A12 A13 : Type} (f : (A1 → A2 → A3 → A4 → A5 → A6 → A7 → A8 → A9 → A10 → A11 → A12 → A13 → Prop) → A1 → A2 → A3 → A4 → A5 → A6 → A7 → A8 → A9 → A10 → A11 → A12 → A13 → Prop) : Nat → A1 → A2 → A3 → A4 → A5 → A6 → A7 → A8 → A9 → A10 → A11 → A12 → A13 → Prop
  | 0, _, _, _, _, _, _, _, _, _, _, _, _, _ => False
  | n + 1, a1, a2, a3, a4, a5, a6, a7, a8, a9, a10, a11, a12, a13 => f (mx_l13 f n) a1 a2 a3 a4 a5 a6 a7 a8 a9 a10 a11 a12 a13
def mx_l14 {A1 A2 A3 A4 A5 A6 A7 A8 A9 A10 A11 A12 A13 A14 : Type} (f : (A1 → A2 → A3 → A4 → A5 → A6 → A7 → A8 → A9 → A10 → A11 → A12 → A13 → A14 → Prop) → A1 → A2 → A3 → A4 → A5 → A6 → A7 → A8 → A9 → A10 → A11 → A12 → A13 → A14 → Prop) : Nat → A1 → A2 → A3 → A4 → A5 → A6 → A7 → A8 → A9 → A10 → A11 → A12 → A13 → A14 → Prop
  | 0, _, _, _, _, _, _, _, _, _, _, _, _, _, _ => False
  | n + 1, a1, a2, a3, a4, a5, a6, a7, a8, a9, a10, a11, a12, a13, a14 => f (mx_l14 f n) a1 a2 a3 a4 a5 a6 a7 a8 a9 a10 a11 a12 a13 a14
def mx_l15 {A1 A2 A3 A4 A5 A6 A7 A8 A9 A10 A11 A12 A13 A14 A15 : Type} (f : (A1 → A2 → A3 → A4 → A5 → A6 → A7 → A8 → A9 → A10 → A11 → A12 → A13 → A14 → A15 → Prop) → A1 → A2 → A3 → A4 → A5 → A6 → A7 → A8 → A9 → A10 → A11 → A12 → A13 → A14 → A15 → Prop) : Nat → A1 → A2 → A3 → A4 → A5 → A6 → A7 → A8 → A9 → A10 → A11 → A12 → A13 → A14 → A15 → Prop
  | 0, _, _, _, _, _, _, _, _, _, _, _, _, _, _, _ => False
  | n + 1, a1, a2, a3, a4, a5, a6, a7, a8, a9, a10, a11, a12, a13, a14, a15 => f (mx_l15 f n) a1 a2 a3 a4 a5 a6 a7 a8 a9 a10 a11 a12 a13 a14 a15
def mx_l16 {A1 A2 A3 A4 A5 A6 A7 A8 A9 A10 A11 A12 A13 A14 A15 A16 : Type} (f : (A1 → A2 → A3 → A4 → A5 → A6 → A7 → A8 → A9 → A10 → A11 → A12 → A13 → A14 → A15 → A16 → Prop) → A1 → A2 → A3 → A4 → A5 → A6 → A7 → A8 → A9 → A10 → A11 → A12 → A13 → A14 → A15 → A16 → Prop) : Nat → A1 → A2 → A3 → A4 → A5 → A6 → A7 → A8 → A9 → A10 → A11 → A12 → A13 → A14 → A15 → A16 → Prop
  | 0, _, _, _, _, _, _, _, _, _, _, _, _, _, _, _, _ => False
  | n + 1, a1, a2, a3, a4, a5, a6, a7, a8, a9, a10, a11, a12, a13, a14, a15, a16 => f (mx_l16 f n) a1 a2 a3 a4 a5 a6 a7 a8 a9 a10 a11 a12 a13 a14 a15 a16
