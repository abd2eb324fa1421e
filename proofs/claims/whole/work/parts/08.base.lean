/-! the bundle that every contract asks for, and calls by contract over it -/
def mx_isNest : Cond → Bool
  | .fieldLinkNest .. => true
  | .methodLinkNest .. => true
  | _ => false
def mx_WS : List Cond := lw_tbl.filter goodWord
def mx_NL : List Cond := lw_tbl.filter mx_isNest
def mx_NW (U : State) : Prop := ∀ w ∈ mx_NL, va_Nw w U
theorem mx_NW.warm {s U : State} (hW : s.WarmedH U.vm) (h : mx_NW s) : mx_NW U := by
  intro w hw
  have h2 := (List.mem_filter.mp hw).2
  have h3 := h w hw
  cases w <;> first | exact va_Nw.warmF hW h3 | exact va_Nw.warmM hW h3 | exact absurd h2 (by simp [mx_isNest])
theorem mx_NW.same {s U : State} (hv : s.vm = U.vm) (h : mx_NW s) : mx_NW U := by
  intro w hw
  have h2 := (List.mem_filter.mp hw).2
  have h3 := h w hw
  cases w <;> first | exact va_Nw.same rfl hv h3 | exact absurd h2 (by simp [mx_isNest])
abbrev mx_E : Type := va_G × (Nat → ClassId)
def mx_tys (E : mx_E) : List (ClassId × FieldType) := [(E.2 0, .int), (E.2 1, .char), (E.2 2, .boolean), (E.2 3, .object "TopDownTowers$Tower")]
def mx_KN (E : mx_E) (U : State) : Prop := va_K E.1 vwCl (mx_tys E) U ∧ mx_NW U
theorem mx_KN.warm {E : mx_E} {s U : State} (hW : s.WarmedH U.vm) (h : mx_KN E s) : mx_KN E U := ⟨va_K.moved hW.alike h.1, mx_NW.warm hW h.2⟩
theorem mx_KN.same {E : mx_E} {s U : State} (hv : s.vm = U.vm) (h : mx_KN E s) : mx_KN E U := ⟨va_K.moved (by rw [hv]; exact Vm.Alike.refl _) h.1, mx_NW.same hv h.2⟩
/-- starts: of a method that changes nothing, and of one that may -/
def mx_Pp (E : mx_E) (ws : va_W) (U : State) : Prop := va_P E.1 vwCl ws U.heap ∧ mx_KN E U
def mx_Pw (E : mx_E) (ws : va_W) (sz : Nat) (U : State) : Prop := U.heap.size = sz ∧ va_P E.1 vwCl ws U.heap ∧ mx_KN E U ∧ va_D (fun _ => True) ws
theorem mx_bp {E : mx_E} {ws : va_W} {av : List Value} : FrameBlind (va_Pc av (mx_Pp E ws)) := fun _ U g mk q => ⟨q.1, q.2.1, mx_KN.same (s := U) (U := U.calling g mk _) rfl q.2.2⟩
theorem mx_bw {E : mx_E} {ws : va_W} {sz : Nat} {av : List Value} : FrameBlind (va_Pc av (mx_Pw E ws sz)) := fun _ U g mk q => ⟨q.1, q.2.1, q.2.2.1, mx_KN.same (s := U) (U := U.calling g mk _) rfl q.2.2.2.1, q.2.2.2.2⟩
/-- what holds throughout a method's body -/
def mx_B (p : Program) (m : MethodId) (c : Code) (cc : ByteArray) (nL : Nat) (s : State) (args : Array Value) (own : String) (E : mx_E) : Prop :=
  p.tables.exec = Jvm.exec ∧ c.code = cc ∧ c.maxLocals = nL ∧ s.vm.findClass own = some m.cls ∧ (∀ w ∈ mx_WS, w.before args s = true) ∧ mx_KN E s
section MXB
variable {p : Program} {m : MethodId} {c : Code} {cc : ByteArray} {nL : Nat} {s : State} {args : Array Value} {own : String} {E : mx_E}
theorem mx_B.x (h : mx_B p m c cc nL s args own E) : p.tables.exec = Jvm.exec := h.1
theorem mx_B.b (h : mx_B p m c cc nL s args own E) : c.code = cc := h.2.1
theorem mx_B.l (h : mx_B p m c cc nL s args own E) : c.maxLocals = nL := h.2.2.1
theorem mx_B.o (h : mx_B p m c cc nL s args own E) : s.vm.findClass own = some m.cls := h.2.2.2.1
theorem mx_B.w (h : mx_B p m c cc nL s args own E) {w : Cond} (hw : w ∈ mx_WS) : w.before args s = true := h.2.2.2.2.1 w hw
theorem mx_B.t (h : mx_B p m c cc nL s args own E) : ∀ w ∈ mx_WS, w.before args s = true := h.2.2.2.2.1
theorem mx_B.K (h : mx_B p m c cc nL s args own E) : va_K E.1 vwCl (mx_tys E) s := h.2.2.2.2.2.1
theorem mx_B.N (h : mx_B p m c cc nL s args own E) {w : Cond} (hw : w ∈ mx_NL) : va_Nw w s := h.2.2.2.2.2.2 w hw
theorem mx_B.KN (h : mx_B p m c cc nL s args own E) : mx_KN E s := h.2.2.2.2.2
end MXB
theorem mx_good : GoodIn mx_WS mx_WS := fun w hw => ⟨hw, good_of_word (List.mem_filter.mp hw).2⟩
theorem mx_goodC {y : MethodName} {b : ByteArray} {n : Nat} {r : Option FieldType} (h : Cond.code y b n r ∈ mx_WS) : GoodIn mx_WS (Cond.code y b n r :: mx_WS) := fun w hw => (List.mem_cons.mp hw).elim (fun e => by subst e; exact mx_good _ h) (fun h => mx_good w h)
/-- what the tables say of a called method -/
def mx_sB (y : MethodName) (b : ByteArray) (n : Nat) (r : Option FieldType) (k : Nat) : Prop := Cond.code y b n r ∈ mx_WS ∧ Cond.initialized y.cls ∈ mx_WS ∧ (y.cls ≠ "java/lang/invoke/MethodHandle" ∧ y.cls ≠ "java/lang/invoke/VarHandle" ∧ (parseMethodDescriptor y.desc).map (fun d => d.parameters.length) = some k)
def mx_sV (C : String) (y : MethodName) : Prop := Cond.instanceMethod y ∈ mx_WS ∧ Cond.selects C y y ∈ mx_WS
section MXC
variable {p : Program} {l : Launch} {e : Env} {R : Room} {s : State} {m : MethodId} {args : Array Value} {below : List Frame} {meth : Method} {c : Code} {H : Heap} {locs : List Loc} {cells slots : Nat} {Q : State → Prop}
variable {cc bytes : ByteArray} {nL maxL idx mc ms pc : Nat} {own C : String} {y : MethodName} {ret : Option FieldType} {rm : Room} {Pc : Array Value → State → Prop} {Qc : Array Value → State → Outcome → State → Prop} {free : Addr → Prop}
variable {b : Addr} {As rest st0 : List Value} {ls : Array Slot} {E : mx_E}
/-- rooms: the called one's and the caller's -/
def mx_rm (rm R : Room) (maxL mc ms : Nat) : Bool := decide (rm.cells = mc) && decide (rm.slots = ms) && decide (rm.frames + 1 ≤ R.frames) && decide (8 + (maxL + 11) + rm.locals ≤ R.locals)
theorem mx_rm.to (h : mx_rm rm R maxL mc ms = true) : rm.cells = mc ∧ rm.slots = ms ∧ (rm.frames + 1 ≤ R.frames ∧ 8 + (maxL + 11) + rm.locals ≤ R.locals) := by
  simp only [mx_rm, Bool.and_eq_true, decide_eq_true_eq] at h
  exact ⟨h.1.1.1, h.1.1.2, h.1.2, h.2⟩
def mx_cat (rest : List Value) : Bool := decide ((rest.map fun v => v.category).sum ≤ 8)
theorem mx_runV (hB : mx_B p m c cc nL s args own E) (hM : Met l y (Cond.code y bytes maxL ret :: mx_WS) rm Pc Qc mc ms free) (hs : mx_sB y bytes maxL ret As.length) (hv : mx_sV C y) (hk : Cond.methodLink own idx y ∈ mx_WS) (hrm : mx_rm rm R maxL mc ms = true)
    (hp : PreV s H C b Pc As) (hsize : ls.size = nL) (hst : st0 = As.reverse ++ .ref b :: rest) (hcat : (rest.map fun v => v.category).sum ≤ 8) (hdg : decode cc pc = .ok (.invokevirtual idx, 3)) (hf : cells + mc ≤ R.cells ∧ slots + ms ≤ R.slots) :
    va_Run p l e R s m args below meth c H locs cells slots mc ms (F0 m pc ls st0) rest (Qc (Value.ref b :: As).toArray) free :=
  va_runV ⟨hB.x, hB.b, hB.l, hB.o, hB.t⟩ hM ⟨callB_of As.length hB.t (mx_goodC hs.1) rfl (mx_rm.to hrm).1 (mx_rm.to hrm).2.1 (hB.w hs.2.1) (hB.w hk) hs.2.2 (mx_rm.to hrm).2.2, hB.w hv.1, hB.w hv.2⟩ hp rfl rfl hsize hst (lv_room hcat) hdg hf
theorem mx_runN {host : String} (hB : mx_B p m c cc nL s args own E) (hM : Met l y (Cond.code y bytes maxL ret :: mx_WS) rm Pc Qc mc ms free) (hs : mx_sB y bytes maxL ret As.length) (hv : mx_sV C y) (hk : Cond.methodLinkNest own idx y host ∈ mx_NL) (hrm : mx_rm rm R maxL mc ms = true)
    (hp : PreV s H C b Pc As) (hsize : ls.size = nL) (hst : st0 = As.reverse ++ .ref b :: rest) (hcat : (rest.map fun v => v.category).sum ≤ 8) (hdg : decode cc pc = .ok (.invokevirtual idx, 3)) (hf : cells + mc ≤ R.cells ∧ slots + ms ≤ R.slots) :
    va_Run p l e R s m args below meth c H locs cells slots mc ms (F0 m pc ls st0) rest (Qc (Value.ref b :: As).toArray) free :=
  va_runVN ⟨hB.x, hB.b, hB.l, hB.o, hB.t⟩ hM ⟨va_cnB As.length hB.t (mx_goodC hs.1) rfl (mx_rm.to hrm).1 (mx_rm.to hrm).2.1 (hB.N hk) (hB.w hs.2.1) hs.2.2 (mx_rm.to hrm).2.2, hB.w hv.1, hB.w hv.2⟩ hp rfl rfl hsize hst (lv_room hcat) hdg hf
theorem mx_runS (hB : mx_B p m c cc nL s args own E) (hM : Met l y (Cond.code y bytes maxL ret :: mx_WS) rm Pc Qc mc ms free) (hs : mx_sB y bytes maxL ret As.length) (hv : Cond.static y ∈ mx_WS) (hk : Cond.methodLink own idx y ∈ mx_WS) (hrm : mx_rm rm R maxL mc ms = true)
    (hp : PreS s H Pc As) (hsize : ls.size = nL) (hst : st0 = As.reverse ++ rest) (hcat : (rest.map fun v => v.category).sum ≤ 8) (hdg : decode cc pc = .ok (.invokestatic idx, 3)) (hf : cells + mc ≤ R.cells ∧ slots + ms ≤ R.slots) :
    va_Run p l e R s m args below meth c H locs cells slots mc ms (F0 m pc ls st0) rest (Qc As.toArray) free :=
  va_runS ⟨hB.x, hB.b, hB.l, hB.o, hB.t⟩ hM ⟨callB_of As.length hB.t (mx_goodC hs.1) rfl (mx_rm.to hrm).1 (mx_rm.to hrm).2.1 (hB.w hs.2.1) (hB.w hk) hs.2.2 (mx_rm.to hrm).2.2, hB.w hv⟩ hp rfl rfl hsize hst (lv_room hcat) hdg hf
/-- behind a call that changes nothing -/
theorem mx_gi {post : Int32 → Prop} {a : Array Value} (hr : va_Run p l e R s m args below meth c H locs cells slots 0 0 (F0 m pc ls st0) rest (vp_Si post a) (fun _ => False))
    (kk : ∀ r : Int32, post r → W p l e R s m args below meth c H locs cells slots Q (F0 m (pc + 3) ls (.int r :: rest))) : W p l e R s m args below meth c H locs cells slots Q (F0 m pc ls st0) := by
  intro T hT X
  obtain ⟨v, st₀, t, T', L, h0, X', hL, e1, e2, ⟨r, hv, hp, hh⟩, st⟩ := hr T hT X
  cases hv
  obtain ⟨t2, a1, b1⟩ := kk r hp T' (by rw [e1, hh, h0]) (Stand.forget X' (fun q h => (hL q h).elim))
  exact ⟨t2, st t2 a1, b1⟩
theorem mx_gl {post : Int64 → Prop} {a : Array Value} (hr : va_Run p l e R s m args below meth c H locs cells slots 0 0 (F0 m pc ls st0) rest (vp_Sl post a) (fun _ => False))
    (kk : ∀ r : Int64, post r → W p l e R s m args below meth c H locs cells slots Q (F0 m (pc + 3) ls (.long r :: rest))) : W p l e R s m args below meth c H locs cells slots Q (F0 m pc ls st0) := by
  intro T hT X
  obtain ⟨v, st₀, t, T', L, h0, X', hL, e1, e2, ⟨r, hv, hp, hh⟩, st⟩ := hr T hT X
  cases hv
  obtain ⟨t2, a1, b1⟩ := kk r hp T' (by rw [e1, hh, h0]) (Stand.forget X' (fun q h => (hL q h).elim))
  exact ⟨t2, st t2 a1, b1⟩
/-- what a call asks of the start -/
theorem mx_pp {ws wc : va_W} (hB : mx_B p m c cc nL s args own E) (hP : va_P E.1 vwCl ws H) (is : List Nat) (hs : is.filterMap (fun i => ws[i]?) = wc) {av : List Value} : PreS s H (va_Pc av (mx_Pp E wc)) av :=
  ⟨mx_bp, fun U hU hW => ⟨rfl, by rw [hU]; exact hP.sub is hs, mx_KN.warm hW hB.KN⟩⟩
theorem mx_ppV {ws wc : va_W} (hB : mx_B p m c cc nL s args own E) (hP : va_P E.1 vwCl ws H) (is : List Nat) (hs : is.filterMap (fun i => ws[i]?) = wc) (ci : Nat) {q : vw_C} {fs : List Value} (hc : vwCl[ci]? = some q) (hC : q.1 = C) (he : wc[0]? = some (b, .inr (ci, fs))) : PreV s H C b (va_Pc (.ref b :: As) (mx_Pp E wc)) As :=
  ⟨mx_bp, by subst hC; exact va_recv hB.K (hP.sub is hs) hc he, fun U hU hW => ⟨rfl, by rw [hU]; exact hP.sub is hs, mx_KN.warm hW hB.KN⟩⟩
theorem mx_pw {A : Nat → Prop} {ws wc : va_W} (hB : mx_B p m c cc nL s args own E) (hP : va_P E.1 vwCl ws H) (hD : va_D A ws) (is : List Nat) (hn : va_nd is = true) (hs : is.filterMap (fun i => ws[i]?) = wc) (hs2 : is.map (fun i => ws[i]?) = wc.map some) {av : List Value} : PreS s H (va_Pc av (mx_Pw E wc H.size)) av :=
  ⟨mx_bw, fun U hU hW => ⟨rfl, by rw [hU], by rw [hU]; exact hP.sub is hs, mx_KN.warm hW hB.KN, (hD.sub is hn hs2).weaken (fun _ _ _ _ => trivial)⟩⟩
theorem mx_pwV {A : Nat → Prop} {ws wc : va_W} (hB : mx_B p m c cc nL s args own E) (hP : va_P E.1 vwCl ws H) (hD : va_D A ws) (is : List Nat) (hn : va_nd is = true) (hs : is.filterMap (fun i => ws[i]?) = wc) (hs2 : is.map (fun i => ws[i]?) = wc.map some) (ci : Nat) {q : vw_C} {fs : List Value} (hc : vwCl[ci]? = some q) (hC : q.1 = C) (he : wc[0]? = some (b, .inr (ci, fs))) : PreV s H C b (va_Pc (.ref b :: As) (mx_Pw E wc H.size)) As :=
  ⟨mx_bw, by subst hC; exact va_recv hB.K (hP.sub is hs) hc he, fun U hU hW => ⟨rfl, by rw [hU], by rw [hU]; exact hP.sub is hs, mx_KN.warm hW hB.KN, (hD.sub is hn hs2).weaken (fun _ _ _ _ => trivial)⟩⟩
end MXC
/-- the caller's world behind a call: the called one's cells are put back in their places -/
theorem mx_D_addr {A : Nat → Prop} {w1 w2 : va_W} (h : w1.map Prod.fst = w2.map Prod.fst) (hD : va_D A w1) : va_D A w2 := by
  have key : ∀ (k : Nat) (q : Nat × va_E), w2[k]? = some q → ∃ q0, w1[k]? = some q0 ∧ q0.1 = q.1 := by
    intro k q hk
    have h1 : (w1.map Prod.fst)[k]? = some q.1 := by rw [h, List.getElem?_map, hk]; rfl
    rw [List.getElem?_map] at h1
    cases hz : w1[k]? with
    | none => rw [hz] at h1; cases h1
    | some z => rw [hz] at h1; exact ⟨z, rfl, Option.some.inj h1⟩
  refine ⟨fun i j x y hi hj hxy => ?_, fun k q hk => ?_⟩
  · obtain ⟨x0, a1, a2⟩ := key i x hi
    obtain ⟨y0, b1, b2⟩ := key j y hj
    exact hD.1 i j x0 y0 a1 b1 (a2.trans (hxy.trans b2.symm))
  · obtain ⟨x0, a1, a2⟩ := key k q hk
    rw [← a2]; exact hD.2 k x0 a1
def mx_put (ws : va_W) : List Nat → va_W → va_W
  | i :: is, q :: w => mx_put (ws.set i q) is w
  | _, _ => ws
theorem mx_put_at : ∀ (is : List Nat) (w1 ws : va_W) (k : Nat) (q : Nat × va_E), (mx_put ws is w1)[k]? = some q → (∃ j, is[j]? = some k ∧ w1[j]? = some q) ∨ (ws[k]? = some q ∧ (∀ j, is[j]? = some k → w1.length ≤ j))
  | [], w1, ws, k, q, h => Or.inr ⟨by cases w1 <;> exact h, fun j hj => by simp at hj⟩
  | i :: is, [], ws, k, q, h => Or.inr ⟨h, fun j _ => Nat.zero_le j⟩
  | i :: is, x :: w1, ws, k, q, h => by
    rcases mx_put_at is w1 (ws.set i x) k q h with ⟨j, h1, h2⟩ | ⟨h1, h2⟩
    · exact Or.inl ⟨j + 1, h1, h2⟩
    · by_cases hik : i = k
      · subst hik
        have hl : i < ws.length := by
          have := (List.getElem?_eq_some_iff.mp h1).1
          simpa using this
        rw [List.getElem?_set_self hl] at h1
        exact Or.inl ⟨0, rfl, h1⟩
      · rw [List.getElem?_set_ne hik] at h1
        refine Or.inr ⟨h1, fun j hj => ?_⟩
        cases j with
        | zero => exact absurd (Option.some.inj hj) hik
        | succ j => exact Nat.succ_le_succ (h2 j hj)
theorem mx_back {A0 : Nat → Prop} {D : va_G} {cl : List vw_C} {ws wc w1 ws' : va_W} {H H1 : Heap} (hP : va_P D cl ws H) (hD : va_D A0 ws) (is : List Nat) (hC : is.map (fun i => ws[i]?) = wc.map some) (hadr : w1.map Prod.fst = wc.map Prod.fst)
    (hk : ∀ q : Nat, q < H.size → ¬ va_A wc H.size q → H1[q]? = H[q]?) (hP1 : va_P D cl w1 H1) (hw : mx_put ws is w1 = ws') (ha : ws'.map Prod.fst = ws.map Prod.fst) : va_P D cl ws' H1 ∧ va_D A0 ws' := by
  subst hw
  refine ⟨fun k q hq => ?_, mx_D_addr ha.symm hD⟩
  rcases mx_put_at is w1 ws k q hq with ⟨j, -, h2⟩ | ⟨h1, h2⟩
  · exact hP1 j q h2
  · have hl := (hP k q h1).lt
    refine (hP k q h1).kept (hk q.1 hl ?_)
    rintro (⟨k2, e, h⟩ | h)
    · have h3 : (is.map (fun i => ws[i]?))[k2]? = some (some (q.1, e)) := by rw [hC, List.getElem?_map, h]; rfl
      rw [List.getElem?_map] at h3
      cases hi : is[k2]? with
      | none => rw [hi] at h3; cases h3
      | some i =>
        rw [hi] at h3
        have h4 : ws[i]? = some (q.1, e) := Option.some.inj h3
        have hik := hD.1 k i q (q.1, e) h1 h4 rfl
        subst hik
        have h5 := h2 k2 hi
        have h6 : k2 < wc.length := (List.getElem?_eq_some_iff.mp h).1
        have h7 : w1.length = wc.length := by have := congrArg List.length hadr; simpa using this
        omega
    · omega
section MXW
variable {p : Program} {l : Launch} {e : Env} {R : Room} {s : State} {m : MethodId} {args : Array Value} {below : List Frame} {meth : Method} {c : Code} {H : Heap} {locs : List Loc} {cells slots pc : Nat} {Q : State → Prop}
variable {rest st0 : List Value} {ls : Array Slot} {E : mx_E} {A : Nat → Prop} {ws wc : va_W} {a : Array Value} {H0 : Heap}
/-- behind a call that may change its world -/
theorem mx_wi {S : Type} {post : Int32 → S → Prop} {w1 : S → va_W} (hr : va_Run p l e R s m args below meth c H locs cells slots 0 0 (F0 m pc ls st0) rest (va_Qi post (fun u t => va_P E.1 vwCl (w1 u) t.heap) (va_A wc H.size) a) (va_A wc H.size)) (hP : va_P E.1 vwCl ws H) (hD : va_D A ws) (hS : va_S A H0 H locs) (hA : ∀ q, H0.size ≤ q → A q) (is : List Nat) (hC : is.map (fun i => ws[i]?) = wc.map some) (hadr : ∀ u, (w1 u).map Prod.fst = wc.map Prod.fst)
    (w2 : S → va_W) (hw : ∀ u, mx_put ws is (w1 u) = w2 u) (ha : ∀ u, (w2 u).map Prod.fst = ws.map Prod.fst)
    (kk : ∀ (r : Int32) (u : S) (H1 : Heap) (locs1 : List Loc), post r u → va_P E.1 vwCl (w2 u) H1 → va_D A (w2 u) → va_S A H0 H1 locs1 → W p l e R s m args below meth c H1 locs1 cells slots Q (F0 m (pc + 3) ls (.int r :: rest))) : W p l e R s m args below meth c H locs cells slots Q (F0 m pc ls st0) := by
  have hF := va_free (wc := wc) hD hS hA is hC
  refine va_calli hr hS (fun q _ h => hF q h) hF (fun r u t H1 locs1 ht hvm hw1 hB hz hk hS1 => ?_)
  rw [ht] at hB
  obtain ⟨h1, h2⟩ := mx_back hP hD is hC (hadr u) hk hB (hw u) (ha u)
  exact kk r u H1 locs1 hw1 h1 h2 hS1
theorem mx_wv {S : Type} {post : S → Prop} {w1 : S → va_W} (hr : va_Run p l e R s m args below meth c H locs cells slots 0 0 (F0 m pc ls st0) rest (va_Qv post (fun u t => va_P E.1 vwCl (w1 u) t.heap) (va_A wc H.size) a) (va_A wc H.size)) (hP : va_P E.1 vwCl ws H) (hD : va_D A ws) (hS : va_S A H0 H locs) (hA : ∀ q, H0.size ≤ q → A q) (is : List Nat) (hC : is.map (fun i => ws[i]?) = wc.map some) (hadr : ∀ u, (w1 u).map Prod.fst = wc.map Prod.fst)
    (w2 : S → va_W) (hw : ∀ u, mx_put ws is (w1 u) = w2 u) (ha : ∀ u, (w2 u).map Prod.fst = ws.map Prod.fst)
    (kk : ∀ (u : S) (H1 : Heap) (locs1 : List Loc), post u → va_P E.1 vwCl (w2 u) H1 → va_D A (w2 u) → va_S A H0 H1 locs1 → W p l e R s m args below meth c H1 locs1 cells slots Q (F0 m (pc + 3) ls rest)) : W p l e R s m args below meth c H locs cells slots Q (F0 m pc ls st0) := by
  have hF := va_free (wc := wc) hD hS hA is hC
  refine va_callv hr hS (fun q _ h => hF q h) hF (fun u t H1 locs1 ht hvm hw1 hB hz hk hS1 => ?_)
  rw [ht] at hB
  obtain ⟨h1, h2⟩ := mx_back hP hD is hC (hadr u) hk hB (hw u) (ha u)
  exact kk u H1 locs1 hw1 h1 h2 hS1
end MXW
/-- a loop's predicate, by the step -/
def mx_l1 {A : Type} (f : (A → Prop) → A → Prop) : Nat → A → Prop
  | 0, _ => False
  | n + 1, a => f (mx_l1 f n) a
def mx_l2 {A B : Type} (f : (A → B → Prop) → A → B → Prop) : Nat → A → B → Prop
  | 0, _, _ => False
  | n + 1, a, b => f (mx_l2 f n) a b
def mx_l3 {A B C : Type} (f : (A → B → C → Prop) → A → B → C → Prop) : Nat → A → B → C → Prop
  | 0, _, _, _ => False
  | n + 1, a, b, c => f (mx_l3 f n) a b c
def mx_l4 {A B C D : Type} (f : (A → B → C → D → Prop) → A → B → C → D → Prop) : Nat → A → B → C → D → Prop
  | 0, _, _, _, _ => False
  | n + 1, a, b, c, d => f (mx_l4 f n) a b c d
def mx_l5 {A B C D E : Type} (f : (A → B → C → D → E → Prop) → A → B → C → D → E → Prop) : Nat → A → B → C → D → E → Prop
  | 0, _, _, _, _, _ => False
  | n + 1, a, b, c, d, e => f (mx_l5 f n) a b c d e
def mx_l6 {A B C D E F : Type} (f : (A → B → C → D → E → F → Prop) → A → B → C → D → E → F → Prop) : Nat → A → B → C → D → E → F → Prop
  | 0, _, _, _, _, _, _ => False
  | n + 1, a, b, c, d, e, g => f (mx_l6 f n) a b c d e g
def mx_l7 {A B C D E F G : Type} (f : (A → B → C → D → E → F → G → Prop) → A → B → C → D → E → F → G → Prop) : Nat → A → B → C → D → E → F → G → Prop
  | 0, _, _, _, _, _, _, _ => False
  | n + 1, a, b, c, d, e, g, h => f (mx_l7 f n) a b c d e g h
