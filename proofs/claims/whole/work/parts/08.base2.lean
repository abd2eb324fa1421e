/-! the String constants of the reader, and the JDK's methods that are asked of them -/
def mx_sw : Nat → List Int32
  | 0 => [114, 111, 111, 109]
  | 1 => [114, 111, 111, 102]
  | 2 => [99, 101, 108, 108, 97, 114]
  | 3 => [98, 101, 108, 108, 115]
  | 4 => [102, 111, 108, 107]
  | 5 => [106, 97, 99, 107, 115]
  | 6 => [115, 111, 102, 116]
  | 7 => [119, 105, 110, 100]
  | 8 => [97, 98, 111, 118, 101]
  | _ => [115, 105, 116, 101]
def mx_st : Nat → String
  | 0 => "room"
  | 1 => "roof"
  | 2 => "cellar"
  | 3 => "bells"
  | 4 => "folk"
  | 5 => "jacks"
  | 6 => "soft"
  | 7 => "wind"
  | 8 => "above"
  | _ => "site"
def mx_si : Nat → Nat
  | 0 => 103
  | 1 => 105
  | 2 => 107
  | 3 => 109
  | 4 => 111
  | 5 => 113
  | 6 => 115
  | 7 => 117
  | 8 => 119
  | _ => 121
/-- which constant the reader spells a word by -/
def mx_sk (x : Int32) : Nat := if x = 0 then 0 else if x = 1 then 1 else if x = 2 then 2 else if x = 3 then 3 else if x = 4 then 4 else if x = 5 then 5 else if x = 6 then 6 else if x = 7 then 7 else if x = 8 then 8 else 9
def mx_StrA (a : Nat) (wd : List Int32) (A : Nat → Prop) (U : State) (H : Heap) : Prop := ∃ v : Nat, va_O "java/lang/String" a A U H ∧ va_OF "java/lang/String" "coder" "B" (.int 0) a A U H ∧ va_OF "java/lang/String" "value" "[B" (.ref v) a A U H ∧ va_T .byte v wd.length (fun j => .int (wd.getD j 0)) A U H
def mx_Js (A : Nat → Prop) (U : State) (H : Heap) : Prop := va_Z "java/lang/String" "COMPACT_STRINGS" "Z" (.int 1) A U H ∧ va_Zq "jdk/internal/util/Preconditions" "SIOOBE_FORMATTER" "Ljava/util/function/BiFunction;" A U H
theorem mx_StrA.moved {a : Nat} {wd : List Int32} {A : Nat → Prop} {u U : State} {H : Heap} (hvm : u.vm.Alike U.vm) (h : mx_StrA a wd A u H) : mx_StrA a wd A U H := by
  obtain ⟨v, h1, h2, h3, h4⟩ := h
  exact ⟨v, h1.moved hvm, h2.moved hvm, h3.moved hvm, h4.moved hvm⟩
theorem mx_StrA.kept {a : Nat} {wd : List Int32} {A : Nat → Prop} {U : State} {H H1 : Heap} (h : mx_StrA a wd A U H) (hq : ∀ a : Nat, a < H.size → ¬ A a → H1[a]? = H[a]?) : mx_StrA a wd A U H1 := by
  obtain ⟨v, h1, h2, h3, h4⟩ := h
  exact ⟨v, h1.kept hq, h2.kept hq, h3.kept hq, h4.kept hq⟩
theorem mx_StrA.narrow {a : Nat} {wd : List Int32} {A B : Nat → Prop} {U : State} {H : Heap} (h : mx_StrA a wd A U H) (hAB : ∀ q, B q → A q) : mx_StrA a wd B U H := by
  obtain ⟨v, h1, h2, h3, h4⟩ := h
  exact ⟨v, h1.narrow hAB, h2.narrow hAB, h3.narrow hAB, h4.narrow hAB⟩
theorem mx_Js.moved {A : Nat → Prop} {u U : State} {H : Heap} (hvm : u.vm.Alike U.vm) (h : mx_Js A u H) : mx_Js A U H := ⟨h.1.moved hvm, h.2.moved hvm⟩
theorem mx_Js.kept {A : Nat → Prop} {U : State} {H H1 : Heap} (h : mx_Js A U H) (hq : ∀ a : Nat, a < H.size → ¬ A a → H1[a]? = H[a]?) : mx_Js A U H1 := ⟨h.1.kept hq, h.2.kept hq⟩
theorem mx_Js.narrow {A B : Nat → Prop} {U : State} {H : Heap} (h : mx_Js A U H) (hAB : ∀ q, B q → A q) : mx_Js B U H := ⟨h.1.narrow hAB, h.2.narrow hAB⟩
/-- a String that is asked of, where nothing changes -/
def mx_Str (a : Nat) (wd : List Int32) (U : State) : Prop := mx_StrA a wd (fun _ => False) U U.heap ∧ mx_Js (fun _ => False) U U.heap
theorem mx_Str.to {a : Nat} {wd : List Int32} {u U : State} (hvm : u.vm.Alike U.vm) (hh : U.heap = u.heap) (h : mx_Str a wd u) : mx_Str a wd U := by
  unfold mx_Str
  rw [hh]
  exact ⟨h.1.moved hvm, h.2.moved hvm⟩
/-- all ten, apart from A -/
def mx_ZH (Z : (Nat → Nat) × (Nat → Nat)) (A : Nat → Prop) (U : State) (H : Heap) : Prop := (∀ k : Nat, k < 10 → vk_R RX0 (mx_si k) (mx_st k) (Z.1 k) U) ∧ (∀ k : Nat, k < 10 → mx_StrA (Z.1 k) (mx_sw k) A U H) ∧ mx_Js A U H
def mx_Z (Z : (Nat → Nat) × (Nat → Nat)) (A : Nat → Prop) (U : State) : Prop := mx_ZH Z A U U.heap
theorem mx_ZH.warm {Z : (Nat → Nat) × (Nat → Nat)} {A : Nat → Prop} {u U : State} {H : Heap} (hW : u.WarmedH U.vm) (h : mx_ZH Z A u H) : mx_ZH Z A U H := ⟨fun k hk => (h.1 k hk).warm hW, fun k hk => (h.2.1 k hk).moved hW.alike, h.2.2.moved hW.alike⟩
theorem mx_ZH.same {Z : (Nat → Nat) × (Nat → Nat)} {A : Nat → Prop} {u U : State} {H : Heap} (hv : u.vm = U.vm) (h : mx_ZH Z A u H) : mx_ZH Z A U H := ⟨fun k hk => (h.1 k hk).same hv.symm, fun k hk => (h.2.1 k hk).moved (by rw [hv]; exact Vm.Alike.refl _), h.2.2.moved (by rw [hv]; exact Vm.Alike.refl _)⟩
theorem mx_ZH.kept {Z : (Nat → Nat) × (Nat → Nat)} {A : Nat → Prop} {U : State} {H H1 : Heap} (h : mx_ZH Z A U H) (hq : ∀ a : Nat, a < H.size → ¬ A a → H1[a]? = H[a]?) : mx_ZH Z A U H1 := ⟨h.1, fun k hk => (h.2.1 k hk).kept hq, h.2.2.kept hq⟩
theorem mx_ZH.narrow {Z : (Nat → Nat) × (Nat → Nat)} {A B : Nat → Prop} {U : State} {H : Heap} (h : mx_ZH Z A U H) (hAB : ∀ q, B q → A q) : mx_ZH Z B U H := ⟨h.1, fun k hk => (h.2.1 k hk).narrow hAB, h.2.2.narrow hAB⟩
theorem mx_Z.at {Z : (Nat → Nat) × (Nat → Nat)} {A : Nat → Prop} {s : State} {H : Heap} {locs : List Loc} (h : mx_Z Z A s) (hS : va_S A s.heap H locs) : mx_ZH Z (fun _ => False) s H := (mx_ZH.kept h hS.2.1).narrow (fun _ h => h.elim)
theorem mx_Z.nar {Z : (Nat → Nat) × (Nat → Nat)} {A B : Nat → Prop} {s : State} {H : Heap} {locs : List Loc} (h : mx_Z Z A s) (hS : va_S A s.heap H locs) (hAB : ∀ q, B q → A q) : mx_ZH Z B s H := (mx_ZH.kept h hS.2.1).narrow hAB
/-- starts with an extra of the state -/
def mx_Px (X : State → Prop) (E : mx_E) (U : State) : Prop := X U ∧ mx_KN E U
def mx_Bl (X : State → Prop) : Prop := ∀ (U : State) (g : JFrame) (mk : MethodId) (a : Array Value), X U → X (U.calling g mk a)
theorem mx_bx {E : mx_E} {X : State → Prop} (h : mx_Bl X) {av : List Value} : FrameBlind (va_Pc av (mx_Px X E)) := fun _ U g mk q => ⟨q.1, h U g mk _ q.2.1, mx_KN.same (s := U) (U := U.calling g mk _) rfl q.2.2⟩
theorem mx_Str.bl {a : Nat} {wd : List Int32} : mx_Bl (mx_Str a wd) := fun U g mk b h => mx_Str.to (u := U) (U := U.calling g mk b) (Vm.Alike.refl U.vm) rfl h
section MXS
variable {p : Program} {l : Launch} {e : Env} {s : State} {m : MethodId} {args : Array Value} {c : Code} {H : Heap} {cc : ByteArray} {nL : Nat} {own C : String} {E : mx_E} {b : Addr} {As : List Value} {X : State → Prop}
theorem mx_px (hB : mx_B p m c cc nL s args own E) (hbl : mx_Bl X) (hX : ∀ U : State, U.heap = H → s.WarmedH U.vm → X U) {av : List Value} : PreS s H (va_Pc av (mx_Px X E)) av :=
  ⟨mx_bx hbl, fun U hU hW => ⟨rfl, hX U hU hW, mx_KN.warm hW hB.KN⟩⟩
theorem mx_pxV (hB : mx_B p m c cc nL s args own E) (hbl : mx_Bl X) (hX : ∀ U : State, U.heap = H → s.WarmedH U.vm → X U) (hr : ∃ cell : Cell, H[b]? = some cell ∧ cell.vm.isStatics = false ∧ s.vm.findClass C = some cell.cls) : PreV s H C b (va_Pc (.ref b :: As) (mx_Px X E)) As :=
  ⟨mx_bx hbl, hr, fun U hU hW => ⟨rfl, hX U hU hW, mx_KN.warm hW hB.KN⟩⟩
theorem mx_Str.rc {a : Nat} {wd : List Int32} (h : mx_Str a wd s) : ∃ cell : Cell, s.heap[a]? = some cell ∧ cell.vm.isStatics = false ∧ s.vm.findClass "java/lang/String" = some cell.cls := by
  obtain ⟨⟨v, ⟨cell, h1, h2, h3, -⟩, -⟩, -⟩ := h
  exact ⟨cell, h1, h2, h3⟩
theorem mx_ppS {a : Nat} {wd : List Int32} (hB : mx_B p m c cc nL s args own E) (h : mx_Str a wd s) : PreV s s.heap "java/lang/String" a (va_Pc (.ref a :: As) (mx_Px (mx_Str a wd) E)) As :=
  mx_pxV hB mx_Str.bl (fun U hU hW => h.to hW.alike hU) h.rc
end MXS
section MXX
variable {l : Launch} {y : MethodName} {b : ByteArray} {n : Nat} {rm : Room} {E : mx_E} {av : List Value} {own : String} {X : State → Prop}
theorem mx_metX {post : Int32 → Prop} {ty : FieldType} (hy : plainName y.cls = true) (ho : y.cls = own) (hn : Nat.ble (lg_sl av).length n = true)
    (body : ∀ {p : Program} {e : Env} {s : State} {m : MethodId} {args : Array Value} {below : List Frame} {meth : Method} {c : Code} {Q : State → Prop}, mx_B p m c b n s args own E → X s → (∀ (v : Int32) (pc : Nat) (ls : Array Slot), decode b pc = .ok (.ireturn, 1) → narrow ty (.int v) = .int v → post v → W p l e rm s m args below meth c s.heap [] 0 0 Q (F0 m pc ls [.int v])) → ∀ (ls : Array Slot), lv_has ls n (lv_args 0 av) → W p l e rm s m args below meth c s.heap [] 0 0 Q (F0 m 0 ls [])) :
    Met l y (Cond.code y b n (some ty) :: mx_WS) rm (va_Pc av (mx_Px X E)) (vp_Si post) 0 0 (fun _ => False) := by
  refine Met.ofW (cc := b) (maxL := n) (ret := some ty) hy rfl ?_
  intro p e s m args below meth c s₁ B hml hv
  obtain ⟨rfl, hP, hKN⟩ := hv
  rw [lg_entry_eq]
  exact body (mx_B.of ho B hml hKN) hP (fun v pc ls hd hz hp => W.zret B.exec B.bytes B.returns hz (fun t ht hW => ⟨v, rfl, hp, ht⟩) (fun q hq => by cases hq) hd B.notSynchronized) _ (lv_entry av (Nat.le_of_ble_eq_true hn))
theorem mx_metXv {post : Unit → Prop} (hy : plainName y.cls = true) (ho : y.cls = own) (hn : Nat.ble (lg_sl av).length n = true)
    (body : ∀ {p : Program} {e : Env} {s : State} {m : MethodId} {args : Array Value} {below : List Frame} {meth : Method} {c : Code} {Q : State → Prop}, mx_B p m c b n s args own E → X s → (∀ (pc : Nat) (ls : Array Slot), decode b pc = .ok (.return_, 1) → post () → W p l e rm s m args below meth c s.heap [] 0 0 Q (F0 m pc ls [])) → ∀ (ls : Array Slot), lv_has ls n (lv_args 0 av) → W p l e rm s m args below meth c s.heap [] 0 0 Q (F0 m 0 ls [])) :
    Met l y (Cond.code y b n none :: mx_WS) rm (va_Pc av (mx_Px X E)) (va_Sv post) 0 0 (fun _ => False) := by
  refine Met.ofW (cc := b) (maxL := n) (ret := none) hy rfl ?_
  intro p e s m args below meth c s₁ B hml hv
  obtain ⟨rfl, hP, hKN⟩ := hv
  rw [lg_entry_eq]
  exact body (mx_B.of ho B hml hKN) hP (fun pc ls hd hp => W.vret B.exec B.bytes B.returns (fun t ht hW => ⟨rfl, hp, ht⟩) (fun q hq => by cases hq) hd B.notSynchronized) _ (lv_entry av (Nat.le_of_ble_eq_true hn))
end MXX
section MXV
variable {p : Program} {l : Launch} {e : Env} {R : Room} {s : State} {m : MethodId} {args : Array Value} {below : List Frame} {meth : Method} {c : Code} {H : Heap} {locs : List Loc} {cells slots pc : Nat} {Q : State → Prop} {rest st0 : List Value} {ls : Array Slot}
theorem mx_gv {post : Unit → Prop} {a : Array Value} (hr : va_Run p l e R s m args below meth c H locs cells slots 0 0 (F0 m pc ls st0) rest (va_Sv post a) (fun _ => False))
    (kk : post () → W p l e R s m args below meth c H locs cells slots Q (F0 m (pc + 3) ls rest)) : W p l e R s m args below meth c H locs cells slots Q (F0 m pc ls st0) := by
  intro T hT X
  obtain ⟨v, st₀, t, T', L, h0, X', hL, e1, e2, ⟨hv, hp, hh⟩, st⟩ := hr T hT X
  cases hv
  obtain ⟨t2, a1, b1⟩ := kk hp T' (by rw [e1, hh, h0]) (Stand.forget X' (fun q h => (hL q h).elim))
  exact ⟨t2, st t2 a1, b1⟩
/-- an answer that is a known reference -/
def mx_Sr (q : Nat) : Array Value → State → Outcome → State → Prop := fun _ st o t => o = .returned (some (.ref q)) ∧ t.heap = st.heap
theorem mx_gr {q : Nat} {a : Array Value} (hr : va_Run p l e R s m args below meth c H locs cells slots 0 0 (F0 m pc ls st0) rest (mx_Sr q a) (fun _ => False))
    (kk : W p l e R s m args below meth c H locs cells slots Q (F0 m (pc + 3) ls (.ref q :: rest))) : W p l e R s m args below meth c H locs cells slots Q (F0 m pc ls st0) := by
  intro T hT X
  obtain ⟨v, st₀, t, T', L, h0, X', hL, e1, e2, ⟨hv, hh⟩, st⟩ := hr T hT X
  cases hv
  obtain ⟨t2, a1, b1⟩ := kk T' (by rw [e1, hh, h0]) (Stand.forget X' (fun q h => (hL q h).elim))
  exact ⟨t2, st t2 a1, b1⟩
end MXV
/-- starts of methods that need the String constants -/
def mx_Pwz (E : mx_E) (Z : (Nat → Nat) × (Nat → Nat)) (ws : va_W) (sz : Nat) (U : State) : Prop := mx_Pw E ws sz U ∧ mx_ZH Z (va_A ws sz) U U.heap
def mx_Xs (E : mx_E) (ws : va_W) (a : Nat) (wd : List Int32) (U : State) : Prop := va_P E.1 vwCl ws U.heap ∧ mx_Str a wd U
def mx_Xz (E : mx_E) (ws : va_W) (Z : (Nat → Nat) × (Nat → Nat)) (U : State) : Prop := va_P E.1 vwCl ws U.heap ∧ mx_ZH Z (fun _ => False) U U.heap
def mx_Xc (Z : (Nat → Nat) × (Nat → Nat)) (U : State) : Prop := mx_ZH Z (fun _ => False) U U.heap
theorem mx_Xs.bl {E : mx_E} {ws : va_W} {a : Nat} {wd : List Int32} : mx_Bl (mx_Xs E ws a wd) := fun U g mk b h => ⟨h.1, mx_Str.bl U g mk b h.2⟩
theorem mx_Xc.bl {Z : (Nat → Nat) × (Nat → Nat)} : mx_Bl (mx_Xc Z) := fun U g mk b h => mx_ZH.same (u := U) (U := U.calling g mk b) rfl h
theorem mx_Xz.bl {E : mx_E} {ws : va_W} {Z : (Nat → Nat) × (Nat → Nat)} : mx_Bl (mx_Xz E ws Z) := fun U g mk b h => ⟨h.1, mx_Xc.bl U g mk b h.2⟩
theorem mx_bwz {E : mx_E} {Z : (Nat → Nat) × (Nat → Nat)} {ws : va_W} {sz : Nat} {av : List Value} : FrameBlind (va_Pc av (mx_Pwz E Z ws sz)) := fun a U g mk q => ⟨q.1, (mx_bw (av := av) a U g mk ⟨q.1, q.2.1⟩).2, mx_ZH.same (u := U) (U := U.calling g mk a) rfl q.2.2⟩
theorem mx_ZH.str {Z : (Nat → Nat) × (Nat → Nat)} {s : State} (h : mx_ZH Z (fun _ => False) s s.heap) {k : Nat} (hk : k < 10) : mx_Str (Z.1 k) (mx_sw k) s := ⟨h.2.1 k hk, h.2.2⟩
theorem mx_sk_lt (x : Int32) : mx_sk x < 10 := by unfold mx_sk; repeat' split
                                                  all_goals omega
section MXZ
variable {p : Program} {l : Launch} {e : Env} {s : State} {m : MethodId} {args : Array Value} {c : Code} {H : Heap} {cc : ByteArray} {nL : Nat} {own C : String} {E : mx_E} {b : Addr} {As : List Value} {Z : (Nat → Nat) × (Nat → Nat)} {ws wc : va_W}
theorem mx_ppVs {a : Nat} {wd : List Int32} (hB : mx_B p m c cc nL s args own E) (hP : va_P E.1 vwCl ws s.heap) (hz : mx_Str a wd s) (is : List Nat) (hs : is.filterMap (fun i => ws[i]?) = wc) (ci : Nat) {q : vw_C} {fs : List Value} (hc : vwCl[ci]? = some q) (hC : q.1 = C) (he : wc[0]? = some (b, .inr (ci, fs))) : PreV s s.heap C b (va_Pc (.ref b :: As) (mx_Px (mx_Xs E wc a wd) E)) As :=
  mx_pxV hB mx_Xs.bl (fun U hU hW => ⟨by rw [hU]; exact hP.sub is hs, hz.to hW.alike hU⟩) (by subst hC; exact va_recv hB.K (hP.sub is hs) hc he)
theorem mx_ppVz (hB : mx_B p m c cc nL s args own E) (hP : va_P E.1 vwCl ws H) (hZ : mx_ZH Z (fun _ => False) s H) (is : List Nat) (hs : is.filterMap (fun i => ws[i]?) = wc) (ci : Nat) {q : vw_C} {fs : List Value} (hc : vwCl[ci]? = some q) (hC : q.1 = C) (he : wc[0]? = some (b, .inr (ci, fs))) : PreV s H C b (va_Pc (.ref b :: As) (mx_Px (mx_Xz E wc Z) E)) As :=
  mx_pxV hB mx_Xz.bl (fun U hU hW => ⟨by rw [hU]; exact hP.sub is hs, by rw [hU]; exact hZ.warm hW⟩) (by subst hC; exact va_recv hB.K (hP.sub is hs) hc he)
theorem mx_pwVz {A : Nat → Prop} (hB : mx_B p m c cc nL s args own E) (hP : va_P E.1 vwCl ws H) (hD : va_D A ws) (hZ : mx_ZH Z (va_A wc H.size) s H) (is : List Nat) (hn : va_nd is = true) (hs : is.filterMap (fun i => ws[i]?) = wc) (hs2 : is.map (fun i => ws[i]?) = wc.map some) (ci : Nat) {q : vw_C} {fs : List Value} (hc : vwCl[ci]? = some q) (hC : q.1 = C) (he : wc[0]? = some (b, .inr (ci, fs))) : PreV s H C b (va_Pc (.ref b :: As) (mx_Pwz E Z wc H.size)) As :=
  ⟨mx_bwz, by subst hC; exact va_recv hB.K (hP.sub is hs) hc he, fun U hU hW => ⟨rfl, ⟨by rw [hU], by rw [hU]; exact hP.sub is hs, mx_KN.warm hW hB.KN, (hD.sub is hn hs2).weaken (fun _ _ _ _ => trivial)⟩, by rw [hU]; exact hZ.warm hW⟩⟩
end MXZ
section MXMZ
variable {l : Launch} {y : MethodName} {b : ByteArray} {n : Nat} {rm : Room} {E : mx_E} {ws : va_W} {av : List Value} {own : String} {S : Type} {w1 : S → va_W} {sz : Nat} {Z : (Nat → Nat) × (Nat → Nat)}
theorem mx_metWiz {post : Int32 → S → Prop} (hy : plainName y.cls = true) (ho : y.cls = own) (hn : Nat.ble (lg_sl av).length n = true)
    (body : ∀ {p : Program} {e : Env} {s : State} {m : MethodId} {args : Array Value} {below : List Frame} {meth : Method} {c : Code} {Q : State → Prop} {A : Nat → Prop}, mx_B p m c b n s args own E → va_P E.1 vwCl ws s.heap → va_D A ws → (∀ q : Nat, s.heap.size ≤ q → A q) → mx_Z Z A s → (∀ (v : Int32) (u : S) (pc : Nat) (ls : Array Slot) (H : Heap) (locs : List Loc), decode b pc = .ok (.ireturn, 1) → post v u → va_P E.1 vwCl (w1 u) H → va_S A s.heap H locs → W p l e rm s m args below meth c H locs 0 0 Q (F0 m pc ls [.int v])) → ∀ (ls : Array Slot), lv_has ls n (lv_args 0 av) → W p l e rm s m args below meth c s.heap [] 0 0 Q (F0 m 0 ls [])) :
    Met l y (Cond.code y b n (some .int) :: mx_WS) rm (va_Pc av (mx_Pwz E Z ws sz)) (va_Qi post (fun u t => va_P E.1 vwCl (w1 u) t.heap) (va_A ws sz)) 0 0 (va_A ws sz) := by
  refine Met.ofW (cc := b) (maxL := n) (ret := some .int) hy rfl ?_
  intro p e s m args below meth c s₁ B hml hv
  obtain ⟨rfl, ⟨hsz, hP, hKN, hD⟩, hZ⟩ := hv
  subst hsz
  rw [lg_entry_eq]
  exact body (mx_B.of ho B hml hKN) hP (hD.self (sz := s.heap.size)) (fun q h => Or.inr h) hZ (fun v u pc ls H locs hd hp h1 hS => W.iret B.exec B.bytes B.returns (fun t ht hW => ⟨⟨v, u, rfl, hp, by show va_P E.1 vwCl (w1 u) t.heap; rw [ht]; exact h1⟩, hS.F ht⟩) hS.2.2 hd B.notSynchronized) _ (lv_entry av (Nat.le_of_ble_eq_true hn))
theorem mx_metWzz {post : Int32 → S → Prop} (hy : plainName y.cls = true) (ho : y.cls = own) (hn : Nat.ble (lg_sl av).length n = true)
    (body : ∀ {p : Program} {e : Env} {s : State} {m : MethodId} {args : Array Value} {below : List Frame} {meth : Method} {c : Code} {Q : State → Prop} {A : Nat → Prop}, mx_B p m c b n s args own E → va_P E.1 vwCl ws s.heap → va_D A ws → (∀ q : Nat, s.heap.size ≤ q → A q) → mx_Z Z A s → (∀ (v : Int32) (u : S) (pc : Nat) (ls : Array Slot) (H : Heap) (locs : List Loc), decode b pc = .ok (.ireturn, 1) → (v = 0 ∨ v = 1) → post v u → va_P E.1 vwCl (w1 u) H → va_S A s.heap H locs → W p l e rm s m args below meth c H locs 0 0 Q (F0 m pc ls [.int v])) → ∀ (ls : Array Slot), lv_has ls n (lv_args 0 av) → W p l e rm s m args below meth c s.heap [] 0 0 Q (F0 m 0 ls [])) :
    Met l y (Cond.code y b n (some .boolean) :: mx_WS) rm (va_Pc av (mx_Pwz E Z ws sz)) (va_Qi post (fun u t => va_P E.1 vwCl (w1 u) t.heap) (va_A ws sz)) 0 0 (va_A ws sz) := by
  refine Met.ofW (cc := b) (maxL := n) (ret := some .boolean) hy rfl ?_
  intro p e s m args below meth c s₁ B hml hv
  obtain ⟨rfl, ⟨hsz, hP, hKN, hD⟩, hZ⟩ := hv
  subst hsz
  rw [lg_entry_eq]
  exact body (mx_B.of ho B hml hKN) hP (hD.self (sz := s.heap.size)) (fun q h => Or.inr h) hZ (fun v u pc ls H locs hd h01 hp h1 hS => W.zret B.exec B.bytes B.returns (mx_nz h01) (fun t ht hW => ⟨⟨v, u, rfl, hp, by show va_P E.1 vwCl (w1 u) t.heap; rw [ht]; exact h1⟩, hS.F ht⟩) hS.2.2 hd B.notSynchronized) _ (lv_entry av (Nat.le_of_ble_eq_true hn))
end MXMZ
