def rm_X0_step : Room := { frames := 1, cells := 0, slots := 0, locals := 24 }
set_option maxHeartbeats 4000000 in
set_option maxRecDepth 100000 in
theorem b_X0_step {p : Program} {l : Launch} {e : Env} {s : State} {m : MethodId} {args : Array Value} {below : List Frame} {meth : Method} {c : Code} {Q : State → Prop} {A : Nat → Prop} (E : mx_E) (a_t : Nat) (a_text : Nat) (a_draft : Nat) (a_numbers : Nat) (a_text_bytes : Nat) (v_lines : Int32) (v_start : Int32) (v_end : Int32) (v_text_length : Int32) (v_text_bytes : (Nat → Int32))  (post : Int32 → Int32 → Prop) (hB : mx_B p m c cX0_step 1 s args RX0 E) (hP : va_P E.1 vwCl (w_X0_step E a_t a_text a_draft a_numbers a_text_bytes v_lines v_start v_end v_text_length v_text_bytes) s.heap) (hD : va_D A (w_X0_step E a_t a_text a_draft a_numbers a_text_bytes v_lines v_start v_end v_text_length v_text_bytes)) (hA : ∀ q : Nat, s.heap.size ≤ q → A q) (hRet : ∀ (u : Int32 × Int32) (pc : Nat) (ls : Array Slot) (H : Heap) (locs : List Loc), decode cX0_step pc = .ok (.return_, 1) → post u.1 u.2 → va_P E.1 vwCl (w_X0_step E a_t a_text a_draft a_numbers a_text_bytes v_lines u.1 u.2 v_text_length v_text_bytes) H → va_S A s.heap H locs → W p l e rm_X0_step s m args below meth c H locs 0 0 Q (F0 m pc ls [])) (hf : f_X0_step v_text_length v_text_bytes v_start v_end post) (ls : Array Slot) (hl : lv_has ls 1 [(0, .ref a_t)]) : W p l e rm_X0_step s m args below meth c s.heap [] 0 0 Q (F0 m 0 ls []) := by
  have hx := hB.x
  have hb := hB.b
  have hS : va_S A s.heap s.heap [] := va_S.rf
  obtain ⟨H, locs, eH, eL⟩ : ∃ (H : Heap) (locs : List Loc), H = s.heap ∧ locs = [] := ⟨_, _, rfl, rfl⟩
  rw [← eH] at hP
  have hS : va_S A s.heap H locs := by rw [eH, eL]; exact hS
  show W p l e rm_X0_step s m args below meth c s.heap [] 0 0 Q (F0 m 0 ls [])
  rw [← eH, ← eL]
  unfold f_X0_step at hf
  refine lv_aload_n hx hb dX0_step_0 rfl (lv_at hl 0 rfl) ?_
  refine lv_aload_n hx hb dX0_step_1 rfl (lv_at hl 0 rfl) ?_
  refine gf_X0_22 hB hP 0 rfl rfl dX0_step_2 ?_
  refine lv_aload_n hx hb dX0_step_5 rfl (lv_at hl 0 rfl) ?_
  refine gf_X0_30 hB hP 0 rfl rfl dX0_step_6 ?_
  refine lv_bipush hx hb dX0_step_9 kc_b_32 ?_
  refine lv_bipush hx hb dX0_step_11 kc_b_32 ?_
  refine mx_gi (mx_runN (As := [.int v_end, .int 32, .int 32]) (rest := [.ref a_t]) hB (c_X2_endOfThose l E a_text a_text_bytes v_text_length v_text_bytes v_end 32 32 _ hf) sB_X2_endOfThose sV_X2_endOfThose wmn_X0_56 rfl (mx_ppV hB hP [1, 2] rfl 2 rfl rfl rfl) hl.1 rfl (Nat.le_of_ble_eq_true rfl) dX0_step_13 ⟨Nat.zero_le _, Nat.zero_le _⟩) (fun r1 hf => ?_)
  refine pf_X0_44 hB hP hD hS 0 rfl (Nat.le_of_ble_eq_true rfl) dX0_step_16 (w_X0_step E a_t a_text a_draft a_numbers a_text_bytes v_lines r1 v_end v_text_length v_text_bytes) rfl (fun H locs hP hD hS => ?_)
  refine lv_aload_n hx hb dX0_step_19 rfl (lv_at hl 0 rfl) ?_
  refine gf_X0_22 hB hP 0 rfl rfl dX0_step_20 ?_
  refine lv_aload_n hx hb dX0_step_23 rfl (lv_at hl 0 rfl) ?_
  refine gf_X0_44 hB hP 0 rfl rfl dX0_step_24 ?_
  refine lv_bipush hx hb dX0_step_27 kc_b_97 ?_
  refine lv_bipush hx hb dX0_step_29 kc_b_122 ?_
  refine mx_gi (mx_runN (As := [.int r1, .int 97, .int 122]) (rest := []) hB (c_X2_isBetween l E a_text a_text_bytes v_text_length v_text_bytes r1 97 122 _ hf) sB_X2_isBetween sV_X2_isBetween wmn_X0_52 rfl (mx_ppV hB hP [1, 2] rfl 2 rfl rfl rfl) hl.1 rfl (Nat.le_of_ble_eq_true rfl) dX0_step_31 ⟨Nat.zero_le _, Nat.zero_le _⟩) (fun r2 hf => ?_)
  refine lv_if_eq (tgt := 59) hx hb dX0_step_34 (by decide) (fun c34 => ?_) (fun c34 => ?_)
  · have hf := hf.1 c34
    refine lv_aload_n hx hb dX0_step_59 rfl (lv_at hl 0 rfl) ?_
    refine gf_X0_22 hB hP 0 rfl rfl dX0_step_60 ?_
    refine lv_aload_n hx hb dX0_step_63 rfl (lv_at hl 0 rfl) ?_
    refine gf_X0_44 hB hP 0 rfl rfl dX0_step_64 ?_
    refine lv_bipush hx hb dX0_step_67 kc_b_48 ?_
    refine lv_bipush hx hb dX0_step_69 kc_b_57 ?_
    refine mx_gi (mx_runN (As := [.int r1, .int 48, .int 57]) (rest := []) hB (c_X2_isBetween l E a_text a_text_bytes v_text_length v_text_bytes r1 48 57 _ hf) sB_X2_isBetween sV_X2_isBetween wmn_X0_52 rfl (mx_ppV hB hP [1, 2] rfl 2 rfl rfl rfl) hl.1 rfl (Nat.le_of_ble_eq_true rfl) dX0_step_71 ⟨Nat.zero_le _, Nat.zero_le _⟩) (fun r3 hf => ?_)
    refine lv_if_eq (tgt := 99) hx hb dX0_step_74 (by decide) (fun c74 => ?_) (fun c74 => ?_)
    · have hf := hf.1 c74
      refine lv_aload_n hx hb dX0_step_99 rfl (lv_at hl 0 rfl) ?_
      refine lv_aload_n hx hb dX0_step_100 rfl (lv_at hl 0 rfl) ?_
      refine gf_X0_44 hB hP 0 rfl rfl dX0_step_101 ?_
      refine lv_iconst hx hb dX0_step_104 kc_i_1 ?_
      refine lv_iadd hx hb dX0_step_105 ?_
      refine lv_aload_n hx hb dX0_step_106 rfl (lv_at hl 0 rfl) ?_
      refine gf_X0_22 hB hP 0 rfl rfl dX0_step_107 ?_
      refine gf_X0_47 hB hP 1 rfl rfl dX0_step_110 ?_
      refine va_mmin hx hb (by rw [hB.l, hl.1]) hB.o (hB.w wml_X0_60) (hB.w wst_mmin) (hB.w win_math) (hB.w wcd_mmin) (by decide) (Nat.le_of_ble_eq_true rfl) (Nat.zero_le _) (Nat.zero_le _) dX0_step_113 ?_
      refine pf_X0_30 hB hP hD hS 0 rfl (Nat.le_of_ble_eq_true rfl) dX0_step_116 (w_X0_step E a_t a_text a_draft a_numbers a_text_bytes v_lines r1 (if v_text_length < (r1 + 1) then v_text_length else (r1 + 1)) v_text_length v_text_bytes) rfl (fun H locs hP hD hS => ?_)
      exact hRet (r1, if v_text_length < (r1 + 1) then v_text_length else (r1 + 1)) 119 ls H locs dX0_step_119 hf hP hS
    · have hf := hf.2 c74
      refine lv_aload_n hx hb dX0_step_77 rfl (lv_at hl 0 rfl) ?_
      refine lv_aload_n hx hb dX0_step_78 rfl (lv_at hl 0 rfl) ?_
      refine gf_X0_22 hB hP 0 rfl rfl dX0_step_79 ?_
      refine lv_aload_n hx hb dX0_step_82 rfl (lv_at hl 0 rfl) ?_
      refine gf_X0_44 hB hP 0 rfl rfl dX0_step_83 ?_
      refine lv_bipush hx hb dX0_step_86 kc_b_48 ?_
      refine lv_bipush hx hb dX0_step_88 kc_b_57 ?_
      refine mx_gi (mx_runN (As := [.int r1, .int 48, .int 57]) (rest := [.ref a_t]) hB (c_X2_endOfThose l E a_text a_text_bytes v_text_length v_text_bytes r1 48 57 _ hf) sB_X2_endOfThose sV_X2_endOfThose wmn_X0_56 rfl (mx_ppV hB hP [1, 2] rfl 2 rfl rfl rfl) hl.1 rfl (Nat.le_of_ble_eq_true rfl) dX0_step_90 ⟨Nat.zero_le _, Nat.zero_le _⟩) (fun r4 hf => ?_)
      refine pf_X0_30 hB hP hD hS 0 rfl (Nat.le_of_ble_eq_true rfl) dX0_step_93 (w_X0_step E a_t a_text a_draft a_numbers a_text_bytes v_lines r1 r4 v_text_length v_text_bytes) rfl (fun H locs hP hD hS => ?_)
      refine lv_goto (tgt := 119) hx hb dX0_step_96 (by decide) ?_
      exact hRet (r1, r4) 119 ls H locs dX0_step_119 hf hP hS
  · have hf := hf.2 c34
    refine lv_aload_n hx hb dX0_step_37 rfl (lv_at hl 0 rfl) ?_
    refine lv_aload_n hx hb dX0_step_38 rfl (lv_at hl 0 rfl) ?_
    refine gf_X0_22 hB hP 0 rfl rfl dX0_step_39 ?_
    refine lv_aload_n hx hb dX0_step_42 rfl (lv_at hl 0 rfl) ?_
    refine gf_X0_44 hB hP 0 rfl rfl dX0_step_43 ?_
    refine lv_bipush hx hb dX0_step_46 kc_b_97 ?_
    refine lv_bipush hx hb dX0_step_48 kc_b_122 ?_
    refine mx_gi (mx_runN (As := [.int r1, .int 97, .int 122]) (rest := [.ref a_t]) hB (c_X2_endOfThose l E a_text a_text_bytes v_text_length v_text_bytes r1 97 122 _ hf) sB_X2_endOfThose sV_X2_endOfThose wmn_X0_56 rfl (mx_ppV hB hP [1, 2] rfl 2 rfl rfl rfl) hl.1 rfl (Nat.le_of_ble_eq_true rfl) dX0_step_50 ⟨Nat.zero_le _, Nat.zero_le _⟩) (fun r5 hf => ?_)
    refine pf_X0_30 hB hP hD hS 0 rfl (Nat.le_of_ble_eq_true rfl) dX0_step_53 (w_X0_step E a_t a_text a_draft a_numbers a_text_bytes v_lines r1 r5 v_text_length v_text_bytes) rfl (fun H locs hP hD hS => ?_)
    refine lv_goto (tgt := 119) hx hb dX0_step_56 (by decide) ?_
    exact hRet (r1, r5) 119 ls H locs dX0_step_119 hf hP hS
theorem c_X0_step (l : Launch) (E : mx_E) (a_t : Nat) (a_text : Nat) (a_draft : Nat) (a_numbers : Nat) (a_text_bytes : Nat) (v_lines : Int32) (v_start : Int32) (v_end : Int32) (v_text_length : Int32) (v_text_bytes : (Nat → Int32)) (sz : Nat)  (post : Int32 → Int32 → Prop) (hf : f_X0_step v_text_length v_text_bytes v_start v_end post) : Met l yX0_step (Cond.code yX0_step cX0_step 1 none :: mx_WS) rm_X0_step (va_Pc [.ref a_t] (mx_Pw E (w_X0_step E a_t a_text a_draft a_numbers a_text_bytes v_lines v_start v_end v_text_length v_text_bytes) sz)) (va_Qv (fun (u : Int32 × Int32) => post u.1 u.2) (fun u t => va_P E.1 vwCl (w_X0_step E a_t a_text a_draft a_numbers a_text_bytes v_lines u.1 u.2 v_text_length v_text_bytes) t.heap) (va_A (w_X0_step E a_t a_text a_draft a_numbers a_text_bytes v_lines v_start v_end v_text_length v_text_bytes) sz)) 0 0 (va_A (w_X0_step E a_t a_text a_draft a_numbers a_text_bytes v_lines v_start v_end v_text_length v_text_bytes) sz) :=
  mx_metWv (by decide) rfl rfl (fun hB hP hD hA hRet ls hl => b_X0_step E a_t a_text a_draft a_numbers a_text_bytes v_lines v_start v_end v_text_length v_text_bytes  post hB hP hD hA hRet hf ls hl)
def rm_X0_wordHere : Room := { frames := 5, cells := 0, slots := 0, locals := 109 }
set_option maxHeartbeats 4000000 in
set_option maxRecDepth 100000 in
theorem b_X0_wordHere {p : Program} {l : Launch} {e : Env} {s : State} {m : MethodId} {args : Array Value} {below : List Frame} {meth : Method} {c : Code} {Q : State → Prop} (E : mx_E) (Z : (Nat → Nat) × (Nat → Nat)) (a_t : Nat) (a_text : Nat) (a_draft : Nat) (a_numbers : Nat) (a_text_bytes : Nat) (v_lines : Int32) (v_start : Int32) (v_end : Int32) (v_text_length : Int32) (v_text_bytes : (Nat → Int32))  (post : Int32 → Prop) (hB : mx_B p m c cX0_wordHere 2 s args RX0 E) (hP : va_P E.1 vwCl (w_X0_wordHere E a_t a_text a_draft a_numbers a_text_bytes v_lines v_start v_end v_text_length v_text_bytes) s.heap) (hZ : mx_ZH Z (fun _ => False) s s.heap) (hRet : ∀ (v : Int32) (pc : Nat) (ls : Array Slot), decode cX0_wordHere pc = .ok (.ireturn, 1) → post v → W p l e rm_X0_wordHere s m args below meth c s.heap [] 0 0 Q (F0 m pc ls [.int v])) (hf : f_X0_wordHere v_start v_end v_text_length v_text_bytes post) (ls : Array Slot) (hl : lv_has ls 2 [(0, .ref a_t)]) : W p l e rm_X0_wordHere s m args below meth c s.heap [] 0 0 Q (F0 m 0 ls []) := by
  have hx := hB.x
  have hb := hB.b
  have L_2 : ∀  (n : Nat) (j2_x1 : Int32) (ls : Array Slot), mx_l1 (f_X0_wordHere_2 v_start v_end v_text_length v_text_bytes post) n j2_x1 → lv_has ls 2 [(0, .ref a_t), (1, .int j2_x1)] → W p l e rm_X0_wordHere s m args below meth c s.heap [] 0 0 Q (F0 m 2 ls []) := by
    intro  n_2
    induction n_2 with
    | zero =>
      intro j2_x1 ls hf hl
      exact False.elim hf
    | succ n_2 ih_2 =>
      intro j2_x1 ls hf hl
      replace hf : f_X0_wordHere_2 v_start v_end v_text_length v_text_bytes post (mx_l1 (f_X0_wordHere_2 v_start v_end v_text_length v_text_bytes post) n_2) j2_x1 := hf
      unfold f_X0_wordHere_2 at hf
      refine lv_iload_n hx hb dX0_wordHere_2 rfl (lv_at hl 1 rfl) ?_
      refine lv_bipush hx hb dX0_wordHere_3 kc_b_10 ?_
      refine lv_icmp_ge (tgt := 38) hx hb dX0_wordHere_5 (by decide) (fun c5 => ?_) (fun c5 => ?_)
      · have hf := hf.1 c5
        refine lv_iconst hx hb dX0_wordHere_38 kc_i_m1 ?_
        exact hRet (-1) 39 ls dX0_wordHere_39 hf
      · have hf := hf.2 c5
        refine lv_aload_n hx hb dX0_wordHere_8 rfl (lv_at hl 0 rfl) ?_
        refine gf_X0_22 hB hP 0 rfl rfl dX0_wordHere_9 ?_
        refine lv_aload_n hx hb dX0_wordHere_12 rfl (lv_at hl 0 rfl) ?_
        refine gf_X0_44 hB hP 0 rfl rfl dX0_wordHere_13 ?_
        refine lv_aload_n hx hb dX0_wordHere_16 rfl (lv_at hl 0 rfl) ?_
        refine gf_X0_30 hB hP 0 rfl rfl dX0_wordHere_17 ?_
        refine lv_iload_n hx hb dX0_wordHere_20 rfl (lv_at hl 1 rfl) ?_
        refine mx_gr (mx_runS (As := [.int j2_x1]) (rest := [.int v_end, .int v_start, .ref a_text]) hB (c_X0_spelling l E Z j2_x1) sB_X0_spelling wst_X0_spelling wml_X0_95 rfl (mx_px hB mx_Xc.bl (fun U hU hW => by show mx_ZH _ _ _ _; rw [hU]; exact hZ.warm hW)) hl.1 rfl (Nat.le_of_ble_eq_true rfl) dX0_wordHere_21 ⟨Nat.zero_le _, Nat.zero_le _⟩) ?_
        refine mx_gi (mx_runN (As := [.int v_start, .int v_end, .ref (Z.1 (mx_sk j2_x1))]) (rest := []) hB (c_X2_reads l E a_text a_text_bytes v_text_length v_text_bytes v_start v_end (Z.1 (mx_sk j2_x1)) (mx_sw (mx_sk j2_x1)) _ hf) sB_X2_reads sV_X2_reads wmn_X0_99 rfl (mx_ppVs hB hP (hZ.str (mx_sk_lt _)) [1, 2] rfl 2 rfl rfl rfl) hl.1 rfl (Nat.le_of_ble_eq_true rfl) dX0_wordHere_24 ⟨Nat.zero_le _, Nat.zero_le _⟩) (fun r1 hf => ?_)
        refine lv_if_eq (tgt := 32) hx hb dX0_wordHere_27 (by decide) (fun c27 => ?_) (fun c27 => ?_)
        · have hf := hf.1 c27
          refine lv_iinc (v := j2_x1 + 1) (lv' := [(1, .int (j2_x1 + 1)), (0, .ref a_t)]) hx hb dX0_wordHere_32 hl (k := 1) rfl (by rw [kc_i_1]) (by decide) rfl (fun ls hl => ?_)
          refine lv_goto (tgt := 2) hx hb dX0_wordHere_35 (by decide) ?_
          exact ih_2 (j2_x1 + 1) ls hf (lv_sub hl [1, 0] rfl)
        · have hf := hf.2 c27
          refine lv_iload_n hx hb dX0_wordHere_30 rfl (lv_at hl 1 rfl) ?_
          exact hRet j2_x1 31 ls dX0_wordHere_31 hf
  unfold f_X0_wordHere at hf
  refine lv_iconst hx hb dX0_wordHere_0 kc_i_0 ?_
  refine lv_istore_n (lv' := [(1, .int 0), (0, .ref a_t)]) hx hb dX0_wordHere_1 rfl hl (by decide) rfl (fun ls hl => ?_)
  obtain ⟨n9, hf⟩ := hf
  exact L_2  n9 0 ls hf (lv_sub hl [1, 0] rfl)
theorem c_X0_wordHere (l : Launch) (E : mx_E) (Z : (Nat → Nat) × (Nat → Nat)) (a_t : Nat) (a_text : Nat) (a_draft : Nat) (a_numbers : Nat) (a_text_bytes : Nat) (v_lines : Int32) (v_start : Int32) (v_end : Int32) (v_text_length : Int32) (v_text_bytes : (Nat → Int32))  (post : Int32 → Prop) (hf : f_X0_wordHere v_start v_end v_text_length v_text_bytes post) : Met l yX0_wordHere (Cond.code yX0_wordHere cX0_wordHere 2 (some .int) :: mx_WS) rm_X0_wordHere (va_Pc [.ref a_t] (mx_Px (mx_Xz E (w_X0_wordHere E a_t a_text a_draft a_numbers a_text_bytes v_lines v_start v_end v_text_length v_text_bytes) Z) E)) (vp_Si post) 0 0 (fun _ => False) :=
  mx_metX (by decide) rfl rfl (fun hB hX hRet ls hl => b_X0_wordHere E Z a_t a_text a_draft a_numbers a_text_bytes v_lines v_start v_end v_text_length v_text_bytes  post hB hX.1 hX.2 (fun v pc ls hd hp => hRet v pc ls hd rfl hp) hf ls hl)
def rm_X0_hasRoomFor : Room := { frames := 0, cells := 0, slots := 0, locals := 0 }
set_option maxHeartbeats 4000000 in
set_option maxRecDepth 100000 in
theorem b_X0_hasRoomFor {p : Program} {l : Launch} {e : Env} {s : State} {m : MethodId} {args : Array Value} {below : List Frame} {meth : Method} {c : Code} {Q : State → Prop} (E : mx_E) (a_t : Nat) (a_text : Nat) (a_draft : Nat) (a_numbers : Nat) (a_draft_kind : Nat) (a_draft_weight : Nat) (a_draft_strength : Nat) (a_draft_height : Nat) (a_draft_folk : Nat) (a_draft_mustBeAbove : Nat) (a_draft_wind : Nat) (v_lines : Int32) (v_start : Int32) (v_end : Int32) (v_draft_storeys : Int32) (v_draft_pairs : Int32) (v_draft_bears : Int32) (v_draft_soft : Int32) (v_draft_cellars : Int32) (x1 : Int32) (post : Int32 → Prop) (hB : mx_B p m c cX0_hasRoomFor 2 s args RX0 E) (hP : va_P E.1 vwCl (w_X0_hasRoomFor E a_t a_text a_draft a_numbers a_draft_kind a_draft_weight a_draft_strength a_draft_height a_draft_folk a_draft_mustBeAbove a_draft_wind v_lines v_start v_end v_draft_storeys v_draft_pairs v_draft_bears v_draft_soft v_draft_cellars) s.heap) (hRet : ∀ (v : Int32) (pc : Nat) (ls : Array Slot), decode cX0_hasRoomFor pc = .ok (.ireturn, 1) → (v = 0 ∨ v = 1) → post v → W p l e rm_X0_hasRoomFor s m args below meth c s.heap [] 0 0 Q (F0 m pc ls [.int v])) (hf : f_X0_hasRoomFor v_draft_pairs v_draft_storeys x1 post) (ls : Array Slot) (hl : lv_has ls 2 [(0, .ref a_t), (1, .int x1)]) : W p l e rm_X0_hasRoomFor s m args below meth c s.heap [] 0 0 Q (F0 m 0 ls []) := by
  have hx := hB.x
  have hb := hB.b
  have J_41 : ∀  (ls : Array Slot), f_X0_hasRoomFor_41 v_draft_pairs v_draft_storeys post → lv_has ls 2 [] → W p l e rm_X0_hasRoomFor s m args below meth c s.heap [] 0 0 Q (F0 m 41 ls []) := by
    intro  ls hf hl
    unfold f_X0_hasRoomFor_41 at hf
    refine lv_iconst hx hb dX0_hasRoomFor_41 kc_i_1 ?_
    refine lv_goto (tgt := 46) hx hb dX0_hasRoomFor_42 (by decide) ?_
    exact hRet 1 46 ls dX0_hasRoomFor_46 (Or.inr rfl) hf
  unfold f_X0_hasRoomFor at hf
  refine lv_iload_n hx hb dX0_hasRoomFor_0 rfl (lv_at hl 1 rfl) ?_
  refine lv_iconst hx hb dX0_hasRoomFor_1 kc_i_3 ?_
  refine lv_icmp_gt (tgt := 23) hx hb dX0_hasRoomFor_2 (by decide) (fun c2 => ?_) (fun c2 => ?_)
  · have hf := hf.1 c2
    refine lv_iload_n hx hb dX0_hasRoomFor_23 rfl (lv_at hl 1 rfl) ?_
    refine lv_bipush hx hb dX0_hasRoomFor_24 kc_b_8 ?_
    refine lv_icmp_ne (tgt := 41) hx hb dX0_hasRoomFor_26 (by decide) (fun c26 => ?_) (fun c26 => ?_)
    · have hf := hf.1 c26
      exact J_41  ls hf (lv_sub hl [] rfl)
    · have hf := hf.2 c26
      refine lv_aload_n hx hb dX0_hasRoomFor_29 rfl (lv_at hl 0 rfl) ?_
      refine gf_X0_12 hB hP 0 rfl rfl dX0_hasRoomFor_30 ?_
      refine gf_X0_126 hB hP 1 rfl rfl dX0_hasRoomFor_33 ?_
      refine lv_bipush hx hb dX0_hasRoomFor_36 kc_b_8 ?_
      refine lv_icmp_ge (tgt := 45) hx hb dX0_hasRoomFor_38 (by decide) (fun c38 => ?_) (fun c38 => ?_)
      · have hf := hf.1 c38
        refine lv_iconst hx hb dX0_hasRoomFor_45 kc_i_0 ?_
        exact hRet 0 46 ls dX0_hasRoomFor_46 (Or.inl rfl) hf
      · have hf := hf.2 c38
        exact J_41  ls hf (lv_sub hl [] rfl)
  · have hf := hf.2 c2
    refine lv_aload_n hx hb dX0_hasRoomFor_5 rfl (lv_at hl 0 rfl) ?_
    refine gf_X0_12 hB hP 0 rfl rfl dX0_hasRoomFor_6 ?_
    refine gf_X0_123 hB hP 1 rfl rfl dX0_hasRoomFor_9 ?_
    refine lv_bipush hx hb dX0_hasRoomFor_12 kc_b_8 ?_
    refine lv_icmp_ge (tgt := 21) hx hb dX0_hasRoomFor_14 (by decide) (fun c14 => ?_) (fun c14 => ?_)
    · have hf := hf.1 c14
      refine lv_iconst hx hb dX0_hasRoomFor_21 kc_i_0 ?_
      exact hRet 0 22 ls dX0_hasRoomFor_22 (Or.inl rfl) hf
    · have hf := hf.2 c14
      refine lv_iconst hx hb dX0_hasRoomFor_17 kc_i_1 ?_
      refine lv_goto (tgt := 22) hx hb dX0_hasRoomFor_18 (by decide) ?_
      exact hRet 1 22 ls dX0_hasRoomFor_22 (Or.inr rfl) hf
theorem c_X0_hasRoomFor (l : Launch) (E : mx_E) (a_t : Nat) (a_text : Nat) (a_draft : Nat) (a_numbers : Nat) (a_draft_kind : Nat) (a_draft_weight : Nat) (a_draft_strength : Nat) (a_draft_height : Nat) (a_draft_folk : Nat) (a_draft_mustBeAbove : Nat) (a_draft_wind : Nat) (v_lines : Int32) (v_start : Int32) (v_end : Int32) (v_draft_storeys : Int32) (v_draft_pairs : Int32) (v_draft_bears : Int32) (v_draft_soft : Int32) (v_draft_cellars : Int32) (x1 : Int32) (post : Int32 → Prop) (hf : f_X0_hasRoomFor v_draft_pairs v_draft_storeys x1 post) : Met l yX0_hasRoomFor (Cond.code yX0_hasRoomFor cX0_hasRoomFor 2 (some .boolean) :: mx_WS) rm_X0_hasRoomFor (va_Pc [.ref a_t, .int x1] (mx_Pp E (w_X0_hasRoomFor E a_t a_text a_draft a_numbers a_draft_kind a_draft_weight a_draft_strength a_draft_height a_draft_folk a_draft_mustBeAbove a_draft_wind v_lines v_start v_end v_draft_storeys v_draft_pairs v_draft_bears v_draft_soft v_draft_cellars))) (vp_Si post) 0 0 (fun _ => False) :=
  mx_metPz (by decide) rfl rfl (fun hB hP hRet ls hl => b_X0_hasRoomFor E a_t a_text a_draft a_numbers a_draft_kind a_draft_weight a_draft_strength a_draft_height a_draft_folk a_draft_mustBeAbove a_draft_wind v_lines v_start v_end v_draft_storeys v_draft_pairs v_draft_bears v_draft_soft v_draft_cellars x1 post hB hP hRet hf ls hl)
def rm_X0_numberHere : Room := { frames := 1, cells := 0, slots := 0, locals := 23 }
set_option maxHeartbeats 4000000 in
set_option maxRecDepth 100000 in
theorem b_X0_numberHere {p : Program} {l : Launch} {e : Env} {s : State} {m : MethodId} {args : Array Value} {below : List Frame} {meth : Method} {c : Code} {Q : State → Prop} (E : mx_E) (a_t : Nat) (a_text : Nat) (a_draft : Nat) (a_numbers : Nat) (a_text_bytes : Nat) (v_lines : Int32) (v_start : Int32) (v_end : Int32) (v_text_length : Int32) (v_text_bytes : (Nat → Int32))  (post : Int32 → Prop) (hB : mx_B p m c cX0_numberHere 3 s args RX0 E) (hP : va_P E.1 vwCl (w_X0_numberHere E a_t a_text a_draft a_numbers a_text_bytes v_lines v_start v_end v_text_length v_text_bytes) s.heap) (hRet : ∀ (v : Int32) (pc : Nat) (ls : Array Slot), decode cX0_numberHere pc = .ok (.ireturn, 1) → post v → W p l e rm_X0_numberHere s m args below meth c s.heap [] 0 0 Q (F0 m pc ls [.int v])) (hf : f_X0_numberHere v_start v_text_length v_text_bytes v_end post) (ls : Array Slot) (hl : lv_has ls 3 [(0, .ref a_t)]) : W p l e rm_X0_numberHere s m args below meth c s.heap [] 0 0 Q (F0 m 0 ls []) := by
  have hx := hB.x
  have hb := hB.b
  have L_40 : ∀  (n : Nat) (j40_x1 : Int32) (j40_x2 : Int32) (ls : Array Slot), mx_l2 (f_X0_numberHere_40 v_start v_text_length v_text_bytes v_end post) n j40_x1 j40_x2 → lv_has ls 3 [(0, .ref a_t), (1, .int j40_x1), (2, .int j40_x2)] → W p l e rm_X0_numberHere s m args below meth c s.heap [] 0 0 Q (F0 m 40 ls []) := by
    intro  n_40
    induction n_40 with
    | zero =>
      intro j40_x1 j40_x2 ls hf hl
      exact False.elim hf
    | succ n_40 ih_40 =>
      intro j40_x1 j40_x2 ls hf hl
      replace hf : f_X0_numberHere_40 v_start v_text_length v_text_bytes v_end post (mx_l2 (f_X0_numberHere_40 v_start v_text_length v_text_bytes v_end post) n_40) j40_x1 j40_x2 := hf
      unfold f_X0_numberHere_40 at hf
      refine lv_iload_n hx hb dX0_numberHere_40 rfl (lv_at hl 2 rfl) ?_
      refine lv_aload_n hx hb dX0_numberHere_41 rfl (lv_at hl 0 rfl) ?_
      refine gf_X0_30 hB hP 0 rfl rfl dX0_numberHere_42 ?_
      refine lv_icmp_ge (tgt := 83) hx hb dX0_numberHere_45 (by decide) (fun c45 => ?_) (fun c45 => ?_)
      · have hf := hf.1 c45
        refine lv_iload_n hx hb dX0_numberHere_83 rfl (lv_at hl 1 rfl) ?_
        exact hRet j40_x1 84 ls dX0_numberHere_84 hf
      · have hf := hf.2 c45
        refine lv_iload_n hx hb dX0_numberHere_48 rfl (lv_at hl 2 rfl) ?_
        refine lv_aload_n hx hb dX0_numberHere_49 rfl (lv_at hl 0 rfl) ?_
        refine gf_X0_22 hB hP 0 rfl rfl dX0_numberHere_50 ?_
        refine gf_X0_47 hB hP 1 rfl rfl dX0_numberHere_53 ?_
        refine lv_icmp_ge (tgt := 83) hx hb dX0_numberHere_56 (by decide) (fun c56 => ?_) (fun c56 => ?_)
        · have hf := hf.1 c56
          refine lv_iload_n hx hb dX0_numberHere_83 rfl (lv_at hl 1 rfl) ?_
          exact hRet j40_x1 84 ls dX0_numberHere_84 hf
        · have hf := hf.2 c56
          refine lv_bipush hx hb dX0_numberHere_59 kc_b_10 ?_
          refine lv_iload_n hx hb dX0_numberHere_61 rfl (lv_at hl 1 rfl) ?_
          refine lv_imul hx hb dX0_numberHere_62 ?_
          refine lv_aload_n hx hb dX0_numberHere_63 rfl (lv_at hl 0 rfl) ?_
          refine gf_X0_22 hB hP 0 rfl rfl dX0_numberHere_64 ?_
          refine gf_X0_156 hB hP 1 rfl rfl dX0_numberHere_67 ?_
          refine lv_iload_n hx hb dX0_numberHere_70 rfl (lv_at hl 2 rfl) ?_
          obtain ⟨h_in, hf⟩ := hf
          refine va_cald hx hb hB.K hP 2 1 rfl rfl h_in dX0_numberHere_71 ?_
          refine lv_iadd hx hb dX0_numberHere_72 ?_
          refine lv_bipush hx hb dX0_numberHere_73 kc_b_48 ?_
          refine lv_isub hx hb dX0_numberHere_75 ?_
          refine lv_istore_n (lv' := [(1, .int (((10 * j40_x1) + (v_text_bytes j40_x2.toNatClampNeg)) - 48)), (0, .ref a_t), (2, .int j40_x2)]) hx hb dX0_numberHere_76 rfl hl (by decide) rfl (fun ls hl => ?_)
          refine lv_iinc (v := j40_x2 + 1) (lv' := [(2, .int (j40_x2 + 1)), (1, .int (((10 * j40_x1) + (v_text_bytes j40_x2.toNatClampNeg)) - 48)), (0, .ref a_t)]) hx hb dX0_numberHere_77 hl (k := 2) rfl (by rw [kc_i_1]) (by decide) rfl (fun ls hl => ?_)
          refine lv_goto (tgt := 40) hx hb dX0_numberHere_80 (by decide) ?_
          exact ih_40 (((10 * j40_x1) + (v_text_bytes j40_x2.toNatClampNeg)) - 48) (j40_x2 + 1) ls hf (lv_sub hl [2, 1, 0] rfl)
  unfold f_X0_numberHere at hf
  refine lv_aload_n hx hb dX0_numberHere_0 rfl (lv_at hl 0 rfl) ?_
  refine gf_X0_22 hB hP 0 rfl rfl dX0_numberHere_1 ?_
  refine lv_aload_n hx hb dX0_numberHere_4 rfl (lv_at hl 0 rfl) ?_
  refine gf_X0_44 hB hP 0 rfl rfl dX0_numberHere_5 ?_
  refine lv_bipush hx hb dX0_numberHere_8 kc_b_48 ?_
  refine lv_bipush hx hb dX0_numberHere_10 kc_b_57 ?_
  refine mx_gi (mx_runN (As := [.int v_start, .int 48, .int 57]) (rest := []) hB (c_X2_isBetween l E a_text a_text_bytes v_text_length v_text_bytes v_start 48 57 _ hf) sB_X2_isBetween sV_X2_isBetween wmn_X0_52 rfl (mx_ppV hB hP [1, 2] rfl 2 rfl rfl rfl) hl.1 rfl (Nat.le_of_ble_eq_true rfl) dX0_numberHere_12 ⟨Nat.zero_le _, Nat.zero_le _⟩) (fun r1 hf => ?_)
  refine lv_if_eq (tgt := 31) hx hb dX0_numberHere_15 (by decide) (fun c15 => ?_) (fun c15 => ?_)
  · have hf := hf.1 c15
    refine lv_iconst hx hb dX0_numberHere_31 kc_i_m1 ?_
    exact hRet (-1) 32 ls dX0_numberHere_32 hf
  · have hf := hf.2 c15
    refine lv_aload_n hx hb dX0_numberHere_18 rfl (lv_at hl 0 rfl) ?_
    refine gf_X0_30 hB hP 0 rfl rfl dX0_numberHere_19 ?_
    refine lv_aload_n hx hb dX0_numberHere_22 rfl (lv_at hl 0 rfl) ?_
    refine gf_X0_44 hB hP 0 rfl rfl dX0_numberHere_23 ?_
    refine lv_isub hx hb dX0_numberHere_26 ?_
    refine lv_iconst hx hb dX0_numberHere_27 kc_i_3 ?_
    refine lv_icmp_le (tgt := 33) hx hb dX0_numberHere_28 (by decide) (fun c28 => ?_) (fun c28 => ?_)
    · have hf := hf.1 c28
      refine lv_iconst hx hb dX0_numberHere_33 kc_i_0 ?_
      refine lv_istore_n (lv' := [(1, .int 0), (0, .ref a_t)]) hx hb dX0_numberHere_34 rfl hl (by decide) rfl (fun ls hl => ?_)
      refine lv_aload_n hx hb dX0_numberHere_35 rfl (lv_at hl 1 rfl) ?_
      refine gf_X0_44 hB hP 0 rfl rfl dX0_numberHere_36 ?_
      refine lv_istore_n (lv' := [(2, .int v_start), (1, .int 0), (0, .ref a_t)]) hx hb dX0_numberHere_39 rfl hl (by decide) rfl (fun ls hl => ?_)
      obtain ⟨n9, hf⟩ := hf
      exact L_40  n9 0 v_start ls hf (lv_sub hl [2, 1, 0] rfl)
    · have hf := hf.2 c28
      refine lv_iconst hx hb dX0_numberHere_31 kc_i_m1 ?_
      exact hRet (-1) 32 ls dX0_numberHere_32 hf
theorem c_X0_numberHere (l : Launch) (E : mx_E) (a_t : Nat) (a_text : Nat) (a_draft : Nat) (a_numbers : Nat) (a_text_bytes : Nat) (v_lines : Int32) (v_start : Int32) (v_end : Int32) (v_text_length : Int32) (v_text_bytes : (Nat → Int32))  (post : Int32 → Prop) (hf : f_X0_numberHere v_start v_text_length v_text_bytes v_end post) : Met l yX0_numberHere (Cond.code yX0_numberHere cX0_numberHere 3 (some .int) :: mx_WS) rm_X0_numberHere (va_Pc [.ref a_t] (mx_Pp E (w_X0_numberHere E a_t a_text a_draft a_numbers a_text_bytes v_lines v_start v_end v_text_length v_text_bytes))) (vp_Si post) 0 0 (fun _ => False) :=
  mx_metPi (by decide) rfl rfl (fun hB hP hRet ls hl => b_X0_numberHere E a_t a_text a_draft a_numbers a_text_bytes v_lines v_start v_end v_text_length v_text_bytes  post hB hP hRet hf ls hl)
def rm_X0_numberStands : Room := { frames := 2, cells := 0, slots := 0, locals := 45 }
set_option maxHeartbeats 4000000 in
set_option maxRecDepth 100000 in
theorem b_X0_numberStands {p : Program} {l : Launch} {e : Env} {s : State} {m : MethodId} {args : Array Value} {below : List Frame} {meth : Method} {c : Code} {Q : State → Prop} {A : Nat → Prop} (E : mx_E) (a_t : Nat) (a_text : Nat) (a_draft : Nat) (a_numbers : Nat) (a_text_bytes : Nat) (v_lines : Int32) (v_start : Int32) (v_end : Int32) (v_text_length : Int32) (v_text_bytes : (Nat → Int32)) (v_numbers : (Nat → Int32)) (x1 : Int32) (x2 : Int32) (x3 : Int32) (post : Int32 → (Nat → Int32) → Int32 → Int32 → Prop) (hB : mx_B p m c cX0_numberStands 5 s args RX0 E) (hP : va_P E.1 vwCl (w_X0_numberStands E a_t a_text a_draft a_numbers a_text_bytes v_lines v_start v_end v_text_length v_text_bytes v_numbers) s.heap) (hD : va_D A (w_X0_numberStands E a_t a_text a_draft a_numbers a_text_bytes v_lines v_start v_end v_text_length v_text_bytes v_numbers)) (hA : ∀ q : Nat, s.heap.size ≤ q → A q) (hRet : ∀ (v : Int32) (u : (Nat → Int32) × Int32 × Int32) (pc : Nat) (ls : Array Slot) (H : Heap) (locs : List Loc), decode cX0_numberStands pc = .ok (.ireturn, 1) → (v = 0 ∨ v = 1) → post v u.1 u.2.1 u.2.2 → va_P E.1 vwCl (w_X0_numberStands E a_t a_text a_draft a_numbers a_text_bytes v_lines u.2.1 u.2.2 v_text_length v_text_bytes u.1) H → va_S A s.heap H locs → W p l e rm_X0_numberStands s m args below meth c H locs 0 0 Q (F0 m pc ls [.int v])) (hf : f_X0_numberStands v_text_length v_text_bytes v_numbers v_start v_end x1 x2 x3 post) (ls : Array Slot) (hl : lv_has ls 5 [(0, .ref a_t), (1, .int x1), (2, .int x2), (3, .int x3)]) : W p l e rm_X0_numberStands s m args below meth c s.heap [] 0 0 Q (F0 m 0 ls []) := by
  have hx := hB.x
  have hb := hB.b
  have hS : va_S A s.heap s.heap [] := va_S.rf
  obtain ⟨H, locs, eH, eL⟩ : ∃ (H : Heap) (locs : List Loc), H = s.heap ∧ locs = [] := ⟨_, _, rfl, rfl⟩
  rw [← eH] at hP
  have hS : va_S A s.heap H locs := by rw [eH, eL]; exact hS
  show W p l e rm_X0_numberStands s m args below meth c s.heap [] 0 0 Q (F0 m 0 ls [])
  rw [← eH, ← eL]
  unfold f_X0_numberStands at hf
  refine lv_aload_n hx hb dX0_numberStands_0 rfl (lv_at hl 0 rfl) ?_
  refine mx_gi (mx_runV (As := []) (rest := []) hB (c_X0_numberHere l E a_t a_text a_draft a_numbers a_text_bytes v_lines v_start v_end v_text_length v_text_bytes _ hf) sB_X0_numberHere sV_X0_numberHere wml_X0_150 rfl (mx_ppV hB hP [0, 1, 2] rfl 0 rfl rfl rfl) hl.1 rfl (Nat.le_of_ble_eq_true rfl) dX0_numberStands_1 ⟨Nat.zero_le _, Nat.zero_le _⟩) (fun r1 hf => ?_)
  refine lv_istore (lv' := [(4, .int r1), (0, .ref a_t), (1, .int x1), (2, .int x2), (3, .int x3)]) hx hb dX0_numberStands_4 hl (by decide) rfl (fun ls hl => ?_)
  refine lv_iload hx hb dX0_numberStands_6 (lv_at hl 0 rfl) ?_
  refine lv_iconst hx hb dX0_numberStands_8 kc_i_m1 ?_
  refine lv_icmp_eq (tgt := 24) hx hb dX0_numberStands_9 (by decide) (fun c9 => ?_) (fun c9 => ?_)
  · have hf := hf.1 c9
    refine lv_iconst hx hb dX0_numberStands_24 kc_i_0 ?_
    exact hRet 0 (v_numbers, v_start, v_end) 25 ls H locs dX0_numberStands_25 (Or.inl rfl) hf hP hS
  · have hf := hf.2 c9
    refine lv_iload hx hb dX0_numberStands_12 (lv_at hl 0 rfl) ?_
    refine lv_iload_n hx hb dX0_numberStands_14 rfl (lv_at hl 3 rfl) ?_
    refine lv_icmp_lt (tgt := 24) hx hb dX0_numberStands_15 (by decide) (fun c15 => ?_) (fun c15 => ?_)
    · have hf := hf.1 c15
      refine lv_iconst hx hb dX0_numberStands_24 kc_i_0 ?_
      exact hRet 0 (v_numbers, v_start, v_end) 25 ls H locs dX0_numberStands_25 (Or.inl rfl) hf hP hS
    · have hf := hf.2 c15
      refine lv_iload hx hb dX0_numberStands_18 (lv_at hl 0 rfl) ?_
      refine lv_iload_n hx hb dX0_numberStands_20 rfl (lv_at hl 4 rfl) ?_
      refine lv_icmp_le (tgt := 26) hx hb dX0_numberStands_21 (by decide) (fun c21 => ?_) (fun c21 => ?_)
      · have hf := hf.1 c21
        refine lv_iload_n hx hb dX0_numberStands_26 rfl (lv_at hl 2 rfl) ?_
        refine lv_if_lt (tgt := 39) hx hb dX0_numberStands_27 (by decide) (fun c27 => ?_) (fun c27 => ?_)
        · have hf := hf.1 c27
          refine lv_iconst hx hb dX0_numberStands_39 kc_i_0 ?_
          exact hRet 0 (v_numbers, v_start, v_end) 40 ls H locs dX0_numberStands_40 (Or.inl rfl) hf hP hS
        · have hf := hf.2 c27
          refine lv_iload_n hx hb dX0_numberStands_30 rfl (lv_at hl 2 rfl) ?_
          refine lv_aload_n hx hb dX0_numberStands_31 rfl (lv_at hl 1 rfl) ?_
          refine gf_X0_18 hB hP 0 rfl rfl dX0_numberStands_32 ?_
          refine va_alen hx hb hB.K hP 3 0 rfl rfl kc_n_3 dX0_numberStands_35 ?_
          refine lv_icmp_lt (tgt := 41) hx hb dX0_numberStands_36 (by decide) (fun c36 => ?_) (fun c36 => ?_)
          · have hf := hf.1 c36
            refine lv_aload_n hx hb dX0_numberStands_41 rfl (lv_at hl 1 rfl) ?_
            refine gf_X0_18 hB hP 0 rfl rfl dX0_numberStands_42 ?_
            refine lv_iload_n hx hb dX0_numberStands_45 rfl (lv_at hl 2 rfl) ?_
            refine lv_iload hx hb dX0_numberStands_46 (lv_at hl 0 rfl) ?_
            obtain ⟨h_in, hf⟩ := hf
            refine va_iast hx hb hB.K hP hD hS 3 0 rfl rfl h_in dX0_numberStands_48 (fun H locs hP hD hS => ?_)
            have hP : va_P E.1 vwCl (w_X0_numberStands E a_t a_text a_draft a_numbers a_text_bytes v_lines v_start v_end v_text_length v_text_bytes (upd v_numbers x1.toNatClampNeg r1)) H := hP
            have hD : va_D A (w_X0_numberStands E a_t a_text a_draft a_numbers a_text_bytes v_lines v_start v_end v_text_length v_text_bytes (upd v_numbers x1.toNatClampNeg r1)) := hD
            refine lv_aload_n hx hb dX0_numberStands_49 rfl (lv_at hl 1 rfl) ?_
            refine mx_wv (mx_runV (As := []) (rest := []) hB (c_X0_step l E a_t a_text a_draft a_numbers a_text_bytes v_lines v_start v_end v_text_length v_text_bytes H.size  _ hf) sB_X0_step sV_X0_step wml_X0_34 rfl (mx_pwV hB hP hD [0, 1, 2] (by decide) rfl rfl 0 rfl rfl rfl) hl.1 rfl (Nat.le_of_ble_eq_true rfl) dX0_numberStands_50 ⟨Nat.zero_le _, Nat.zero_le _⟩) hP hD hS hA [0, 1, 2] rfl (fun _ => rfl) (fun u => w_X0_numberStands E a_t a_text a_draft a_numbers a_text_bytes v_lines u.1 u.2 v_text_length v_text_bytes (upd v_numbers x1.toNatClampNeg r1)) (fun _ => rfl) (fun _ => rfl) (fun u H locs hf hP hD hS => ?_)
            obtain ⟨u3, u4⟩ := u
            have hP : va_P E.1 vwCl (w_X0_numberStands E a_t a_text a_draft a_numbers a_text_bytes v_lines u3 u4 v_text_length v_text_bytes (upd v_numbers x1.toNatClampNeg r1)) H := hP
            have hD : va_D A (w_X0_numberStands E a_t a_text a_draft a_numbers a_text_bytes v_lines u3 u4 v_text_length v_text_bytes (upd v_numbers x1.toNatClampNeg r1)) := hD
            refine lv_iconst hx hb dX0_numberStands_53 kc_i_1 ?_
            exact hRet 1 (upd v_numbers x1.toNatClampNeg r1, u3, u4) 54 ls H locs dX0_numberStands_54 (Or.inr rfl) hf hP hS
          · have hf := hf.2 c36
            refine lv_iconst hx hb dX0_numberStands_39 kc_i_0 ?_
            exact hRet 0 (v_numbers, v_start, v_end) 40 ls H locs dX0_numberStands_40 (Or.inl rfl) hf hP hS
      · have hf := hf.2 c21
        refine lv_iconst hx hb dX0_numberStands_24 kc_i_0 ?_
        exact hRet 0 (v_numbers, v_start, v_end) 25 ls H locs dX0_numberStands_25 (Or.inl rfl) hf hP hS
theorem c_X0_numberStands (l : Launch) (E : mx_E) (a_t : Nat) (a_text : Nat) (a_draft : Nat) (a_numbers : Nat) (a_text_bytes : Nat) (v_lines : Int32) (v_start : Int32) (v_end : Int32) (v_text_length : Int32) (v_text_bytes : (Nat → Int32)) (v_numbers : (Nat → Int32)) (sz : Nat) (x1 : Int32) (x2 : Int32) (x3 : Int32) (post : Int32 → (Nat → Int32) → Int32 → Int32 → Prop) (hf : f_X0_numberStands v_text_length v_text_bytes v_numbers v_start v_end x1 x2 x3 post) : Met l yX0_numberStands (Cond.code yX0_numberStands cX0_numberStands 5 (some .boolean) :: mx_WS) rm_X0_numberStands (va_Pc [.ref a_t, .int x1, .int x2, .int x3] (mx_Pw E (w_X0_numberStands E a_t a_text a_draft a_numbers a_text_bytes v_lines v_start v_end v_text_length v_text_bytes v_numbers) sz)) (va_Qi (fun (v : Int32) (u : (Nat → Int32) × Int32 × Int32) => post v u.1 u.2.1 u.2.2) (fun u t => va_P E.1 vwCl (w_X0_numberStands E a_t a_text a_draft a_numbers a_text_bytes v_lines u.2.1 u.2.2 v_text_length v_text_bytes u.1) t.heap) (va_A (w_X0_numberStands E a_t a_text a_draft a_numbers a_text_bytes v_lines v_start v_end v_text_length v_text_bytes v_numbers) sz)) 0 0 (va_A (w_X0_numberStands E a_t a_text a_draft a_numbers a_text_bytes v_lines v_start v_end v_text_length v_text_bytes v_numbers) sz) :=
  mx_metWz (by decide) rfl rfl (fun hB hP hD hA hRet ls hl => b_X0_numberStands E a_t a_text a_draft a_numbers a_text_bytes v_lines v_start v_end v_text_length v_text_bytes v_numbers x1 x2 x3 post hB hP hD hA hRet hf ls hl)
def rm_X0_storeyStands : Room := { frames := 3, cells := 0, slots := 0, locals := 69 }
set_option maxHeartbeats 4000000 in
set_option maxRecDepth 100000 in
theorem b_X0_storeyStands {p : Program} {l : Launch} {e : Env} {s : State} {m : MethodId} {args : Array Value} {below : List Frame} {meth : Method} {c : Code} {Q : State → Prop} {A : Nat → Prop} (E : mx_E) (a_t : Nat) (a_text : Nat) (a_draft : Nat) (a_numbers : Nat) (a_text_bytes : Nat) (a_draft_kind : Nat) (a_draft_weight : Nat) (a_draft_strength : Nat) (a_draft_height : Nat) (a_draft_folk : Nat) (a_draft_mustBeAbove : Nat) (a_draft_wind : Nat) (v_lines : Int32) (v_start : Int32) (v_end : Int32) (v_text_length : Int32) (v_text_bytes : (Nat → Int32)) (v_numbers : (Nat → Int32)) (v_draft_storeys : Int32) (v_draft_pairs : Int32) (v_draft_bears : Int32) (v_draft_soft : Int32) (v_draft_cellars : Int32) (v_draft_kind : (Nat → Int32)) (v_draft_weight : (Nat → Int32)) (v_draft_strength : (Nat → Int32)) (v_draft_height : (Nat → Int32)) (v_draft_folk : (Nat → Int32)) (v_draft_mustBeAbove : (Nat → Int32)) (x1 : Int32) (post : Int32 → (Nat → Int32) → Int32 → Int32 → (Nat → Int32) → (Nat → Int32) → (Nat → Int32) → (Nat → Int32) → (Nat → Int32) → (Nat → Int32) → Int32 → Int32 → Prop) (hB : mx_B p m c cX0_storeyStands 2 s args RX0 E) (hP : va_P E.1 vwCl (w_X0_storeyStands E a_t a_text a_draft a_numbers a_text_bytes a_draft_kind a_draft_weight a_draft_strength a_draft_height a_draft_folk a_draft_mustBeAbove a_draft_wind v_lines v_start v_end v_text_length v_text_bytes v_numbers v_draft_storeys v_draft_pairs v_draft_bears v_draft_soft v_draft_cellars v_draft_kind v_draft_weight v_draft_strength v_draft_height v_draft_folk v_draft_mustBeAbove) s.heap) (hD : va_D A (w_X0_storeyStands E a_t a_text a_draft a_numbers a_text_bytes a_draft_kind a_draft_weight a_draft_strength a_draft_height a_draft_folk a_draft_mustBeAbove a_draft_wind v_lines v_start v_end v_text_length v_text_bytes v_numbers v_draft_storeys v_draft_pairs v_draft_bears v_draft_soft v_draft_cellars v_draft_kind v_draft_weight v_draft_strength v_draft_height v_draft_folk v_draft_mustBeAbove)) (hA : ∀ q : Nat, s.heap.size ≤ q → A q) (hRet : ∀ (v : Int32) (u : (Nat → Int32) × Int32 × Int32 × (Nat → Int32) × (Nat → Int32) × (Nat → Int32) × (Nat → Int32) × (Nat → Int32) × (Nat → Int32) × Int32 × Int32) (pc : Nat) (ls : Array Slot) (H : Heap) (locs : List Loc), decode cX0_storeyStands pc = .ok (.ireturn, 1) → (v = 0 ∨ v = 1) → post v u.1 u.2.1 u.2.2.1 u.2.2.2.1 u.2.2.2.2.1 u.2.2.2.2.2.1 u.2.2.2.2.2.2.1 u.2.2.2.2.2.2.2.1 u.2.2.2.2.2.2.2.2.1 u.2.2.2.2.2.2.2.2.2.1 u.2.2.2.2.2.2.2.2.2.2 → va_P E.1 vwCl (w_X0_storeyStands E a_t a_text a_draft a_numbers a_text_bytes a_draft_kind a_draft_weight a_draft_strength a_draft_height a_draft_folk a_draft_mustBeAbove a_draft_wind v_lines u.2.1 u.2.2.1 v_text_length v_text_bytes u.1 u.2.2.2.2.2.2.2.2.2.1 v_draft_pairs v_draft_bears v_draft_soft u.2.2.2.2.2.2.2.2.2.2 u.2.2.2.1 u.2.2.2.2.1 u.2.2.2.2.2.1 u.2.2.2.2.2.2.1 u.2.2.2.2.2.2.2.1 u.2.2.2.2.2.2.2.2.1) H → va_S A s.heap H locs → W p l e rm_X0_storeyStands s m args below meth c H locs 0 0 Q (F0 m pc ls [.int v])) (hf : f_X0_storeyStands v_text_length v_text_bytes v_numbers v_start v_end v_draft_kind v_draft_weight v_draft_strength v_draft_height v_draft_folk v_draft_mustBeAbove v_draft_storeys v_draft_cellars x1 post) (ls : Array Slot) (hl : lv_has ls 2 [(0, .ref a_t), (1, .int x1)]) : W p l e rm_X0_storeyStands s m args below meth c s.heap [] 0 0 Q (F0 m 0 ls []) := by
  have hx := hB.x
  have hb := hB.b
  have hS : va_S A s.heap s.heap [] := va_S.rf
  obtain ⟨H, locs, eH, eL⟩ : ∃ (H : Heap) (locs : List Loc), H = s.heap ∧ locs = [] := ⟨_, _, rfl, rfl⟩
  rw [← eH] at hP
  have hS : va_S A s.heap H locs := by rw [eH, eL]; exact hS
  show W p l e rm_X0_storeyStands s m args below meth c s.heap [] 0 0 Q (F0 m 0 ls [])
  rw [← eH, ← eL]
  unfold f_X0_storeyStands at hf
  refine lv_aload_n hx hb dX0_storeyStands_0 rfl (lv_at hl 0 rfl) ?_
  refine lv_iconst hx hb dX0_storeyStands_1 kc_i_0 ?_
  refine lv_iconst hx hb dX0_storeyStands_2 kc_i_1 ?_
  refine lv_bipush hx hb dX0_storeyStands_3 kc_b_99 ?_
  refine mx_wi (mx_runV (As := [.int 0, .int 1, .int 99]) (rest := []) hB (c_X0_numberStands l E a_t a_text a_draft a_numbers a_text_bytes v_lines v_start v_end v_text_length v_text_bytes v_numbers H.size 0 1 99 _ hf) sB_X0_numberStands sV_X0_numberStands wml_X0_129 rfl (mx_pwV hB hP hD [0, 1, 2, 3] (by decide) rfl rfl 0 rfl rfl rfl) hl.1 rfl (Nat.le_of_ble_eq_true rfl) dX0_storeyStands_5 ⟨Nat.zero_le _, Nat.zero_le _⟩) hP hD hS hA [0, 1, 2, 3] rfl (fun _ => rfl) (fun u => w_X0_storeyStands E a_t a_text a_draft a_numbers a_text_bytes a_draft_kind a_draft_weight a_draft_strength a_draft_height a_draft_folk a_draft_mustBeAbove a_draft_wind v_lines u.2.1 u.2.2 v_text_length v_text_bytes u.1 v_draft_storeys v_draft_pairs v_draft_bears v_draft_soft v_draft_cellars v_draft_kind v_draft_weight v_draft_strength v_draft_height v_draft_folk v_draft_mustBeAbove) (fun _ => rfl) (fun _ => rfl) (fun r1 u H locs hf hP hD hS => ?_)
  obtain ⟨u2, u3, u4⟩ := u
  have hP : va_P E.1 vwCl (w_X0_storeyStands E a_t a_text a_draft a_numbers a_text_bytes a_draft_kind a_draft_weight a_draft_strength a_draft_height a_draft_folk a_draft_mustBeAbove a_draft_wind v_lines u3 u4 v_text_length v_text_bytes u2 v_draft_storeys v_draft_pairs v_draft_bears v_draft_soft v_draft_cellars v_draft_kind v_draft_weight v_draft_strength v_draft_height v_draft_folk v_draft_mustBeAbove) H := hP
  have hD : va_D A (w_X0_storeyStands E a_t a_text a_draft a_numbers a_text_bytes a_draft_kind a_draft_weight a_draft_strength a_draft_height a_draft_folk a_draft_mustBeAbove a_draft_wind v_lines u3 u4 v_text_length v_text_bytes u2 v_draft_storeys v_draft_pairs v_draft_bears v_draft_soft v_draft_cellars v_draft_kind v_draft_weight v_draft_strength v_draft_height v_draft_folk v_draft_mustBeAbove) := hD
  refine lv_if_eq (tgt := 34) hx hb dX0_storeyStands_8 (by decide) (fun c8 => ?_) (fun c8 => ?_)
  · have hf := hf.1 c8
    refine lv_iconst hx hb dX0_storeyStands_34 kc_i_0 ?_
    exact hRet 0 (u2, u3, u4, v_draft_kind, v_draft_weight, v_draft_strength, v_draft_height, v_draft_folk, v_draft_mustBeAbove, v_draft_storeys, v_draft_cellars) 35 ls H locs dX0_storeyStands_35 (Or.inl rfl) hf hP hS
  · have hf := hf.2 c8
    refine lv_aload_n hx hb dX0_storeyStands_11 rfl (lv_at hl 0 rfl) ?_
    refine lv_iconst hx hb dX0_storeyStands_12 kc_i_1 ?_
    refine lv_iconst hx hb dX0_storeyStands_13 kc_i_0 ?_
    refine lv_sipush hx hb dX0_storeyStands_14 kc_s_999 ?_
    refine mx_wi (mx_runV (As := [.int 1, .int 0, .int 999]) (rest := []) hB (c_X0_numberStands l E a_t a_text a_draft a_numbers a_text_bytes v_lines u3 u4 v_text_length v_text_bytes u2 H.size 1 0 999 _ hf) sB_X0_numberStands sV_X0_numberStands wml_X0_129 rfl (mx_pwV hB hP hD [0, 1, 2, 3] (by decide) rfl rfl 0 rfl rfl rfl) hl.1 rfl (Nat.le_of_ble_eq_true rfl) dX0_storeyStands_17 ⟨Nat.zero_le _, Nat.zero_le _⟩) hP hD hS hA [0, 1, 2, 3] rfl (fun _ => rfl) (fun u => w_X0_storeyStands E a_t a_text a_draft a_numbers a_text_bytes a_draft_kind a_draft_weight a_draft_strength a_draft_height a_draft_folk a_draft_mustBeAbove a_draft_wind v_lines u.2.1 u.2.2 v_text_length v_text_bytes u.1 v_draft_storeys v_draft_pairs v_draft_bears v_draft_soft v_draft_cellars v_draft_kind v_draft_weight v_draft_strength v_draft_height v_draft_folk v_draft_mustBeAbove) (fun _ => rfl) (fun _ => rfl) (fun r5 u H locs hf hP hD hS => ?_)
    obtain ⟨u6, u7, u8⟩ := u
    have hP : va_P E.1 vwCl (w_X0_storeyStands E a_t a_text a_draft a_numbers a_text_bytes a_draft_kind a_draft_weight a_draft_strength a_draft_height a_draft_folk a_draft_mustBeAbove a_draft_wind v_lines u7 u8 v_text_length v_text_bytes u6 v_draft_storeys v_draft_pairs v_draft_bears v_draft_soft v_draft_cellars v_draft_kind v_draft_weight v_draft_strength v_draft_height v_draft_folk v_draft_mustBeAbove) H := hP
    have hD : va_D A (w_X0_storeyStands E a_t a_text a_draft a_numbers a_text_bytes a_draft_kind a_draft_weight a_draft_strength a_draft_height a_draft_folk a_draft_mustBeAbove a_draft_wind v_lines u7 u8 v_text_length v_text_bytes u6 v_draft_storeys v_draft_pairs v_draft_bears v_draft_soft v_draft_cellars v_draft_kind v_draft_weight v_draft_strength v_draft_height v_draft_folk v_draft_mustBeAbove) := hD
    refine lv_if_eq (tgt := 34) hx hb dX0_storeyStands_20 (by decide) (fun c20 => ?_) (fun c20 => ?_)
    · have hf := hf.1 c20
      refine lv_iconst hx hb dX0_storeyStands_34 kc_i_0 ?_
      exact hRet 0 (u6, u7, u8, v_draft_kind, v_draft_weight, v_draft_strength, v_draft_height, v_draft_folk, v_draft_mustBeAbove, v_draft_storeys, v_draft_cellars) 35 ls H locs dX0_storeyStands_35 (Or.inl rfl) hf hP hS
    · have hf := hf.2 c20
      refine lv_aload_n hx hb dX0_storeyStands_23 rfl (lv_at hl 0 rfl) ?_
      refine lv_iconst hx hb dX0_storeyStands_24 kc_i_2 ?_
      refine lv_iconst hx hb dX0_storeyStands_25 kc_i_1 ?_
      refine lv_bipush hx hb dX0_storeyStands_26 kc_b_9 ?_
      refine mx_wi (mx_runV (As := [.int 2, .int 1, .int 9]) (rest := []) hB (c_X0_numberStands l E a_t a_text a_draft a_numbers a_text_bytes v_lines u7 u8 v_text_length v_text_bytes u6 H.size 2 1 9 _ hf) sB_X0_numberStands sV_X0_numberStands wml_X0_129 rfl (mx_pwV hB hP hD [0, 1, 2, 3] (by decide) rfl rfl 0 rfl rfl rfl) hl.1 rfl (Nat.le_of_ble_eq_true rfl) dX0_storeyStands_28 ⟨Nat.zero_le _, Nat.zero_le _⟩) hP hD hS hA [0, 1, 2, 3] rfl (fun _ => rfl) (fun u => w_X0_storeyStands E a_t a_text a_draft a_numbers a_text_bytes a_draft_kind a_draft_weight a_draft_strength a_draft_height a_draft_folk a_draft_mustBeAbove a_draft_wind v_lines u.2.1 u.2.2 v_text_length v_text_bytes u.1 v_draft_storeys v_draft_pairs v_draft_bears v_draft_soft v_draft_cellars v_draft_kind v_draft_weight v_draft_strength v_draft_height v_draft_folk v_draft_mustBeAbove) (fun _ => rfl) (fun _ => rfl) (fun r9 u H locs hf hP hD hS => ?_)
      obtain ⟨u10, u11, u12⟩ := u
      have hP : va_P E.1 vwCl (w_X0_storeyStands E a_t a_text a_draft a_numbers a_text_bytes a_draft_kind a_draft_weight a_draft_strength a_draft_height a_draft_folk a_draft_mustBeAbove a_draft_wind v_lines u11 u12 v_text_length v_text_bytes u10 v_draft_storeys v_draft_pairs v_draft_bears v_draft_soft v_draft_cellars v_draft_kind v_draft_weight v_draft_strength v_draft_height v_draft_folk v_draft_mustBeAbove) H := hP
      have hD : va_D A (w_X0_storeyStands E a_t a_text a_draft a_numbers a_text_bytes a_draft_kind a_draft_weight a_draft_strength a_draft_height a_draft_folk a_draft_mustBeAbove a_draft_wind v_lines u11 u12 v_text_length v_text_bytes u10 v_draft_storeys v_draft_pairs v_draft_bears v_draft_soft v_draft_cellars v_draft_kind v_draft_weight v_draft_strength v_draft_height v_draft_folk v_draft_mustBeAbove) := hD
      refine lv_if_ne (tgt := 36) hx hb dX0_storeyStands_31 (by decide) (fun c31 => ?_) (fun c31 => ?_)
      · have hf := hf.1 c31
        refine lv_aload_n hx hb dX0_storeyStands_36 rfl (lv_at hl 0 rfl) ?_
        refine gf_X0_12 hB hP 0 rfl rfl dX0_storeyStands_37 ?_
        refine lv_iload_n hx hb dX0_storeyStands_40 rfl (lv_at hl 1 rfl) ?_
        refine lv_aload_n hx hb dX0_storeyStands_41 rfl (lv_at hl 0 rfl) ?_
        refine gf_X0_18 hB hP 0 rfl rfl dX0_storeyStands_42 ?_
        refine lv_iconst hx hb dX0_storeyStands_45 kc_i_0 ?_
        obtain ⟨h_in, hf⟩ := hf
        refine va_iald hx hb hB.K hP 3 0 rfl rfl h_in dX0_storeyStands_46 ?_
        refine lv_aload_n hx hb dX0_storeyStands_47 rfl (lv_at hl 0 rfl) ?_
        refine gf_X0_18 hB hP 0 rfl rfl dX0_storeyStands_48 ?_
        refine lv_iconst hx hb dX0_storeyStands_51 kc_i_1 ?_
        obtain ⟨h_in, hf⟩ := hf
        refine va_iald hx hb hB.K hP 3 0 rfl rfl h_in dX0_storeyStands_52 ?_
        refine lv_aload_n hx hb dX0_storeyStands_53 rfl (lv_at hl 0 rfl) ?_
        refine gf_X0_18 hB hP 0 rfl rfl dX0_storeyStands_54 ?_
        refine lv_iconst hx hb dX0_storeyStands_57 kc_i_2 ?_
        obtain ⟨h_in, hf⟩ := hf
        refine va_iald hx hb hB.K hP 3 0 rfl rfl h_in dX0_storeyStands_58 ?_
        refine mx_wv (mx_runN (As := [.int x1, .int (u10 (0 : Int32).toNatClampNeg), .int (u10 (1 : Int32).toNatClampNeg), .int (u10 (2 : Int32).toNatClampNeg)]) (rest := []) hB (c_X1_tellStorey l E a_draft a_draft_kind a_draft_weight a_draft_strength a_draft_height a_draft_folk a_draft_mustBeAbove a_draft_wind v_draft_storeys v_draft_pairs v_draft_bears v_draft_soft v_draft_cellars v_draft_kind v_draft_weight v_draft_strength v_draft_height v_draft_folk v_draft_mustBeAbove H.size x1 (u10 (0 : Int32).toNatClampNeg) (u10 (1 : Int32).toNatClampNeg) (u10 (2 : Int32).toNatClampNeg) _ hf) sB_X1_tellStorey sV_X1_tellStorey wmn_X0_133 rfl (mx_pwV hB hP hD [4, 5, 6, 7, 8, 9, 10] (by decide) rfl rfl 1 rfl rfl rfl) hl.1 rfl (Nat.le_of_ble_eq_true rfl) dX0_storeyStands_59 ⟨Nat.zero_le _, Nat.zero_le _⟩) hP hD hS hA [4, 5, 6, 7, 8, 9, 10] rfl (fun _ => rfl) (fun u => w_X0_storeyStands E a_t a_text a_draft a_numbers a_text_bytes a_draft_kind a_draft_weight a_draft_strength a_draft_height a_draft_folk a_draft_mustBeAbove a_draft_wind v_lines u11 u12 v_text_length v_text_bytes u10 u.2.2.2.2.2.2.1 v_draft_pairs v_draft_bears v_draft_soft u.2.2.2.2.2.2.2 u.1 u.2.1 u.2.2.1 u.2.2.2.1 u.2.2.2.2.1 u.2.2.2.2.2.1) (fun _ => rfl) (fun _ => rfl) (fun u H locs hf hP hD hS => ?_)
        obtain ⟨u14, u15, u16, u17, u18, u19, u20, u21⟩ := u
        have hP : va_P E.1 vwCl (w_X0_storeyStands E a_t a_text a_draft a_numbers a_text_bytes a_draft_kind a_draft_weight a_draft_strength a_draft_height a_draft_folk a_draft_mustBeAbove a_draft_wind v_lines u11 u12 v_text_length v_text_bytes u10 u20 v_draft_pairs v_draft_bears v_draft_soft u21 u14 u15 u16 u17 u18 u19) H := hP
        have hD : va_D A (w_X0_storeyStands E a_t a_text a_draft a_numbers a_text_bytes a_draft_kind a_draft_weight a_draft_strength a_draft_height a_draft_folk a_draft_mustBeAbove a_draft_wind v_lines u11 u12 v_text_length v_text_bytes u10 u20 v_draft_pairs v_draft_bears v_draft_soft u21 u14 u15 u16 u17 u18 u19) := hD
        refine lv_iconst hx hb dX0_storeyStands_62 kc_i_1 ?_
        exact hRet 1 (u10, u11, u12, u14, u15, u16, u17, u18, u19, u20, u21) 63 ls H locs dX0_storeyStands_63 (Or.inr rfl) hf hP hS
      · have hf := hf.2 c31
        refine lv_iconst hx hb dX0_storeyStands_34 kc_i_0 ?_
        exact hRet 0 (u10, u11, u12, v_draft_kind, v_draft_weight, v_draft_strength, v_draft_height, v_draft_folk, v_draft_mustBeAbove, v_draft_storeys, v_draft_cellars) 35 ls H locs dX0_storeyStands_35 (Or.inl rfl) hf hP hS
theorem c_X0_storeyStands (l : Launch) (E : mx_E) (a_t : Nat) (a_text : Nat) (a_draft : Nat) (a_numbers : Nat) (a_text_bytes : Nat) (a_draft_kind : Nat) (a_draft_weight : Nat) (a_draft_strength : Nat) (a_draft_height : Nat) (a_draft_folk : Nat) (a_draft_mustBeAbove : Nat) (a_draft_wind : Nat) (v_lines : Int32) (v_start : Int32) (v_end : Int32) (v_text_length : Int32) (v_text_bytes : (Nat → Int32)) (v_numbers : (Nat → Int32)) (v_draft_storeys : Int32) (v_draft_pairs : Int32) (v_draft_bears : Int32) (v_draft_soft : Int32) (v_draft_cellars : Int32) (v_draft_kind : (Nat → Int32)) (v_draft_weight : (Nat → Int32)) (v_draft_strength : (Nat → Int32)) (v_draft_height : (Nat → Int32)) (v_draft_folk : (Nat → Int32)) (v_draft_mustBeAbove : (Nat → Int32)) (sz : Nat) (x1 : Int32) (post : Int32 → (Nat → Int32) → Int32 → Int32 → (Nat → Int32) → (Nat → Int32) → (Nat → Int32) → (Nat → Int32) → (Nat → Int32) → (Nat → Int32) → Int32 → Int32 → Prop) (hf : f_X0_storeyStands v_text_length v_text_bytes v_numbers v_start v_end v_draft_kind v_draft_weight v_draft_strength v_draft_height v_draft_folk v_draft_mustBeAbove v_draft_storeys v_draft_cellars x1 post) : Met l yX0_storeyStands (Cond.code yX0_storeyStands cX0_storeyStands 2 (some .boolean) :: mx_WS) rm_X0_storeyStands (va_Pc [.ref a_t, .int x1] (mx_Pw E (w_X0_storeyStands E a_t a_text a_draft a_numbers a_text_bytes a_draft_kind a_draft_weight a_draft_strength a_draft_height a_draft_folk a_draft_mustBeAbove a_draft_wind v_lines v_start v_end v_text_length v_text_bytes v_numbers v_draft_storeys v_draft_pairs v_draft_bears v_draft_soft v_draft_cellars v_draft_kind v_draft_weight v_draft_strength v_draft_height v_draft_folk v_draft_mustBeAbove) sz)) (va_Qi (fun (v : Int32) (u : (Nat → Int32) × Int32 × Int32 × (Nat → Int32) × (Nat → Int32) × (Nat → Int32) × (Nat → Int32) × (Nat → Int32) × (Nat → Int32) × Int32 × Int32) => post v u.1 u.2.1 u.2.2.1 u.2.2.2.1 u.2.2.2.2.1 u.2.2.2.2.2.1 u.2.2.2.2.2.2.1 u.2.2.2.2.2.2.2.1 u.2.2.2.2.2.2.2.2.1 u.2.2.2.2.2.2.2.2.2.1 u.2.2.2.2.2.2.2.2.2.2) (fun u t => va_P E.1 vwCl (w_X0_storeyStands E a_t a_text a_draft a_numbers a_text_bytes a_draft_kind a_draft_weight a_draft_strength a_draft_height a_draft_folk a_draft_mustBeAbove a_draft_wind v_lines u.2.1 u.2.2.1 v_text_length v_text_bytes u.1 u.2.2.2.2.2.2.2.2.2.1 v_draft_pairs v_draft_bears v_draft_soft u.2.2.2.2.2.2.2.2.2.2 u.2.2.2.1 u.2.2.2.2.1 u.2.2.2.2.2.1 u.2.2.2.2.2.2.1 u.2.2.2.2.2.2.2.1 u.2.2.2.2.2.2.2.2.1) t.heap) (va_A (w_X0_storeyStands E a_t a_text a_draft a_numbers a_text_bytes a_draft_kind a_draft_weight a_draft_strength a_draft_height a_draft_folk a_draft_mustBeAbove a_draft_wind v_lines v_start v_end v_text_length v_text_bytes v_numbers v_draft_storeys v_draft_pairs v_draft_bears v_draft_soft v_draft_cellars v_draft_kind v_draft_weight v_draft_strength v_draft_height v_draft_folk v_draft_mustBeAbove) sz)) 0 0 (va_A (w_X0_storeyStands E a_t a_text a_draft a_numbers a_text_bytes a_draft_kind a_draft_weight a_draft_strength a_draft_height a_draft_folk a_draft_mustBeAbove a_draft_wind v_lines v_start v_end v_text_length v_text_bytes v_numbers v_draft_storeys v_draft_pairs v_draft_bears v_draft_soft v_draft_cellars v_draft_kind v_draft_weight v_draft_strength v_draft_height v_draft_folk v_draft_mustBeAbove) sz) :=
  mx_metWz (by decide) rfl rfl (fun hB hP hD hA hRet ls hl => b_X0_storeyStands E a_t a_text a_draft a_numbers a_text_bytes a_draft_kind a_draft_weight a_draft_strength a_draft_height a_draft_folk a_draft_mustBeAbove a_draft_wind v_lines v_start v_end v_text_length v_text_bytes v_numbers v_draft_storeys v_draft_pairs v_draft_bears v_draft_soft v_draft_cellars v_draft_kind v_draft_weight v_draft_strength v_draft_height v_draft_folk v_draft_mustBeAbove x1 post hB hP hD hA hRet hf ls hl)
def rm_X0_pairStands : Room := { frames := 3, cells := 0, slots := 0, locals := 69 }
set_option maxHeartbeats 4000000 in
set_option maxRecDepth 100000 in
theorem b_X0_pairStands {p : Program} {l : Launch} {e : Env} {s : State} {m : MethodId} {args : Array Value} {below : List Frame} {meth : Method} {c : Code} {Q : State → Prop} {A : Nat → Prop} (E : mx_E) (a_t : Nat) (a_text : Nat) (a_draft : Nat) (a_numbers : Nat) (a_draft_kind : Nat) (a_draft_weight : Nat) (a_draft_strength : Nat) (a_draft_height : Nat) (a_draft_folk : Nat) (a_draft_mustBeAbove : Nat) (a_draft_wind : Nat) (a_text_bytes : Nat) (v_lines : Int32) (v_start : Int32) (v_end : Int32) (v_draft_storeys : Int32) (v_draft_pairs : Int32) (v_draft_bears : Int32) (v_draft_soft : Int32) (v_draft_cellars : Int32) (v_text_length : Int32) (v_text_bytes : (Nat → Int32)) (v_numbers : (Nat → Int32)) (v_draft_mustBeAbove : (Nat → Int32))  (post : Int32 → (Nat → Int32) → Int32 → Int32 → (Nat → Int32) → Int32 → Prop) (hB : mx_B p m c cX0_pairStands 2 s args RX0 E) (hP : va_P E.1 vwCl (w_X0_pairStands E a_t a_text a_draft a_numbers a_draft_kind a_draft_weight a_draft_strength a_draft_height a_draft_folk a_draft_mustBeAbove a_draft_wind a_text_bytes v_lines v_start v_end v_draft_storeys v_draft_pairs v_draft_bears v_draft_soft v_draft_cellars v_text_length v_text_bytes v_numbers v_draft_mustBeAbove) s.heap) (hD : va_D A (w_X0_pairStands E a_t a_text a_draft a_numbers a_draft_kind a_draft_weight a_draft_strength a_draft_height a_draft_folk a_draft_mustBeAbove a_draft_wind a_text_bytes v_lines v_start v_end v_draft_storeys v_draft_pairs v_draft_bears v_draft_soft v_draft_cellars v_text_length v_text_bytes v_numbers v_draft_mustBeAbove)) (hA : ∀ q : Nat, s.heap.size ≤ q → A q) (hRet : ∀ (v : Int32) (u : (Nat → Int32) × Int32 × Int32 × (Nat → Int32) × Int32) (pc : Nat) (ls : Array Slot) (H : Heap) (locs : List Loc), decode cX0_pairStands pc = .ok (.ireturn, 1) → (v = 0 ∨ v = 1) → post v u.1 u.2.1 u.2.2.1 u.2.2.2.1 u.2.2.2.2 → va_P E.1 vwCl (w_X0_pairStands E a_t a_text a_draft a_numbers a_draft_kind a_draft_weight a_draft_strength a_draft_height a_draft_folk a_draft_mustBeAbove a_draft_wind a_text_bytes v_lines u.2.1 u.2.2.1 v_draft_storeys u.2.2.2.2 v_draft_bears v_draft_soft v_draft_cellars v_text_length v_text_bytes u.1 u.2.2.2.1) H → va_S A s.heap H locs → W p l e rm_X0_pairStands s m args below meth c H locs 0 0 Q (F0 m pc ls [.int v])) (hf : f_X0_pairStands v_draft_storeys v_text_length v_text_bytes v_numbers v_start v_end v_draft_mustBeAbove v_draft_pairs post) (ls : Array Slot) (hl : lv_has ls 2 [(0, .ref a_t)]) : W p l e rm_X0_pairStands s m args below meth c s.heap [] 0 0 Q (F0 m 0 ls []) := by
  have hx := hB.x
  have hb := hB.b
  have hS : va_S A s.heap s.heap [] := va_S.rf
  obtain ⟨H, locs, eH, eL⟩ : ∃ (H : Heap) (locs : List Loc), H = s.heap ∧ locs = [] := ⟨_, _, rfl, rfl⟩
  rw [← eH] at hP
  have hS : va_S A s.heap H locs := by rw [eH, eL]; exact hS
  show W p l e rm_X0_pairStands s m args below meth c s.heap [] 0 0 Q (F0 m 0 ls [])
  rw [← eH, ← eL]
  unfold f_X0_pairStands at hf
  refine lv_aload_n hx hb dX0_pairStands_0 rfl (lv_at hl 0 rfl) ?_
  refine gf_X0_12 hB hP 0 rfl rfl dX0_pairStands_1 ?_
  refine gf_X0_123 hB hP 1 rfl rfl dX0_pairStands_4 ?_
  refine lv_iconst hx hb dX0_pairStands_7 kc_i_1 ?_
  refine lv_isub hx hb dX0_pairStands_8 ?_
  refine lv_istore_n (lv' := [(1, .int (v_draft_storeys - 1)), (0, .ref a_t)]) hx hb dX0_pairStands_9 rfl hl (by decide) rfl (fun ls hl => ?_)
  refine lv_aload_n hx hb dX0_pairStands_10 rfl (lv_at hl 1 rfl) ?_
  refine lv_iconst hx hb dX0_pairStands_11 kc_i_0 ?_
  refine lv_iconst hx hb dX0_pairStands_12 kc_i_0 ?_
  refine lv_iload_n hx hb dX0_pairStands_13 rfl (lv_at hl 0 rfl) ?_
  refine mx_wi (mx_runV (As := [.int 0, .int 0, .int (v_draft_storeys - 1)]) (rest := []) hB (c_X0_numberStands l E a_t a_text a_draft a_numbers a_text_bytes v_lines v_start v_end v_text_length v_text_bytes v_numbers H.size 0 0 (v_draft_storeys - 1) _ hf) sB_X0_numberStands sV_X0_numberStands wml_X0_129 rfl (mx_pwV hB hP hD [0, 2, 3, 4] (by decide) rfl rfl 0 rfl rfl rfl) hl.1 rfl (Nat.le_of_ble_eq_true rfl) dX0_pairStands_14 ⟨Nat.zero_le _, Nat.zero_le _⟩) hP hD hS hA [0, 2, 3, 4] rfl (fun _ => rfl) (fun u => w_X0_pairStands E a_t a_text a_draft a_numbers a_draft_kind a_draft_weight a_draft_strength a_draft_height a_draft_folk a_draft_mustBeAbove a_draft_wind a_text_bytes v_lines u.2.1 u.2.2 v_draft_storeys v_draft_pairs v_draft_bears v_draft_soft v_draft_cellars v_text_length v_text_bytes u.1 v_draft_mustBeAbove) (fun _ => rfl) (fun _ => rfl) (fun r1 u H locs hf hP hD hS => ?_)
  obtain ⟨u2, u3, u4⟩ := u
  have hP : va_P E.1 vwCl (w_X0_pairStands E a_t a_text a_draft a_numbers a_draft_kind a_draft_weight a_draft_strength a_draft_height a_draft_folk a_draft_mustBeAbove a_draft_wind a_text_bytes v_lines u3 u4 v_draft_storeys v_draft_pairs v_draft_bears v_draft_soft v_draft_cellars v_text_length v_text_bytes u2 v_draft_mustBeAbove) H := hP
  have hD : va_D A (w_X0_pairStands E a_t a_text a_draft a_numbers a_draft_kind a_draft_weight a_draft_strength a_draft_height a_draft_folk a_draft_mustBeAbove a_draft_wind a_text_bytes v_lines u3 u4 v_draft_storeys v_draft_pairs v_draft_bears v_draft_soft v_draft_cellars v_text_length v_text_bytes u2 v_draft_mustBeAbove) := hD
  refine lv_if_eq (tgt := 43) hx hb dX0_pairStands_17 (by decide) (fun c17 => ?_) (fun c17 => ?_)
  · have hf := hf.1 c17
    refine lv_iconst hx hb dX0_pairStands_43 kc_i_0 ?_
    exact hRet 0 (u2, u3, u4, v_draft_mustBeAbove, v_draft_pairs) 44 ls H locs dX0_pairStands_44 (Or.inl rfl) hf hP hS
  · have hf := hf.2 c17
    refine lv_aload_n hx hb dX0_pairStands_20 rfl (lv_at hl 1 rfl) ?_
    refine mx_gi (mx_runV (As := []) (rest := []) hB (c_X0_numberHere l E a_t a_text a_draft a_numbers a_text_bytes v_lines u3 u4 v_text_length v_text_bytes _ hf) sB_X0_numberHere sV_X0_numberHere wml_X0_150 rfl (mx_ppV hB hP [0, 2, 3] rfl 0 rfl rfl rfl) hl.1 rfl (Nat.le_of_ble_eq_true rfl) dX0_pairStands_21 ⟨Nat.zero_le _, Nat.zero_le _⟩) (fun r5 hf => ?_)
    refine lv_aload_n hx hb dX0_pairStands_24 rfl (lv_at hl 1 rfl) ?_
    refine gf_X0_18 hB hP 0 rfl rfl dX0_pairStands_25 ?_
    refine lv_iconst hx hb dX0_pairStands_28 kc_i_0 ?_
    obtain ⟨h_in, hf⟩ := hf
    refine va_iald hx hb hB.K hP 4 0 rfl rfl h_in dX0_pairStands_29 ?_
    refine lv_icmp_eq (tgt := 43) hx hb dX0_pairStands_30 (by decide) (fun c30 => ?_) (fun c30 => ?_)
    · have hf := hf.1 c30
      refine lv_iconst hx hb dX0_pairStands_43 kc_i_0 ?_
      exact hRet 0 (u2, u3, u4, v_draft_mustBeAbove, v_draft_pairs) 44 ls H locs dX0_pairStands_44 (Or.inl rfl) hf hP hS
    · have hf := hf.2 c30
      refine lv_aload_n hx hb dX0_pairStands_33 rfl (lv_at hl 1 rfl) ?_
      refine lv_iconst hx hb dX0_pairStands_34 kc_i_1 ?_
      refine lv_iconst hx hb dX0_pairStands_35 kc_i_0 ?_
      refine lv_iload_n hx hb dX0_pairStands_36 rfl (lv_at hl 0 rfl) ?_
      refine mx_wi (mx_runV (As := [.int 1, .int 0, .int (v_draft_storeys - 1)]) (rest := []) hB (c_X0_numberStands l E a_t a_text a_draft a_numbers a_text_bytes v_lines u3 u4 v_text_length v_text_bytes u2 H.size 1 0 (v_draft_storeys - 1) _ hf) sB_X0_numberStands sV_X0_numberStands wml_X0_129 rfl (mx_pwV hB hP hD [0, 2, 3, 4] (by decide) rfl rfl 0 rfl rfl rfl) hl.1 rfl (Nat.le_of_ble_eq_true rfl) dX0_pairStands_37 ⟨Nat.zero_le _, Nat.zero_le _⟩) hP hD hS hA [0, 2, 3, 4] rfl (fun _ => rfl) (fun u => w_X0_pairStands E a_t a_text a_draft a_numbers a_draft_kind a_draft_weight a_draft_strength a_draft_height a_draft_folk a_draft_mustBeAbove a_draft_wind a_text_bytes v_lines u.2.1 u.2.2 v_draft_storeys v_draft_pairs v_draft_bears v_draft_soft v_draft_cellars v_text_length v_text_bytes u.1 v_draft_mustBeAbove) (fun _ => rfl) (fun _ => rfl) (fun r6 u H locs hf hP hD hS => ?_)
      obtain ⟨u7, u8, u9⟩ := u
      have hP : va_P E.1 vwCl (w_X0_pairStands E a_t a_text a_draft a_numbers a_draft_kind a_draft_weight a_draft_strength a_draft_height a_draft_folk a_draft_mustBeAbove a_draft_wind a_text_bytes v_lines u8 u9 v_draft_storeys v_draft_pairs v_draft_bears v_draft_soft v_draft_cellars v_text_length v_text_bytes u7 v_draft_mustBeAbove) H := hP
      have hD : va_D A (w_X0_pairStands E a_t a_text a_draft a_numbers a_draft_kind a_draft_weight a_draft_strength a_draft_height a_draft_folk a_draft_mustBeAbove a_draft_wind a_text_bytes v_lines u8 u9 v_draft_storeys v_draft_pairs v_draft_bears v_draft_soft v_draft_cellars v_text_length v_text_bytes u7 v_draft_mustBeAbove) := hD
      refine lv_if_ne (tgt := 45) hx hb dX0_pairStands_40 (by decide) (fun c40 => ?_) (fun c40 => ?_)
      · have hf := hf.1 c40
        refine lv_aload_n hx hb dX0_pairStands_45 rfl (lv_at hl 1 rfl) ?_
        refine gf_X0_12 hB hP 0 rfl rfl dX0_pairStands_46 ?_
        refine lv_aload_n hx hb dX0_pairStands_49 rfl (lv_at hl 1 rfl) ?_
        refine gf_X0_18 hB hP 0 rfl rfl dX0_pairStands_50 ?_
        refine lv_iconst hx hb dX0_pairStands_53 kc_i_0 ?_
        obtain ⟨h_in, hf⟩ := hf
        refine va_iald hx hb hB.K hP 4 0 rfl rfl h_in dX0_pairStands_54 ?_
        refine lv_aload_n hx hb dX0_pairStands_55 rfl (lv_at hl 1 rfl) ?_
        refine gf_X0_18 hB hP 0 rfl rfl dX0_pairStands_56 ?_
        refine lv_iconst hx hb dX0_pairStands_59 kc_i_1 ?_
        obtain ⟨h_in, hf⟩ := hf
        refine va_iald hx hb hB.K hP 4 0 rfl rfl h_in dX0_pairStands_60 ?_
        refine mx_wv (mx_runN (As := [.int (u7 (0 : Int32).toNatClampNeg), .int (u7 (1 : Int32).toNatClampNeg)]) (rest := []) hB (c_X1_tellPair l E a_draft a_draft_kind a_draft_weight a_draft_strength a_draft_height a_draft_folk a_draft_mustBeAbove a_draft_wind v_draft_storeys v_draft_pairs v_draft_bears v_draft_soft v_draft_cellars v_draft_mustBeAbove H.size (u7 (0 : Int32).toNatClampNeg) (u7 (1 : Int32).toNatClampNeg) _ hf) sB_X1_tellPair sV_X1_tellPair wmn_X0_153 rfl (mx_pwV hB hP hD [1, 5] (by decide) rfl rfl 1 rfl rfl rfl) hl.1 rfl (Nat.le_of_ble_eq_true rfl) dX0_pairStands_61 ⟨Nat.zero_le _, Nat.zero_le _⟩) hP hD hS hA [1, 5] rfl (fun _ => rfl) (fun u => w_X0_pairStands E a_t a_text a_draft a_numbers a_draft_kind a_draft_weight a_draft_strength a_draft_height a_draft_folk a_draft_mustBeAbove a_draft_wind a_text_bytes v_lines u8 u9 v_draft_storeys u.2 v_draft_bears v_draft_soft v_draft_cellars v_text_length v_text_bytes u7 u.1) (fun _ => rfl) (fun _ => rfl) (fun u H locs hf hP hD hS => ?_)
        obtain ⟨u11, u12⟩ := u
        have hP : va_P E.1 vwCl (w_X0_pairStands E a_t a_text a_draft a_numbers a_draft_kind a_draft_weight a_draft_strength a_draft_height a_draft_folk a_draft_mustBeAbove a_draft_wind a_text_bytes v_lines u8 u9 v_draft_storeys u12 v_draft_bears v_draft_soft v_draft_cellars v_text_length v_text_bytes u7 u11) H := hP
        have hD : va_D A (w_X0_pairStands E a_t a_text a_draft a_numbers a_draft_kind a_draft_weight a_draft_strength a_draft_height a_draft_folk a_draft_mustBeAbove a_draft_wind a_text_bytes v_lines u8 u9 v_draft_storeys u12 v_draft_bears v_draft_soft v_draft_cellars v_text_length v_text_bytes u7 u11) := hD
        refine lv_iconst hx hb dX0_pairStands_64 kc_i_1 ?_
        exact hRet 1 (u7, u8, u9, u11, u12) 65 ls H locs dX0_pairStands_65 (Or.inr rfl) hf hP hS
      · have hf := hf.2 c40
        refine lv_iconst hx hb dX0_pairStands_43 kc_i_0 ?_
        exact hRet 0 (u7, u8, u9, v_draft_mustBeAbove, v_draft_pairs) 44 ls H locs dX0_pairStands_44 (Or.inl rfl) hf hP hS
theorem c_X0_pairStands (l : Launch) (E : mx_E) (a_t : Nat) (a_text : Nat) (a_draft : Nat) (a_numbers : Nat) (a_draft_kind : Nat) (a_draft_weight : Nat) (a_draft_strength : Nat) (a_draft_height : Nat) (a_draft_folk : Nat) (a_draft_mustBeAbove : Nat) (a_draft_wind : Nat) (a_text_bytes : Nat) (v_lines : Int32) (v_start : Int32) (v_end : Int32) (v_draft_storeys : Int32) (v_draft_pairs : Int32) (v_draft_bears : Int32) (v_draft_soft : Int32) (v_draft_cellars : Int32) (v_text_length : Int32) (v_text_bytes : (Nat → Int32)) (v_numbers : (Nat → Int32)) (v_draft_mustBeAbove : (Nat → Int32)) (sz : Nat)  (post : Int32 → (Nat → Int32) → Int32 → Int32 → (Nat → Int32) → Int32 → Prop) (hf : f_X0_pairStands v_draft_storeys v_text_length v_text_bytes v_numbers v_start v_end v_draft_mustBeAbove v_draft_pairs post) : Met l yX0_pairStands (Cond.code yX0_pairStands cX0_pairStands 2 (some .boolean) :: mx_WS) rm_X0_pairStands (va_Pc [.ref a_t] (mx_Pw E (w_X0_pairStands E a_t a_text a_draft a_numbers a_draft_kind a_draft_weight a_draft_strength a_draft_height a_draft_folk a_draft_mustBeAbove a_draft_wind a_text_bytes v_lines v_start v_end v_draft_storeys v_draft_pairs v_draft_bears v_draft_soft v_draft_cellars v_text_length v_text_bytes v_numbers v_draft_mustBeAbove) sz)) (va_Qi (fun (v : Int32) (u : (Nat → Int32) × Int32 × Int32 × (Nat → Int32) × Int32) => post v u.1 u.2.1 u.2.2.1 u.2.2.2.1 u.2.2.2.2) (fun u t => va_P E.1 vwCl (w_X0_pairStands E a_t a_text a_draft a_numbers a_draft_kind a_draft_weight a_draft_strength a_draft_height a_draft_folk a_draft_mustBeAbove a_draft_wind a_text_bytes v_lines u.2.1 u.2.2.1 v_draft_storeys u.2.2.2.2 v_draft_bears v_draft_soft v_draft_cellars v_text_length v_text_bytes u.1 u.2.2.2.1) t.heap) (va_A (w_X0_pairStands E a_t a_text a_draft a_numbers a_draft_kind a_draft_weight a_draft_strength a_draft_height a_draft_folk a_draft_mustBeAbove a_draft_wind a_text_bytes v_lines v_start v_end v_draft_storeys v_draft_pairs v_draft_bears v_draft_soft v_draft_cellars v_text_length v_text_bytes v_numbers v_draft_mustBeAbove) sz)) 0 0 (va_A (w_X0_pairStands E a_t a_text a_draft a_numbers a_draft_kind a_draft_weight a_draft_strength a_draft_height a_draft_folk a_draft_mustBeAbove a_draft_wind a_text_bytes v_lines v_start v_end v_draft_storeys v_draft_pairs v_draft_bears v_draft_soft v_draft_cellars v_text_length v_text_bytes v_numbers v_draft_mustBeAbove) sz) :=
  mx_metWz (by decide) rfl rfl (fun hB hP hD hA hRet ls hl => b_X0_pairStands E a_t a_text a_draft a_numbers a_draft_kind a_draft_weight a_draft_strength a_draft_height a_draft_folk a_draft_mustBeAbove a_draft_wind a_text_bytes v_lines v_start v_end v_draft_storeys v_draft_pairs v_draft_bears v_draft_soft v_draft_cellars v_text_length v_text_bytes v_numbers v_draft_mustBeAbove  post hB hP hD hA hRet hf ls hl)
def rm_X0_windStands : Room := { frames := 3, cells := 0, slots := 0, locals := 69 }
set_option maxHeartbeats 4000000 in
set_option maxRecDepth 100000 in
theorem b_X0_windStands {p : Program} {l : Launch} {e : Env} {s : State} {m : MethodId} {args : Array Value} {below : List Frame} {meth : Method} {c : Code} {Q : State → Prop} {A : Nat → Prop} (E : mx_E) (a_t : Nat) (a_text : Nat) (a_draft : Nat) (a_numbers : Nat) (a_text_bytes : Nat) (a_draft_kind : Nat) (a_draft_weight : Nat) (a_draft_strength : Nat) (a_draft_height : Nat) (a_draft_folk : Nat) (a_draft_mustBeAbove : Nat) (a_draft_wind : Nat) (v_lines : Int32) (v_start : Int32) (v_end : Int32) (v_text_length : Int32) (v_text_bytes : (Nat → Int32)) (v_numbers : (Nat → Int32)) (v_draft_storeys : Int32) (v_draft_pairs : Int32) (v_draft_bears : Int32) (v_draft_soft : Int32) (v_draft_cellars : Int32) (v_draft_wind : (Nat → Int32))  (post : Int32 → (Nat → Int32) → Int32 → Int32 → (Nat → Int32) → Prop) (hB : mx_B p m c cX0_windStands 1 s args RX0 E) (hP : va_P E.1 vwCl (w_X0_windStands E a_t a_text a_draft a_numbers a_text_bytes a_draft_kind a_draft_weight a_draft_strength a_draft_height a_draft_folk a_draft_mustBeAbove a_draft_wind v_lines v_start v_end v_text_length v_text_bytes v_numbers v_draft_storeys v_draft_pairs v_draft_bears v_draft_soft v_draft_cellars v_draft_wind) s.heap) (hD : va_D A (w_X0_windStands E a_t a_text a_draft a_numbers a_text_bytes a_draft_kind a_draft_weight a_draft_strength a_draft_height a_draft_folk a_draft_mustBeAbove a_draft_wind v_lines v_start v_end v_text_length v_text_bytes v_numbers v_draft_storeys v_draft_pairs v_draft_bears v_draft_soft v_draft_cellars v_draft_wind)) (hA : ∀ q : Nat, s.heap.size ≤ q → A q) (hRet : ∀ (v : Int32) (u : (Nat → Int32) × Int32 × Int32 × (Nat → Int32)) (pc : Nat) (ls : Array Slot) (H : Heap) (locs : List Loc), decode cX0_windStands pc = .ok (.ireturn, 1) → (v = 0 ∨ v = 1) → post v u.1 u.2.1 u.2.2.1 u.2.2.2 → va_P E.1 vwCl (w_X0_windStands E a_t a_text a_draft a_numbers a_text_bytes a_draft_kind a_draft_weight a_draft_strength a_draft_height a_draft_folk a_draft_mustBeAbove a_draft_wind v_lines u.2.1 u.2.2.1 v_text_length v_text_bytes u.1 v_draft_storeys v_draft_pairs v_draft_bears v_draft_soft v_draft_cellars u.2.2.2) H → va_S A s.heap H locs → W p l e rm_X0_windStands s m args below meth c H locs 0 0 Q (F0 m pc ls [.int v])) (hf : f_X0_windStands v_text_length v_text_bytes v_numbers v_start v_end v_draft_wind post) (ls : Array Slot) (hl : lv_has ls 1 [(0, .ref a_t)]) : W p l e rm_X0_windStands s m args below meth c s.heap [] 0 0 Q (F0 m 0 ls []) := by
  have hx := hB.x
  have hb := hB.b
  have hS : va_S A s.heap s.heap [] := va_S.rf
  obtain ⟨H, locs, eH, eL⟩ : ∃ (H : Heap) (locs : List Loc), H = s.heap ∧ locs = [] := ⟨_, _, rfl, rfl⟩
  rw [← eH] at hP
  have hS : va_S A s.heap H locs := by rw [eH, eL]; exact hS
  show W p l e rm_X0_windStands s m args below meth c s.heap [] 0 0 Q (F0 m 0 ls [])
  rw [← eH, ← eL]
  unfold f_X0_windStands at hf
  refine lv_aload_n hx hb dX0_windStands_0 rfl (lv_at hl 0 rfl) ?_
  refine lv_iconst hx hb dX0_windStands_1 kc_i_0 ?_
  refine lv_iconst hx hb dX0_windStands_2 kc_i_0 ?_
  refine lv_bipush hx hb dX0_windStands_3 kc_b_39 ?_
  refine mx_wi (mx_runV (As := [.int 0, .int 0, .int 39]) (rest := []) hB (c_X0_numberStands l E a_t a_text a_draft a_numbers a_text_bytes v_lines v_start v_end v_text_length v_text_bytes v_numbers H.size 0 0 39 _ hf) sB_X0_numberStands sV_X0_numberStands wml_X0_129 rfl (mx_pwV hB hP hD [0, 1, 2, 3] (by decide) rfl rfl 0 rfl rfl rfl) hl.1 rfl (Nat.le_of_ble_eq_true rfl) dX0_windStands_5 ⟨Nat.zero_le _, Nat.zero_le _⟩) hP hD hS hA [0, 1, 2, 3] rfl (fun _ => rfl) (fun u => w_X0_windStands E a_t a_text a_draft a_numbers a_text_bytes a_draft_kind a_draft_weight a_draft_strength a_draft_height a_draft_folk a_draft_mustBeAbove a_draft_wind v_lines u.2.1 u.2.2 v_text_length v_text_bytes u.1 v_draft_storeys v_draft_pairs v_draft_bears v_draft_soft v_draft_cellars v_draft_wind) (fun _ => rfl) (fun _ => rfl) (fun r1 u H locs hf hP hD hS => ?_)
  obtain ⟨u2, u3, u4⟩ := u
  have hP : va_P E.1 vwCl (w_X0_windStands E a_t a_text a_draft a_numbers a_text_bytes a_draft_kind a_draft_weight a_draft_strength a_draft_height a_draft_folk a_draft_mustBeAbove a_draft_wind v_lines u3 u4 v_text_length v_text_bytes u2 v_draft_storeys v_draft_pairs v_draft_bears v_draft_soft v_draft_cellars v_draft_wind) H := hP
  have hD : va_D A (w_X0_windStands E a_t a_text a_draft a_numbers a_text_bytes a_draft_kind a_draft_weight a_draft_strength a_draft_height a_draft_folk a_draft_mustBeAbove a_draft_wind v_lines u3 u4 v_text_length v_text_bytes u2 v_draft_storeys v_draft_pairs v_draft_bears v_draft_soft v_draft_cellars v_draft_wind) := hD
  refine lv_if_eq (tgt := 27) hx hb dX0_windStands_8 (by decide) (fun c8 => ?_) (fun c8 => ?_)
  · have hf := hf.1 c8
    refine lv_iconst hx hb dX0_windStands_27 kc_i_0 ?_
    exact hRet 0 (u2, u3, u4, v_draft_wind) 28 ls H locs dX0_windStands_28 (Or.inl rfl) hf hP hS
  · have hf := hf.2 c8
    refine lv_aload_n hx hb dX0_windStands_11 rfl (lv_at hl 0 rfl) ?_
    refine lv_iconst hx hb dX0_windStands_12 kc_i_1 ?_
    refine lv_aload_n hx hb dX0_windStands_13 rfl (lv_at hl 0 rfl) ?_
    refine gf_X0_18 hB hP 0 rfl rfl dX0_windStands_14 ?_
    refine lv_iconst hx hb dX0_windStands_17 kc_i_0 ?_
    obtain ⟨h_in, hf⟩ := hf
    refine va_iald hx hb hB.K hP 3 0 rfl rfl h_in dX0_windStands_18 ?_
    refine lv_bipush hx hb dX0_windStands_19 kc_b_39 ?_
    refine mx_wi (mx_runV (As := [.int 1, .int (u2 (0 : Int32).toNatClampNeg), .int 39]) (rest := []) hB (c_X0_numberStands l E a_t a_text a_draft a_numbers a_text_bytes v_lines u3 u4 v_text_length v_text_bytes u2 H.size 1 (u2 (0 : Int32).toNatClampNeg) 39 _ hf) sB_X0_numberStands sV_X0_numberStands wml_X0_129 rfl (mx_pwV hB hP hD [0, 1, 2, 3] (by decide) rfl rfl 0 rfl rfl rfl) hl.1 rfl (Nat.le_of_ble_eq_true rfl) dX0_windStands_21 ⟨Nat.zero_le _, Nat.zero_le _⟩) hP hD hS hA [0, 1, 2, 3] rfl (fun _ => rfl) (fun u => w_X0_windStands E a_t a_text a_draft a_numbers a_text_bytes a_draft_kind a_draft_weight a_draft_strength a_draft_height a_draft_folk a_draft_mustBeAbove a_draft_wind v_lines u.2.1 u.2.2 v_text_length v_text_bytes u.1 v_draft_storeys v_draft_pairs v_draft_bears v_draft_soft v_draft_cellars v_draft_wind) (fun _ => rfl) (fun _ => rfl) (fun r5 u H locs hf hP hD hS => ?_)
    obtain ⟨u6, u7, u8⟩ := u
    have hP : va_P E.1 vwCl (w_X0_windStands E a_t a_text a_draft a_numbers a_text_bytes a_draft_kind a_draft_weight a_draft_strength a_draft_height a_draft_folk a_draft_mustBeAbove a_draft_wind v_lines u7 u8 v_text_length v_text_bytes u6 v_draft_storeys v_draft_pairs v_draft_bears v_draft_soft v_draft_cellars v_draft_wind) H := hP
    have hD : va_D A (w_X0_windStands E a_t a_text a_draft a_numbers a_text_bytes a_draft_kind a_draft_weight a_draft_strength a_draft_height a_draft_folk a_draft_mustBeAbove a_draft_wind v_lines u7 u8 v_text_length v_text_bytes u6 v_draft_storeys v_draft_pairs v_draft_bears v_draft_soft v_draft_cellars v_draft_wind) := hD
    refine lv_if_ne (tgt := 29) hx hb dX0_windStands_24 (by decide) (fun c24 => ?_) (fun c24 => ?_)
    · have hf := hf.1 c24
      refine lv_aload_n hx hb dX0_windStands_29 rfl (lv_at hl 0 rfl) ?_
      refine lv_iconst hx hb dX0_windStands_30 kc_i_2 ?_
      refine lv_iconst hx hb dX0_windStands_31 kc_i_0 ?_
      refine lv_bipush hx hb dX0_windStands_32 kc_b_9 ?_
      refine mx_wi (mx_runV (As := [.int 2, .int 0, .int 9]) (rest := []) hB (c_X0_numberStands l E a_t a_text a_draft a_numbers a_text_bytes v_lines u7 u8 v_text_length v_text_bytes u6 H.size 2 0 9 _ hf) sB_X0_numberStands sV_X0_numberStands wml_X0_129 rfl (mx_pwV hB hP hD [0, 1, 2, 3] (by decide) rfl rfl 0 rfl rfl rfl) hl.1 rfl (Nat.le_of_ble_eq_true rfl) dX0_windStands_34 ⟨Nat.zero_le _, Nat.zero_le _⟩) hP hD hS hA [0, 1, 2, 3] rfl (fun _ => rfl) (fun u => w_X0_windStands E a_t a_text a_draft a_numbers a_text_bytes a_draft_kind a_draft_weight a_draft_strength a_draft_height a_draft_folk a_draft_mustBeAbove a_draft_wind v_lines u.2.1 u.2.2 v_text_length v_text_bytes u.1 v_draft_storeys v_draft_pairs v_draft_bears v_draft_soft v_draft_cellars v_draft_wind) (fun _ => rfl) (fun _ => rfl) (fun r9 u H locs hf hP hD hS => ?_)
      obtain ⟨u10, u11, u12⟩ := u
      have hP : va_P E.1 vwCl (w_X0_windStands E a_t a_text a_draft a_numbers a_text_bytes a_draft_kind a_draft_weight a_draft_strength a_draft_height a_draft_folk a_draft_mustBeAbove a_draft_wind v_lines u11 u12 v_text_length v_text_bytes u10 v_draft_storeys v_draft_pairs v_draft_bears v_draft_soft v_draft_cellars v_draft_wind) H := hP
      have hD : va_D A (w_X0_windStands E a_t a_text a_draft a_numbers a_text_bytes a_draft_kind a_draft_weight a_draft_strength a_draft_height a_draft_folk a_draft_mustBeAbove a_draft_wind v_lines u11 u12 v_text_length v_text_bytes u10 v_draft_storeys v_draft_pairs v_draft_bears v_draft_soft v_draft_cellars v_draft_wind) := hD
      refine lv_if_ne (tgt := 42) hx hb dX0_windStands_37 (by decide) (fun c37 => ?_) (fun c37 => ?_)
      · have hf := hf.1 c37
        refine lv_aload_n hx hb dX0_windStands_42 rfl (lv_at hl 0 rfl) ?_
        refine gf_X0_12 hB hP 0 rfl rfl dX0_windStands_43 ?_
        refine lv_aload_n hx hb dX0_windStands_46 rfl (lv_at hl 0 rfl) ?_
        refine gf_X0_18 hB hP 0 rfl rfl dX0_windStands_47 ?_
        refine lv_iconst hx hb dX0_windStands_50 kc_i_0 ?_
        obtain ⟨h_in, hf⟩ := hf
        refine va_iald hx hb hB.K hP 3 0 rfl rfl h_in dX0_windStands_51 ?_
        refine lv_aload_n hx hb dX0_windStands_52 rfl (lv_at hl 0 rfl) ?_
        refine gf_X0_18 hB hP 0 rfl rfl dX0_windStands_53 ?_
        refine lv_iconst hx hb dX0_windStands_56 kc_i_1 ?_
        obtain ⟨h_in, hf⟩ := hf
        refine va_iald hx hb hB.K hP 3 0 rfl rfl h_in dX0_windStands_57 ?_
        refine lv_aload_n hx hb dX0_windStands_58 rfl (lv_at hl 0 rfl) ?_
        refine gf_X0_18 hB hP 0 rfl rfl dX0_windStands_59 ?_
        refine lv_iconst hx hb dX0_windStands_62 kc_i_2 ?_
        obtain ⟨h_in, hf⟩ := hf
        refine va_iald hx hb hB.K hP 3 0 rfl rfl h_in dX0_windStands_63 ?_
        refine mx_wv (mx_runN (As := [.int (u10 (0 : Int32).toNatClampNeg), .int (u10 (1 : Int32).toNatClampNeg), .int (u10 (2 : Int32).toNatClampNeg)]) (rest := []) hB (c_X1_tellWind l E a_draft a_draft_kind a_draft_weight a_draft_strength a_draft_height a_draft_folk a_draft_mustBeAbove a_draft_wind v_draft_storeys v_draft_pairs v_draft_bears v_draft_soft v_draft_cellars v_draft_wind H.size (u10 (0 : Int32).toNatClampNeg) (u10 (1 : Int32).toNatClampNeg) (u10 (2 : Int32).toNatClampNeg) _ hf) sB_X1_tellWind sV_X1_tellWind wmn_X0_146 rfl (mx_pwV hB hP hD [4, 5] (by decide) rfl rfl 1 rfl rfl rfl) hl.1 rfl (Nat.le_of_ble_eq_true rfl) dX0_windStands_64 ⟨Nat.zero_le _, Nat.zero_le _⟩) hP hD hS hA [4, 5] rfl (fun _ => rfl) (fun u => w_X0_windStands E a_t a_text a_draft a_numbers a_text_bytes a_draft_kind a_draft_weight a_draft_strength a_draft_height a_draft_folk a_draft_mustBeAbove a_draft_wind v_lines u11 u12 v_text_length v_text_bytes u10 v_draft_storeys v_draft_pairs v_draft_bears v_draft_soft v_draft_cellars u) (fun _ => rfl) (fun _ => rfl) (fun u H locs hf hP hD hS => ?_)
        obtain ⟨u14, rfl⟩ : ∃ z, z = u := ⟨_, rfl⟩
        have hP : va_P E.1 vwCl (w_X0_windStands E a_t a_text a_draft a_numbers a_text_bytes a_draft_kind a_draft_weight a_draft_strength a_draft_height a_draft_folk a_draft_mustBeAbove a_draft_wind v_lines u11 u12 v_text_length v_text_bytes u10 v_draft_storeys v_draft_pairs v_draft_bears v_draft_soft v_draft_cellars u14) H := hP
        have hD : va_D A (w_X0_windStands E a_t a_text a_draft a_numbers a_text_bytes a_draft_kind a_draft_weight a_draft_strength a_draft_height a_draft_folk a_draft_mustBeAbove a_draft_wind v_lines u11 u12 v_text_length v_text_bytes u10 v_draft_storeys v_draft_pairs v_draft_bears v_draft_soft v_draft_cellars u14) := hD
        refine lv_iconst hx hb dX0_windStands_67 kc_i_1 ?_
        exact hRet 1 (u10, u11, u12, u14) 68 ls H locs dX0_windStands_68 (Or.inr rfl) hf hP hS
      · have hf := hf.2 c37
        refine lv_iconst hx hb dX0_windStands_40 kc_i_0 ?_
        exact hRet 0 (u10, u11, u12, v_draft_wind) 41 ls H locs dX0_windStands_41 (Or.inl rfl) hf hP hS
    · have hf := hf.2 c24
      refine lv_iconst hx hb dX0_windStands_27 kc_i_0 ?_
      exact hRet 0 (u6, u7, u8, v_draft_wind) 28 ls H locs dX0_windStands_28 (Or.inl rfl) hf hP hS
theorem c_X0_windStands (l : Launch) (E : mx_E) (a_t : Nat) (a_text : Nat) (a_draft : Nat) (a_numbers : Nat) (a_text_bytes : Nat) (a_draft_kind : Nat) (a_draft_weight : Nat) (a_draft_strength : Nat) (a_draft_height : Nat) (a_draft_folk : Nat) (a_draft_mustBeAbove : Nat) (a_draft_wind : Nat) (v_lines : Int32) (v_start : Int32) (v_end : Int32) (v_text_length : Int32) (v_text_bytes : (Nat → Int32)) (v_numbers : (Nat → Int32)) (v_draft_storeys : Int32) (v_draft_pairs : Int32) (v_draft_bears : Int32) (v_draft_soft : Int32) (v_draft_cellars : Int32) (v_draft_wind : (Nat → Int32)) (sz : Nat)  (post : Int32 → (Nat → Int32) → Int32 → Int32 → (Nat → Int32) → Prop) (hf : f_X0_windStands v_text_length v_text_bytes v_numbers v_start v_end v_draft_wind post) : Met l yX0_windStands (Cond.code yX0_windStands cX0_windStands 1 (some .boolean) :: mx_WS) rm_X0_windStands (va_Pc [.ref a_t] (mx_Pw E (w_X0_windStands E a_t a_text a_draft a_numbers a_text_bytes a_draft_kind a_draft_weight a_draft_strength a_draft_height a_draft_folk a_draft_mustBeAbove a_draft_wind v_lines v_start v_end v_text_length v_text_bytes v_numbers v_draft_storeys v_draft_pairs v_draft_bears v_draft_soft v_draft_cellars v_draft_wind) sz)) (va_Qi (fun (v : Int32) (u : (Nat → Int32) × Int32 × Int32 × (Nat → Int32)) => post v u.1 u.2.1 u.2.2.1 u.2.2.2) (fun u t => va_P E.1 vwCl (w_X0_windStands E a_t a_text a_draft a_numbers a_text_bytes a_draft_kind a_draft_weight a_draft_strength a_draft_height a_draft_folk a_draft_mustBeAbove a_draft_wind v_lines u.2.1 u.2.2.1 v_text_length v_text_bytes u.1 v_draft_storeys v_draft_pairs v_draft_bears v_draft_soft v_draft_cellars u.2.2.2) t.heap) (va_A (w_X0_windStands E a_t a_text a_draft a_numbers a_text_bytes a_draft_kind a_draft_weight a_draft_strength a_draft_height a_draft_folk a_draft_mustBeAbove a_draft_wind v_lines v_start v_end v_text_length v_text_bytes v_numbers v_draft_storeys v_draft_pairs v_draft_bears v_draft_soft v_draft_cellars v_draft_wind) sz)) 0 0 (va_A (w_X0_windStands E a_t a_text a_draft a_numbers a_text_bytes a_draft_kind a_draft_weight a_draft_strength a_draft_height a_draft_folk a_draft_mustBeAbove a_draft_wind v_lines v_start v_end v_text_length v_text_bytes v_numbers v_draft_storeys v_draft_pairs v_draft_bears v_draft_soft v_draft_cellars v_draft_wind) sz) :=
  mx_metWz (by decide) rfl rfl (fun hB hP hD hA hRet ls hl => b_X0_windStands E a_t a_text a_draft a_numbers a_text_bytes a_draft_kind a_draft_weight a_draft_strength a_draft_height a_draft_folk a_draft_mustBeAbove a_draft_wind v_lines v_start v_end v_text_length v_text_bytes v_numbers v_draft_storeys v_draft_pairs v_draft_bears v_draft_soft v_draft_cellars v_draft_wind  post hB hP hD hA hRet hf ls hl)
def rm_X0_softStands : Room := { frames := 3, cells := 0, slots := 0, locals := 69 }
set_option maxHeartbeats 4000000 in
set_option maxRecDepth 100000 in
theorem b_X0_softStands {p : Program} {l : Launch} {e : Env} {s : State} {m : MethodId} {args : Array Value} {below : List Frame} {meth : Method} {c : Code} {Q : State → Prop} {A : Nat → Prop} (E : mx_E) (a_t : Nat) (a_text : Nat) (a_draft : Nat) (a_numbers : Nat) (a_text_bytes : Nat) (a_draft_kind : Nat) (a_draft_weight : Nat) (a_draft_strength : Nat) (a_draft_height : Nat) (a_draft_folk : Nat) (a_draft_mustBeAbove : Nat) (a_draft_wind : Nat) (v_lines : Int32) (v_start : Int32) (v_end : Int32) (v_text_length : Int32) (v_text_bytes : (Nat → Int32)) (v_numbers : (Nat → Int32)) (v_draft_storeys : Int32) (v_draft_pairs : Int32) (v_draft_bears : Int32) (v_draft_soft : Int32) (v_draft_cellars : Int32)  (post : Int32 → (Nat → Int32) → Int32 → Int32 → Int32 → Prop) (hB : mx_B p m c cX0_softStands 1 s args RX0 E) (hP : va_P E.1 vwCl (w_X0_softStands E a_t a_text a_draft a_numbers a_text_bytes a_draft_kind a_draft_weight a_draft_strength a_draft_height a_draft_folk a_draft_mustBeAbove a_draft_wind v_lines v_start v_end v_text_length v_text_bytes v_numbers v_draft_storeys v_draft_pairs v_draft_bears v_draft_soft v_draft_cellars) s.heap) (hD : va_D A (w_X0_softStands E a_t a_text a_draft a_numbers a_text_bytes a_draft_kind a_draft_weight a_draft_strength a_draft_height a_draft_folk a_draft_mustBeAbove a_draft_wind v_lines v_start v_end v_text_length v_text_bytes v_numbers v_draft_storeys v_draft_pairs v_draft_bears v_draft_soft v_draft_cellars)) (hA : ∀ q : Nat, s.heap.size ≤ q → A q) (hRet : ∀ (v : Int32) (u : (Nat → Int32) × Int32 × Int32 × Int32) (pc : Nat) (ls : Array Slot) (H : Heap) (locs : List Loc), decode cX0_softStands pc = .ok (.ireturn, 1) → (v = 0 ∨ v = 1) → post v u.1 u.2.1 u.2.2.1 u.2.2.2 → va_P E.1 vwCl (w_X0_softStands E a_t a_text a_draft a_numbers a_text_bytes a_draft_kind a_draft_weight a_draft_strength a_draft_height a_draft_folk a_draft_mustBeAbove a_draft_wind v_lines u.2.1 u.2.2.1 v_text_length v_text_bytes u.1 v_draft_storeys v_draft_pairs v_draft_bears u.2.2.2 v_draft_cellars) H → va_S A s.heap H locs → W p l e rm_X0_softStands s m args below meth c H locs 0 0 Q (F0 m pc ls [.int v])) (hf : f_X0_softStands v_text_length v_text_bytes v_numbers v_start v_end v_draft_soft post) (ls : Array Slot) (hl : lv_has ls 1 [(0, .ref a_t)]) : W p l e rm_X0_softStands s m args below meth c s.heap [] 0 0 Q (F0 m 0 ls []) := by
  have hx := hB.x
  have hb := hB.b
  have hS : va_S A s.heap s.heap [] := va_S.rf
  obtain ⟨H, locs, eH, eL⟩ : ∃ (H : Heap) (locs : List Loc), H = s.heap ∧ locs = [] := ⟨_, _, rfl, rfl⟩
  rw [← eH] at hP
  have hS : va_S A s.heap H locs := by rw [eH, eL]; exact hS
  show W p l e rm_X0_softStands s m args below meth c s.heap [] 0 0 Q (F0 m 0 ls [])
  rw [← eH, ← eL]
  unfold f_X0_softStands at hf
  refine lv_aload_n hx hb dX0_softStands_0 rfl (lv_at hl 0 rfl) ?_
  refine lv_iconst hx hb dX0_softStands_1 kc_i_0 ?_
  refine lv_iconst hx hb dX0_softStands_2 kc_i_1 ?_
  refine lv_bipush hx hb dX0_softStands_3 kc_b_99 ?_
  refine mx_wi (mx_runV (As := [.int 0, .int 1, .int 99]) (rest := []) hB (c_X0_numberStands l E a_t a_text a_draft a_numbers a_text_bytes v_lines v_start v_end v_text_length v_text_bytes v_numbers H.size 0 1 99 _ hf) sB_X0_numberStands sV_X0_numberStands wml_X0_129 rfl (mx_pwV hB hP hD [0, 1, 2, 3] (by decide) rfl rfl 0 rfl rfl rfl) hl.1 rfl (Nat.le_of_ble_eq_true rfl) dX0_softStands_5 ⟨Nat.zero_le _, Nat.zero_le _⟩) hP hD hS hA [0, 1, 2, 3] rfl (fun _ => rfl) (fun u => w_X0_softStands E a_t a_text a_draft a_numbers a_text_bytes a_draft_kind a_draft_weight a_draft_strength a_draft_height a_draft_folk a_draft_mustBeAbove a_draft_wind v_lines u.2.1 u.2.2 v_text_length v_text_bytes u.1 v_draft_storeys v_draft_pairs v_draft_bears v_draft_soft v_draft_cellars) (fun _ => rfl) (fun _ => rfl) (fun r1 u H locs hf hP hD hS => ?_)
  obtain ⟨u2, u3, u4⟩ := u
  have hP : va_P E.1 vwCl (w_X0_softStands E a_t a_text a_draft a_numbers a_text_bytes a_draft_kind a_draft_weight a_draft_strength a_draft_height a_draft_folk a_draft_mustBeAbove a_draft_wind v_lines u3 u4 v_text_length v_text_bytes u2 v_draft_storeys v_draft_pairs v_draft_bears v_draft_soft v_draft_cellars) H := hP
  have hD : va_D A (w_X0_softStands E a_t a_text a_draft a_numbers a_text_bytes a_draft_kind a_draft_weight a_draft_strength a_draft_height a_draft_folk a_draft_mustBeAbove a_draft_wind v_lines u3 u4 v_text_length v_text_bytes u2 v_draft_storeys v_draft_pairs v_draft_bears v_draft_soft v_draft_cellars) := hD
  refine lv_if_ne (tgt := 13) hx hb dX0_softStands_8 (by decide) (fun c8 => ?_) (fun c8 => ?_)
  · have hf := hf.1 c8
    refine lv_aload_n hx hb dX0_softStands_13 rfl (lv_at hl 0 rfl) ?_
    refine gf_X0_12 hB hP 0 rfl rfl dX0_softStands_14 ?_
    refine lv_aload_n hx hb dX0_softStands_17 rfl (lv_at hl 0 rfl) ?_
    refine gf_X0_18 hB hP 0 rfl rfl dX0_softStands_18 ?_
    refine lv_iconst hx hb dX0_softStands_21 kc_i_0 ?_
    obtain ⟨h_in, hf⟩ := hf
    refine va_iald hx hb hB.K hP 3 0 rfl rfl h_in dX0_softStands_22 ?_
    refine pf_X0_144 hB hP hD hS 4 rfl (Nat.le_of_ble_eq_true rfl) dX0_softStands_23 (w_X0_softStands E a_t a_text a_draft a_numbers a_text_bytes a_draft_kind a_draft_weight a_draft_strength a_draft_height a_draft_folk a_draft_mustBeAbove a_draft_wind v_lines u3 u4 v_text_length v_text_bytes u2 v_draft_storeys v_draft_pairs v_draft_bears (u2 (0 : Int32).toNatClampNeg) v_draft_cellars) rfl (fun H locs hP hD hS => ?_)
    refine lv_iconst hx hb dX0_softStands_26 kc_i_1 ?_
    exact hRet 1 (u2, u3, u4, u2 (0 : Int32).toNatClampNeg) 27 ls H locs dX0_softStands_27 (Or.inr rfl) hf hP hS
  · have hf := hf.2 c8
    refine lv_iconst hx hb dX0_softStands_11 kc_i_0 ?_
    exact hRet 0 (u2, u3, u4, v_draft_soft) 12 ls H locs dX0_softStands_12 (Or.inl rfl) hf hP hS
theorem c_X0_softStands (l : Launch) (E : mx_E) (a_t : Nat) (a_text : Nat) (a_draft : Nat) (a_numbers : Nat) (a_text_bytes : Nat) (a_draft_kind : Nat) (a_draft_weight : Nat) (a_draft_strength : Nat) (a_draft_height : Nat) (a_draft_folk : Nat) (a_draft_mustBeAbove : Nat) (a_draft_wind : Nat) (v_lines : Int32) (v_start : Int32) (v_end : Int32) (v_text_length : Int32) (v_text_bytes : (Nat → Int32)) (v_numbers : (Nat → Int32)) (v_draft_storeys : Int32) (v_draft_pairs : Int32) (v_draft_bears : Int32) (v_draft_soft : Int32) (v_draft_cellars : Int32) (sz : Nat)  (post : Int32 → (Nat → Int32) → Int32 → Int32 → Int32 → Prop) (hf : f_X0_softStands v_text_length v_text_bytes v_numbers v_start v_end v_draft_soft post) : Met l yX0_softStands (Cond.code yX0_softStands cX0_softStands 1 (some .boolean) :: mx_WS) rm_X0_softStands (va_Pc [.ref a_t] (mx_Pw E (w_X0_softStands E a_t a_text a_draft a_numbers a_text_bytes a_draft_kind a_draft_weight a_draft_strength a_draft_height a_draft_folk a_draft_mustBeAbove a_draft_wind v_lines v_start v_end v_text_length v_text_bytes v_numbers v_draft_storeys v_draft_pairs v_draft_bears v_draft_soft v_draft_cellars) sz)) (va_Qi (fun (v : Int32) (u : (Nat → Int32) × Int32 × Int32 × Int32) => post v u.1 u.2.1 u.2.2.1 u.2.2.2) (fun u t => va_P E.1 vwCl (w_X0_softStands E a_t a_text a_draft a_numbers a_text_bytes a_draft_kind a_draft_weight a_draft_strength a_draft_height a_draft_folk a_draft_mustBeAbove a_draft_wind v_lines u.2.1 u.2.2.1 v_text_length v_text_bytes u.1 v_draft_storeys v_draft_pairs v_draft_bears u.2.2.2 v_draft_cellars) t.heap) (va_A (w_X0_softStands E a_t a_text a_draft a_numbers a_text_bytes a_draft_kind a_draft_weight a_draft_strength a_draft_height a_draft_folk a_draft_mustBeAbove a_draft_wind v_lines v_start v_end v_text_length v_text_bytes v_numbers v_draft_storeys v_draft_pairs v_draft_bears v_draft_soft v_draft_cellars) sz)) 0 0 (va_A (w_X0_softStands E a_t a_text a_draft a_numbers a_text_bytes a_draft_kind a_draft_weight a_draft_strength a_draft_height a_draft_folk a_draft_mustBeAbove a_draft_wind v_lines v_start v_end v_text_length v_text_bytes v_numbers v_draft_storeys v_draft_pairs v_draft_bears v_draft_soft v_draft_cellars) sz) :=
  mx_metWz (by decide) rfl rfl (fun hB hP hD hA hRet ls hl => b_X0_softStands E a_t a_text a_draft a_numbers a_text_bytes a_draft_kind a_draft_weight a_draft_strength a_draft_height a_draft_folk a_draft_mustBeAbove a_draft_wind v_lines v_start v_end v_text_length v_text_bytes v_numbers v_draft_storeys v_draft_pairs v_draft_bears v_draft_soft v_draft_cellars  post hB hP hD hA hRet hf ls hl)
def rm_X0_jacksStand : Room := { frames := 3, cells := 0, slots := 0, locals := 69 }
set_option maxHeartbeats 4000000 in
set_option maxRecDepth 100000 in
theorem b_X0_jacksStand {p : Program} {l : Launch} {e : Env} {s : State} {m : MethodId} {args : Array Value} {below : List Frame} {meth : Method} {c : Code} {Q : State → Prop} {A : Nat → Prop} (E : mx_E) (a_t : Nat) (a_text : Nat) (a_draft : Nat) (a_numbers : Nat) (a_text_bytes : Nat) (a_draft_kind : Nat) (a_draft_weight : Nat) (a_draft_strength : Nat) (a_draft_height : Nat) (a_draft_folk : Nat) (a_draft_mustBeAbove : Nat) (a_draft_wind : Nat) (v_lines : Int32) (v_start : Int32) (v_end : Int32) (v_text_length : Int32) (v_text_bytes : (Nat → Int32)) (v_numbers : (Nat → Int32)) (v_draft_storeys : Int32) (v_draft_pairs : Int32) (v_draft_bears : Int32) (v_draft_soft : Int32) (v_draft_cellars : Int32)  (post : Int32 → (Nat → Int32) → Int32 → Int32 → Int32 → Prop) (hB : mx_B p m c cX0_jacksStand 1 s args RX0 E) (hP : va_P E.1 vwCl (w_X0_jacksStand E a_t a_text a_draft a_numbers a_text_bytes a_draft_kind a_draft_weight a_draft_strength a_draft_height a_draft_folk a_draft_mustBeAbove a_draft_wind v_lines v_start v_end v_text_length v_text_bytes v_numbers v_draft_storeys v_draft_pairs v_draft_bears v_draft_soft v_draft_cellars) s.heap) (hD : va_D A (w_X0_jacksStand E a_t a_text a_draft a_numbers a_text_bytes a_draft_kind a_draft_weight a_draft_strength a_draft_height a_draft_folk a_draft_mustBeAbove a_draft_wind v_lines v_start v_end v_text_length v_text_bytes v_numbers v_draft_storeys v_draft_pairs v_draft_bears v_draft_soft v_draft_cellars)) (hA : ∀ q : Nat, s.heap.size ≤ q → A q) (hRet : ∀ (v : Int32) (u : (Nat → Int32) × Int32 × Int32 × Int32) (pc : Nat) (ls : Array Slot) (H : Heap) (locs : List Loc), decode cX0_jacksStand pc = .ok (.ireturn, 1) → (v = 0 ∨ v = 1) → post v u.1 u.2.1 u.2.2.1 u.2.2.2 → va_P E.1 vwCl (w_X0_jacksStand E a_t a_text a_draft a_numbers a_text_bytes a_draft_kind a_draft_weight a_draft_strength a_draft_height a_draft_folk a_draft_mustBeAbove a_draft_wind v_lines u.2.1 u.2.2.1 v_text_length v_text_bytes u.1 v_draft_storeys v_draft_pairs u.2.2.2 v_draft_soft v_draft_cellars) H → va_S A s.heap H locs → W p l e rm_X0_jacksStand s m args below meth c H locs 0 0 Q (F0 m pc ls [.int v])) (hf : f_X0_jacksStand v_text_length v_text_bytes v_numbers v_start v_end v_draft_bears post) (ls : Array Slot) (hl : lv_has ls 1 [(0, .ref a_t)]) : W p l e rm_X0_jacksStand s m args below meth c s.heap [] 0 0 Q (F0 m 0 ls []) := by
  have hx := hB.x
  have hb := hB.b
  have hS : va_S A s.heap s.heap [] := va_S.rf
  obtain ⟨H, locs, eH, eL⟩ : ∃ (H : Heap) (locs : List Loc), H = s.heap ∧ locs = [] := ⟨_, _, rfl, rfl⟩
  rw [← eH] at hP
  have hS : va_S A s.heap H locs := by rw [eH, eL]; exact hS
  show W p l e rm_X0_jacksStand s m args below meth c s.heap [] 0 0 Q (F0 m 0 ls [])
  rw [← eH, ← eL]
  unfold f_X0_jacksStand at hf
  refine lv_aload_n hx hb dX0_jacksStand_0 rfl (lv_at hl 0 rfl) ?_
  refine lv_iconst hx hb dX0_jacksStand_1 kc_i_0 ?_
  refine lv_iconst hx hb dX0_jacksStand_2 kc_i_0 ?_
  refine lv_sipush hx hb dX0_jacksStand_3 kc_s_999 ?_
  refine mx_wi (mx_runV (As := [.int 0, .int 0, .int 999]) (rest := []) hB (c_X0_numberStands l E a_t a_text a_draft a_numbers a_text_bytes v_lines v_start v_end v_text_length v_text_bytes v_numbers H.size 0 0 999 _ hf) sB_X0_numberStands sV_X0_numberStands wml_X0_129 rfl (mx_pwV hB hP hD [0, 1, 2, 3] (by decide) rfl rfl 0 rfl rfl rfl) hl.1 rfl (Nat.le_of_ble_eq_true rfl) dX0_jacksStand_6 ⟨Nat.zero_le _, Nat.zero_le _⟩) hP hD hS hA [0, 1, 2, 3] rfl (fun _ => rfl) (fun u => w_X0_jacksStand E a_t a_text a_draft a_numbers a_text_bytes a_draft_kind a_draft_weight a_draft_strength a_draft_height a_draft_folk a_draft_mustBeAbove a_draft_wind v_lines u.2.1 u.2.2 v_text_length v_text_bytes u.1 v_draft_storeys v_draft_pairs v_draft_bears v_draft_soft v_draft_cellars) (fun _ => rfl) (fun _ => rfl) (fun r1 u H locs hf hP hD hS => ?_)
  obtain ⟨u2, u3, u4⟩ := u
  have hP : va_P E.1 vwCl (w_X0_jacksStand E a_t a_text a_draft a_numbers a_text_bytes a_draft_kind a_draft_weight a_draft_strength a_draft_height a_draft_folk a_draft_mustBeAbove a_draft_wind v_lines u3 u4 v_text_length v_text_bytes u2 v_draft_storeys v_draft_pairs v_draft_bears v_draft_soft v_draft_cellars) H := hP
  have hD : va_D A (w_X0_jacksStand E a_t a_text a_draft a_numbers a_text_bytes a_draft_kind a_draft_weight a_draft_strength a_draft_height a_draft_folk a_draft_mustBeAbove a_draft_wind v_lines u3 u4 v_text_length v_text_bytes u2 v_draft_storeys v_draft_pairs v_draft_bears v_draft_soft v_draft_cellars) := hD
  refine lv_if_ne (tgt := 14) hx hb dX0_jacksStand_9 (by decide) (fun c9 => ?_) (fun c9 => ?_)
  · have hf := hf.1 c9
    refine lv_aload_n hx hb dX0_jacksStand_14 rfl (lv_at hl 0 rfl) ?_
    refine gf_X0_12 hB hP 0 rfl rfl dX0_jacksStand_15 ?_
    refine lv_aload_n hx hb dX0_jacksStand_18 rfl (lv_at hl 0 rfl) ?_
    refine gf_X0_18 hB hP 0 rfl rfl dX0_jacksStand_19 ?_
    refine lv_iconst hx hb dX0_jacksStand_22 kc_i_0 ?_
    obtain ⟨h_in, hf⟩ := hf
    refine va_iald hx hb hB.K hP 3 0 rfl rfl h_in dX0_jacksStand_23 ?_
    refine pf_X0_141 hB hP hD hS 4 rfl (Nat.le_of_ble_eq_true rfl) dX0_jacksStand_24 (w_X0_jacksStand E a_t a_text a_draft a_numbers a_text_bytes a_draft_kind a_draft_weight a_draft_strength a_draft_height a_draft_folk a_draft_mustBeAbove a_draft_wind v_lines u3 u4 v_text_length v_text_bytes u2 v_draft_storeys v_draft_pairs (u2 (0 : Int32).toNatClampNeg) v_draft_soft v_draft_cellars) rfl (fun H locs hP hD hS => ?_)
    refine lv_iconst hx hb dX0_jacksStand_27 kc_i_1 ?_
    exact hRet 1 (u2, u3, u4, u2 (0 : Int32).toNatClampNeg) 28 ls H locs dX0_jacksStand_28 (Or.inr rfl) hf hP hS
  · have hf := hf.2 c9
    refine lv_iconst hx hb dX0_jacksStand_12 kc_i_0 ?_
    exact hRet 0 (u2, u3, u4, v_draft_bears) 13 ls H locs dX0_jacksStand_13 (Or.inl rfl) hf hP hS
theorem c_X0_jacksStand (l : Launch) (E : mx_E) (a_t : Nat) (a_text : Nat) (a_draft : Nat) (a_numbers : Nat) (a_text_bytes : Nat) (a_draft_kind : Nat) (a_draft_weight : Nat) (a_draft_strength : Nat) (a_draft_height : Nat) (a_draft_folk : Nat) (a_draft_mustBeAbove : Nat) (a_draft_wind : Nat) (v_lines : Int32) (v_start : Int32) (v_end : Int32) (v_text_length : Int32) (v_text_bytes : (Nat → Int32)) (v_numbers : (Nat → Int32)) (v_draft_storeys : Int32) (v_draft_pairs : Int32) (v_draft_bears : Int32) (v_draft_soft : Int32) (v_draft_cellars : Int32) (sz : Nat)  (post : Int32 → (Nat → Int32) → Int32 → Int32 → Int32 → Prop) (hf : f_X0_jacksStand v_text_length v_text_bytes v_numbers v_start v_end v_draft_bears post) : Met l yX0_jacksStand (Cond.code yX0_jacksStand cX0_jacksStand 1 (some .boolean) :: mx_WS) rm_X0_jacksStand (va_Pc [.ref a_t] (mx_Pw E (w_X0_jacksStand E a_t a_text a_draft a_numbers a_text_bytes a_draft_kind a_draft_weight a_draft_strength a_draft_height a_draft_folk a_draft_mustBeAbove a_draft_wind v_lines v_start v_end v_text_length v_text_bytes v_numbers v_draft_storeys v_draft_pairs v_draft_bears v_draft_soft v_draft_cellars) sz)) (va_Qi (fun (v : Int32) (u : (Nat → Int32) × Int32 × Int32 × Int32) => post v u.1 u.2.1 u.2.2.1 u.2.2.2) (fun u t => va_P E.1 vwCl (w_X0_jacksStand E a_t a_text a_draft a_numbers a_text_bytes a_draft_kind a_draft_weight a_draft_strength a_draft_height a_draft_folk a_draft_mustBeAbove a_draft_wind v_lines u.2.1 u.2.2.1 v_text_length v_text_bytes u.1 v_draft_storeys v_draft_pairs u.2.2.2 v_draft_soft v_draft_cellars) t.heap) (va_A (w_X0_jacksStand E a_t a_text a_draft a_numbers a_text_bytes a_draft_kind a_draft_weight a_draft_strength a_draft_height a_draft_folk a_draft_mustBeAbove a_draft_wind v_lines v_start v_end v_text_length v_text_bytes v_numbers v_draft_storeys v_draft_pairs v_draft_bears v_draft_soft v_draft_cellars) sz)) 0 0 (va_A (w_X0_jacksStand E a_t a_text a_draft a_numbers a_text_bytes a_draft_kind a_draft_weight a_draft_strength a_draft_height a_draft_folk a_draft_mustBeAbove a_draft_wind v_lines v_start v_end v_text_length v_text_bytes v_numbers v_draft_storeys v_draft_pairs v_draft_bears v_draft_soft v_draft_cellars) sz) :=
  mx_metWz (by decide) rfl rfl (fun hB hP hD hA hRet ls hl => b_X0_jacksStand E a_t a_text a_draft a_numbers a_text_bytes a_draft_kind a_draft_weight a_draft_strength a_draft_height a_draft_folk a_draft_mustBeAbove a_draft_wind v_lines v_start v_end v_text_length v_text_bytes v_numbers v_draft_storeys v_draft_pairs v_draft_bears v_draft_soft v_draft_cellars  post hB hP hD hA hRet hf ls hl)
def rm_X0_folkStand : Room := { frames := 3, cells := 0, slots := 0, locals := 69 }
set_option maxHeartbeats 4000000 in
set_option maxRecDepth 100000 in
theorem b_X0_folkStand {p : Program} {l : Launch} {e : Env} {s : State} {m : MethodId} {args : Array Value} {below : List Frame} {meth : Method} {c : Code} {Q : State → Prop} {A : Nat → Prop} (E : mx_E) (a_t : Nat) (a_text : Nat) (a_draft : Nat) (a_numbers : Nat) (a_draft_kind : Nat) (a_draft_weight : Nat) (a_draft_strength : Nat) (a_draft_height : Nat) (a_draft_folk : Nat) (a_draft_mustBeAbove : Nat) (a_draft_wind : Nat) (a_text_bytes : Nat) (v_lines : Int32) (v_start : Int32) (v_end : Int32) (v_draft_storeys : Int32) (v_draft_pairs : Int32) (v_draft_bears : Int32) (v_draft_soft : Int32) (v_draft_cellars : Int32) (v_text_length : Int32) (v_text_bytes : (Nat → Int32)) (v_numbers : (Nat → Int32)) (v_draft_folk : (Nat → Int32))  (post : Int32 → (Nat → Int32) → Int32 → Int32 → (Nat → Int32) → Prop) (hB : mx_B p m c cX0_folkStand 1 s args RX0 E) (hP : va_P E.1 vwCl (w_X0_folkStand E a_t a_text a_draft a_numbers a_draft_kind a_draft_weight a_draft_strength a_draft_height a_draft_folk a_draft_mustBeAbove a_draft_wind a_text_bytes v_lines v_start v_end v_draft_storeys v_draft_pairs v_draft_bears v_draft_soft v_draft_cellars v_text_length v_text_bytes v_numbers v_draft_folk) s.heap) (hD : va_D A (w_X0_folkStand E a_t a_text a_draft a_numbers a_draft_kind a_draft_weight a_draft_strength a_draft_height a_draft_folk a_draft_mustBeAbove a_draft_wind a_text_bytes v_lines v_start v_end v_draft_storeys v_draft_pairs v_draft_bears v_draft_soft v_draft_cellars v_text_length v_text_bytes v_numbers v_draft_folk)) (hA : ∀ q : Nat, s.heap.size ≤ q → A q) (hRet : ∀ (v : Int32) (u : (Nat → Int32) × Int32 × Int32 × (Nat → Int32)) (pc : Nat) (ls : Array Slot) (H : Heap) (locs : List Loc), decode cX0_folkStand pc = .ok (.ireturn, 1) → (v = 0 ∨ v = 1) → post v u.1 u.2.1 u.2.2.1 u.2.2.2 → va_P E.1 vwCl (w_X0_folkStand E a_t a_text a_draft a_numbers a_draft_kind a_draft_weight a_draft_strength a_draft_height a_draft_folk a_draft_mustBeAbove a_draft_wind a_text_bytes v_lines u.2.1 u.2.2.1 v_draft_storeys v_draft_pairs v_draft_bears v_draft_soft v_draft_cellars v_text_length v_text_bytes u.1 u.2.2.2) H → va_S A s.heap H locs → W p l e rm_X0_folkStand s m args below meth c H locs 0 0 Q (F0 m pc ls [.int v])) (hf : f_X0_folkStand v_draft_storeys v_text_length v_text_bytes v_numbers v_start v_end v_draft_folk post) (ls : Array Slot) (hl : lv_has ls 1 [(0, .ref a_t)]) : W p l e rm_X0_folkStand s m args below meth c s.heap [] 0 0 Q (F0 m 0 ls []) := by
  have hx := hB.x
  have hb := hB.b
  have hS : va_S A s.heap s.heap [] := va_S.rf
  obtain ⟨H, locs, eH, eL⟩ : ∃ (H : Heap) (locs : List Loc), H = s.heap ∧ locs = [] := ⟨_, _, rfl, rfl⟩
  rw [← eH] at hP
  have hS : va_S A s.heap H locs := by rw [eH, eL]; exact hS
  show W p l e rm_X0_folkStand s m args below meth c s.heap [] 0 0 Q (F0 m 0 ls [])
  rw [← eH, ← eL]
  unfold f_X0_folkStand at hf
  refine lv_aload_n hx hb dX0_folkStand_0 rfl (lv_at hl 0 rfl) ?_
  refine lv_iconst hx hb dX0_folkStand_1 kc_i_0 ?_
  refine lv_iconst hx hb dX0_folkStand_2 kc_i_0 ?_
  refine lv_aload_n hx hb dX0_folkStand_3 rfl (lv_at hl 0 rfl) ?_
  refine gf_X0_12 hB hP 0 rfl rfl dX0_folkStand_4 ?_
  refine gf_X0_123 hB hP 1 rfl rfl dX0_folkStand_7 ?_
  refine lv_iconst hx hb dX0_folkStand_10 kc_i_1 ?_
  refine lv_isub hx hb dX0_folkStand_11 ?_
  refine mx_wi (mx_runV (As := [.int 0, .int 0, .int (v_draft_storeys - 1)]) (rest := []) hB (c_X0_numberStands l E a_t a_text a_draft a_numbers a_text_bytes v_lines v_start v_end v_text_length v_text_bytes v_numbers H.size 0 0 (v_draft_storeys - 1) _ hf) sB_X0_numberStands sV_X0_numberStands wml_X0_129 rfl (mx_pwV hB hP hD [0, 2, 3, 4] (by decide) rfl rfl 0 rfl rfl rfl) hl.1 rfl (Nat.le_of_ble_eq_true rfl) dX0_folkStand_12 ⟨Nat.zero_le _, Nat.zero_le _⟩) hP hD hS hA [0, 2, 3, 4] rfl (fun _ => rfl) (fun u => w_X0_folkStand E a_t a_text a_draft a_numbers a_draft_kind a_draft_weight a_draft_strength a_draft_height a_draft_folk a_draft_mustBeAbove a_draft_wind a_text_bytes v_lines u.2.1 u.2.2 v_draft_storeys v_draft_pairs v_draft_bears v_draft_soft v_draft_cellars v_text_length v_text_bytes u.1 v_draft_folk) (fun _ => rfl) (fun _ => rfl) (fun r1 u H locs hf hP hD hS => ?_)
  obtain ⟨u2, u3, u4⟩ := u
  have hP : va_P E.1 vwCl (w_X0_folkStand E a_t a_text a_draft a_numbers a_draft_kind a_draft_weight a_draft_strength a_draft_height a_draft_folk a_draft_mustBeAbove a_draft_wind a_text_bytes v_lines u3 u4 v_draft_storeys v_draft_pairs v_draft_bears v_draft_soft v_draft_cellars v_text_length v_text_bytes u2 v_draft_folk) H := hP
  have hD : va_D A (w_X0_folkStand E a_t a_text a_draft a_numbers a_draft_kind a_draft_weight a_draft_strength a_draft_height a_draft_folk a_draft_mustBeAbove a_draft_wind a_text_bytes v_lines u3 u4 v_draft_storeys v_draft_pairs v_draft_bears v_draft_soft v_draft_cellars v_text_length v_text_bytes u2 v_draft_folk) := hD
  refine lv_if_eq (tgt := 29) hx hb dX0_folkStand_15 (by decide) (fun c15 => ?_) (fun c15 => ?_)
  · have hf := hf.1 c15
    refine lv_iconst hx hb dX0_folkStand_29 kc_i_0 ?_
    exact hRet 0 (u2, u3, u4, v_draft_folk) 30 ls H locs dX0_folkStand_30 (Or.inl rfl) hf hP hS
  · have hf := hf.2 c15
    refine lv_aload_n hx hb dX0_folkStand_18 rfl (lv_at hl 0 rfl) ?_
    refine lv_iconst hx hb dX0_folkStand_19 kc_i_1 ?_
    refine lv_iconst hx hb dX0_folkStand_20 kc_i_0 ?_
    refine lv_bipush hx hb dX0_folkStand_21 kc_b_99 ?_
    refine mx_wi (mx_runV (As := [.int 1, .int 0, .int 99]) (rest := []) hB (c_X0_numberStands l E a_t a_text a_draft a_numbers a_text_bytes v_lines u3 u4 v_text_length v_text_bytes u2 H.size 1 0 99 _ hf) sB_X0_numberStands sV_X0_numberStands wml_X0_129 rfl (mx_pwV hB hP hD [0, 2, 3, 4] (by decide) rfl rfl 0 rfl rfl rfl) hl.1 rfl (Nat.le_of_ble_eq_true rfl) dX0_folkStand_23 ⟨Nat.zero_le _, Nat.zero_le _⟩) hP hD hS hA [0, 2, 3, 4] rfl (fun _ => rfl) (fun u => w_X0_folkStand E a_t a_text a_draft a_numbers a_draft_kind a_draft_weight a_draft_strength a_draft_height a_draft_folk a_draft_mustBeAbove a_draft_wind a_text_bytes v_lines u.2.1 u.2.2 v_draft_storeys v_draft_pairs v_draft_bears v_draft_soft v_draft_cellars v_text_length v_text_bytes u.1 v_draft_folk) (fun _ => rfl) (fun _ => rfl) (fun r5 u H locs hf hP hD hS => ?_)
    obtain ⟨u6, u7, u8⟩ := u
    have hP : va_P E.1 vwCl (w_X0_folkStand E a_t a_text a_draft a_numbers a_draft_kind a_draft_weight a_draft_strength a_draft_height a_draft_folk a_draft_mustBeAbove a_draft_wind a_text_bytes v_lines u7 u8 v_draft_storeys v_draft_pairs v_draft_bears v_draft_soft v_draft_cellars v_text_length v_text_bytes u6 v_draft_folk) H := hP
    have hD : va_D A (w_X0_folkStand E a_t a_text a_draft a_numbers a_draft_kind a_draft_weight a_draft_strength a_draft_height a_draft_folk a_draft_mustBeAbove a_draft_wind a_text_bytes v_lines u7 u8 v_draft_storeys v_draft_pairs v_draft_bears v_draft_soft v_draft_cellars v_text_length v_text_bytes u6 v_draft_folk) := hD
    refine lv_if_ne (tgt := 31) hx hb dX0_folkStand_26 (by decide) (fun c26 => ?_) (fun c26 => ?_)
    · have hf := hf.1 c26
      refine lv_aload_n hx hb dX0_folkStand_31 rfl (lv_at hl 0 rfl) ?_
      refine gf_X0_12 hB hP 0 rfl rfl dX0_folkStand_32 ?_
      refine lv_aload_n hx hb dX0_folkStand_35 rfl (lv_at hl 0 rfl) ?_
      refine gf_X0_18 hB hP 0 rfl rfl dX0_folkStand_36 ?_
      refine lv_iconst hx hb dX0_folkStand_39 kc_i_0 ?_
      obtain ⟨h_in, hf⟩ := hf
      refine va_iald hx hb hB.K hP 4 0 rfl rfl h_in dX0_folkStand_40 ?_
      refine lv_aload_n hx hb dX0_folkStand_41 rfl (lv_at hl 0 rfl) ?_
      refine gf_X0_18 hB hP 0 rfl rfl dX0_folkStand_42 ?_
      refine lv_iconst hx hb dX0_folkStand_45 kc_i_1 ?_
      obtain ⟨h_in, hf⟩ := hf
      refine va_iald hx hb hB.K hP 4 0 rfl rfl h_in dX0_folkStand_46 ?_
      refine mx_wv (mx_runN (As := [.int (u6 (0 : Int32).toNatClampNeg), .int (u6 (1 : Int32).toNatClampNeg)]) (rest := []) hB (c_X1_tellFolk l E a_draft a_draft_kind a_draft_weight a_draft_strength a_draft_height a_draft_folk a_draft_mustBeAbove a_draft_wind v_draft_storeys v_draft_pairs v_draft_bears v_draft_soft v_draft_cellars v_draft_folk H.size (u6 (0 : Int32).toNatClampNeg) (u6 (1 : Int32).toNatClampNeg) _ hf) sB_X1_tellFolk sV_X1_tellFolk wmn_X0_137 rfl (mx_pwV hB hP hD [1, 5] (by decide) rfl rfl 1 rfl rfl rfl) hl.1 rfl (Nat.le_of_ble_eq_true rfl) dX0_folkStand_47 ⟨Nat.zero_le _, Nat.zero_le _⟩) hP hD hS hA [1, 5] rfl (fun _ => rfl) (fun u => w_X0_folkStand E a_t a_text a_draft a_numbers a_draft_kind a_draft_weight a_draft_strength a_draft_height a_draft_folk a_draft_mustBeAbove a_draft_wind a_text_bytes v_lines u7 u8 v_draft_storeys v_draft_pairs v_draft_bears v_draft_soft v_draft_cellars v_text_length v_text_bytes u6 u) (fun _ => rfl) (fun _ => rfl) (fun u H locs hf hP hD hS => ?_)
      obtain ⟨u10, rfl⟩ : ∃ z, z = u := ⟨_, rfl⟩
      have hP : va_P E.1 vwCl (w_X0_folkStand E a_t a_text a_draft a_numbers a_draft_kind a_draft_weight a_draft_strength a_draft_height a_draft_folk a_draft_mustBeAbove a_draft_wind a_text_bytes v_lines u7 u8 v_draft_storeys v_draft_pairs v_draft_bears v_draft_soft v_draft_cellars v_text_length v_text_bytes u6 u10) H := hP
      have hD : va_D A (w_X0_folkStand E a_t a_text a_draft a_numbers a_draft_kind a_draft_weight a_draft_strength a_draft_height a_draft_folk a_draft_mustBeAbove a_draft_wind a_text_bytes v_lines u7 u8 v_draft_storeys v_draft_pairs v_draft_bears v_draft_soft v_draft_cellars v_text_length v_text_bytes u6 u10) := hD
      refine lv_iconst hx hb dX0_folkStand_50 kc_i_1 ?_
      exact hRet 1 (u6, u7, u8, u10) 51 ls H locs dX0_folkStand_51 (Or.inr rfl) hf hP hS
    · have hf := hf.2 c26
      refine lv_iconst hx hb dX0_folkStand_29 kc_i_0 ?_
      exact hRet 0 (u6, u7, u8, v_draft_folk) 30 ls H locs dX0_folkStand_30 (Or.inl rfl) hf hP hS
theorem c_X0_folkStand (l : Launch) (E : mx_E) (a_t : Nat) (a_text : Nat) (a_draft : Nat) (a_numbers : Nat) (a_draft_kind : Nat) (a_draft_weight : Nat) (a_draft_strength : Nat) (a_draft_height : Nat) (a_draft_folk : Nat) (a_draft_mustBeAbove : Nat) (a_draft_wind : Nat) (a_text_bytes : Nat) (v_lines : Int32) (v_start : Int32) (v_end : Int32) (v_draft_storeys : Int32) (v_draft_pairs : Int32) (v_draft_bears : Int32) (v_draft_soft : Int32) (v_draft_cellars : Int32) (v_text_length : Int32) (v_text_bytes : (Nat → Int32)) (v_numbers : (Nat → Int32)) (v_draft_folk : (Nat → Int32)) (sz : Nat)  (post : Int32 → (Nat → Int32) → Int32 → Int32 → (Nat → Int32) → Prop) (hf : f_X0_folkStand v_draft_storeys v_text_length v_text_bytes v_numbers v_start v_end v_draft_folk post) : Met l yX0_folkStand (Cond.code yX0_folkStand cX0_folkStand 1 (some .boolean) :: mx_WS) rm_X0_folkStand (va_Pc [.ref a_t] (mx_Pw E (w_X0_folkStand E a_t a_text a_draft a_numbers a_draft_kind a_draft_weight a_draft_strength a_draft_height a_draft_folk a_draft_mustBeAbove a_draft_wind a_text_bytes v_lines v_start v_end v_draft_storeys v_draft_pairs v_draft_bears v_draft_soft v_draft_cellars v_text_length v_text_bytes v_numbers v_draft_folk) sz)) (va_Qi (fun (v : Int32) (u : (Nat → Int32) × Int32 × Int32 × (Nat → Int32)) => post v u.1 u.2.1 u.2.2.1 u.2.2.2) (fun u t => va_P E.1 vwCl (w_X0_folkStand E a_t a_text a_draft a_numbers a_draft_kind a_draft_weight a_draft_strength a_draft_height a_draft_folk a_draft_mustBeAbove a_draft_wind a_text_bytes v_lines u.2.1 u.2.2.1 v_draft_storeys v_draft_pairs v_draft_bears v_draft_soft v_draft_cellars v_text_length v_text_bytes u.1 u.2.2.2) t.heap) (va_A (w_X0_folkStand E a_t a_text a_draft a_numbers a_draft_kind a_draft_weight a_draft_strength a_draft_height a_draft_folk a_draft_mustBeAbove a_draft_wind a_text_bytes v_lines v_start v_end v_draft_storeys v_draft_pairs v_draft_bears v_draft_soft v_draft_cellars v_text_length v_text_bytes v_numbers v_draft_folk) sz)) 0 0 (va_A (w_X0_folkStand E a_t a_text a_draft a_numbers a_draft_kind a_draft_weight a_draft_strength a_draft_height a_draft_folk a_draft_mustBeAbove a_draft_wind a_text_bytes v_lines v_start v_end v_draft_storeys v_draft_pairs v_draft_bears v_draft_soft v_draft_cellars v_text_length v_text_bytes v_numbers v_draft_folk) sz) :=
  mx_metWz (by decide) rfl rfl (fun hB hP hD hA hRet ls hl => b_X0_folkStand E a_t a_text a_draft a_numbers a_draft_kind a_draft_weight a_draft_strength a_draft_height a_draft_folk a_draft_mustBeAbove a_draft_wind a_text_bytes v_lines v_start v_end v_draft_storeys v_draft_pairs v_draft_bears v_draft_soft v_draft_cellars v_text_length v_text_bytes v_numbers v_draft_folk  post hB hP hD hA hRet hf ls hl)
def rm_X0_lineStands : Room := { frames := 6, cells := 0, slots := 0, locals := 130 }
set_option maxHeartbeats 4000000 in
set_option maxRecDepth 100000 in
theorem b_X0_lineStands {p : Program} {l : Launch} {e : Env} {s : State} {m : MethodId} {args : Array Value} {below : List Frame} {meth : Method} {c : Code} {Q : State → Prop} {A : Nat → Prop} (E : mx_E) (Z : (Nat → Nat) × (Nat → Nat)) (a_t : Nat) (a_text : Nat) (a_draft : Nat) (a_numbers : Nat) (a_text_bytes : Nat) (a_draft_kind : Nat) (a_draft_weight : Nat) (a_draft_strength : Nat) (a_draft_height : Nat) (a_draft_folk : Nat) (a_draft_mustBeAbove : Nat) (a_draft_wind : Nat) (v_lines : Int32) (v_start : Int32) (v_end : Int32) (v_text_length : Int32) (v_text_bytes : (Nat → Int32)) (v_draft_storeys : Int32) (v_draft_pairs : Int32) (v_draft_bears : Int32) (v_draft_soft : Int32) (v_draft_cellars : Int32) (v_numbers : (Nat → Int32)) (v_draft_kind : (Nat → Int32)) (v_draft_weight : (Nat → Int32)) (v_draft_strength : (Nat → Int32)) (v_draft_height : (Nat → Int32)) (v_draft_folk : (Nat → Int32)) (v_draft_mustBeAbove : (Nat → Int32)) (v_draft_wind : (Nat → Int32))  (post : Int32 → Int32 → Int32 → (Nat → Int32) → (Nat → Int32) → (Nat → Int32) → (Nat → Int32) → (Nat → Int32) → (Nat → Int32) → (Nat → Int32) → Int32 → Int32 → Int32 → Int32 → Int32 → (Nat → Int32) → Prop) (hB : mx_B p m c cX0_lineStands 2 s args RX0 E) (hP : va_P E.1 vwCl (w_X0_lineStands E a_t a_text a_draft a_numbers a_text_bytes a_draft_kind a_draft_weight a_draft_strength a_draft_height a_draft_folk a_draft_mustBeAbove a_draft_wind v_lines v_start v_end v_text_length v_text_bytes v_draft_storeys v_draft_pairs v_draft_bears v_draft_soft v_draft_cellars v_numbers v_draft_kind v_draft_weight v_draft_strength v_draft_height v_draft_folk v_draft_mustBeAbove v_draft_wind) s.heap) (hD : va_D A (w_X0_lineStands E a_t a_text a_draft a_numbers a_text_bytes a_draft_kind a_draft_weight a_draft_strength a_draft_height a_draft_folk a_draft_mustBeAbove a_draft_wind v_lines v_start v_end v_text_length v_text_bytes v_draft_storeys v_draft_pairs v_draft_bears v_draft_soft v_draft_cellars v_numbers v_draft_kind v_draft_weight v_draft_strength v_draft_height v_draft_folk v_draft_mustBeAbove v_draft_wind)) (hA : ∀ q : Nat, s.heap.size ≤ q → A q) (hZ : mx_Z Z A s) (hRet : ∀ (v : Int32) (u : Int32 × Int32 × (Nat → Int32) × (Nat → Int32) × (Nat → Int32) × (Nat → Int32) × (Nat → Int32) × (Nat → Int32) × (Nat → Int32) × Int32 × Int32 × Int32 × Int32 × Int32 × (Nat → Int32)) (pc : Nat) (ls : Array Slot) (H : Heap) (locs : List Loc), decode cX0_lineStands pc = .ok (.ireturn, 1) → (v = 0 ∨ v = 1) → post v u.1 u.2.1 u.2.2.1 u.2.2.2.1 u.2.2.2.2.1 u.2.2.2.2.2.1 u.2.2.2.2.2.2.1 u.2.2.2.2.2.2.2.1 u.2.2.2.2.2.2.2.2.1 u.2.2.2.2.2.2.2.2.2.1 u.2.2.2.2.2.2.2.2.2.2.1 u.2.2.2.2.2.2.2.2.2.2.2.1 u.2.2.2.2.2.2.2.2.2.2.2.2.1 u.2.2.2.2.2.2.2.2.2.2.2.2.2.1 u.2.2.2.2.2.2.2.2.2.2.2.2.2.2 → va_P E.1 vwCl (w_X0_lineStands E a_t a_text a_draft a_numbers a_text_bytes a_draft_kind a_draft_weight a_draft_strength a_draft_height a_draft_folk a_draft_mustBeAbove a_draft_wind v_lines u.1 u.2.1 v_text_length v_text_bytes u.2.2.2.2.2.2.2.2.2.1 u.2.2.2.2.2.2.2.2.2.2.2.1 u.2.2.2.2.2.2.2.2.2.2.2.2.1 u.2.2.2.2.2.2.2.2.2.2.2.2.2.1 u.2.2.2.2.2.2.2.2.2.2.1 u.2.2.1 u.2.2.2.1 u.2.2.2.2.1 u.2.2.2.2.2.1 u.2.2.2.2.2.2.1 u.2.2.2.2.2.2.2.1 u.2.2.2.2.2.2.2.2.1 u.2.2.2.2.2.2.2.2.2.2.2.2.2.2) H → va_S A s.heap H locs → W p l e rm_X0_lineStands s m args below meth c H locs 0 0 Q (F0 m pc ls [.int v])) (hf : f_X0_lineStands v_text_length v_text_bytes v_start v_end v_numbers v_draft_kind v_draft_weight v_draft_strength v_draft_height v_draft_folk v_draft_mustBeAbove v_draft_storeys v_draft_cellars v_draft_pairs v_draft_bears v_draft_soft v_draft_wind post) (ls : Array Slot) (hl : lv_has ls 2 [(0, .ref a_t)]) : W p l e rm_X0_lineStands s m args below meth c s.heap [] 0 0 Q (F0 m 0 ls []) := by
  have hx := hB.x
  have hb := hB.b
  have hS : va_S A s.heap s.heap [] := va_S.rf
  obtain ⟨H, locs, eH, eL⟩ : ∃ (H : Heap) (locs : List Loc), H = s.heap ∧ locs = [] := ⟨_, _, rfl, rfl⟩
  rw [← eH] at hP
  have hS : va_S A s.heap H locs := by rw [eH, eL]; exact hS
  show W p l e rm_X0_lineStands s m args below meth c s.heap [] 0 0 Q (F0 m 0 ls [])
  rw [← eH, ← eL]
  unfold f_X0_lineStands at hf
  refine lv_aload_n hx hb dX0_lineStands_0 rfl (lv_at hl 0 rfl) ?_
  refine mx_gi (mx_runV (As := []) (rest := []) hB (c_X0_wordHere l E Z a_t a_text a_draft a_numbers a_text_bytes v_lines v_start v_end v_text_length v_text_bytes _ hf) sB_X0_wordHere sV_X0_wordHere wml_X0_66 rfl (mx_ppVz hB hP (hZ.at hS) [0, 1, 2] rfl 0 rfl rfl rfl) hl.1 rfl (Nat.le_of_ble_eq_true rfl) dX0_lineStands_1 ⟨Nat.zero_le _, Nat.zero_le _⟩) (fun r1 hf => ?_)
  refine lv_istore_n (lv' := [(1, .int r1), (0, .ref a_t)]) hx hb dX0_lineStands_4 rfl hl (by decide) rfl (fun ls hl => ?_)
  refine lv_iload_n hx hb dX0_lineStands_5 rfl (lv_at hl 0 rfl) ?_
  refine lv_iconst hx hb dX0_lineStands_6 kc_i_m1 ?_
  refine lv_icmp_eq (tgt := 18) hx hb dX0_lineStands_7 (by decide) (fun c7 => ?_) (fun c7 => ?_)
  · have hf := hf.1 c7
    refine lv_iconst hx hb dX0_lineStands_18 kc_i_0 ?_
    exact hRet 0 (v_start, v_end, v_numbers, v_draft_kind, v_draft_weight, v_draft_strength, v_draft_height, v_draft_folk, v_draft_mustBeAbove, v_draft_storeys, v_draft_cellars, v_draft_pairs, v_draft_bears, v_draft_soft, v_draft_wind) 19 ls H locs dX0_lineStands_19 (Or.inl rfl) hf hP hS
  · have hf := hf.2 c7
    refine lv_aload_n hx hb dX0_lineStands_10 rfl (lv_at hl 1 rfl) ?_
    refine lv_iload_n hx hb dX0_lineStands_11 rfl (lv_at hl 0 rfl) ?_
    refine mx_gi (mx_runV (As := [.int r1]) (rest := []) hB (c_X0_hasRoomFor l E a_t a_text a_draft a_numbers a_draft_kind a_draft_weight a_draft_strength a_draft_height a_draft_folk a_draft_mustBeAbove a_draft_wind v_lines v_start v_end v_draft_storeys v_draft_pairs v_draft_bears v_draft_soft v_draft_cellars r1 _ hf) sB_X0_hasRoomFor sV_X0_hasRoomFor wml_X0_70 rfl (mx_ppV hB hP [0, 3] rfl 0 rfl rfl rfl) hl.1 rfl (Nat.le_of_ble_eq_true rfl) dX0_lineStands_12 ⟨Nat.zero_le _, Nat.zero_le _⟩) (fun r2 hf => ?_)
    refine lv_if_ne (tgt := 20) hx hb dX0_lineStands_15 (by decide) (fun c15 => ?_) (fun c15 => ?_)
    · have hf := hf.1 c15
      refine lv_aload_n hx hb dX0_lineStands_20 rfl (lv_at hl 1 rfl) ?_
      refine mx_wv (mx_runV (As := []) (rest := []) hB (c_X0_step l E a_t a_text a_draft a_numbers a_text_bytes v_lines v_start v_end v_text_length v_text_bytes H.size  _ hf) sB_X0_step sV_X0_step wml_X0_34 rfl (mx_pwV hB hP hD [0, 1, 2] (by decide) rfl rfl 0 rfl rfl rfl) hl.1 rfl (Nat.le_of_ble_eq_true rfl) dX0_lineStands_21 ⟨Nat.zero_le _, Nat.zero_le _⟩) hP hD hS hA [0, 1, 2] rfl (fun _ => rfl) (fun u => w_X0_lineStands E a_t a_text a_draft a_numbers a_text_bytes a_draft_kind a_draft_weight a_draft_strength a_draft_height a_draft_folk a_draft_mustBeAbove a_draft_wind v_lines u.1 u.2 v_text_length v_text_bytes v_draft_storeys v_draft_pairs v_draft_bears v_draft_soft v_draft_cellars v_numbers v_draft_kind v_draft_weight v_draft_strength v_draft_height v_draft_folk v_draft_mustBeAbove v_draft_wind) (fun _ => rfl) (fun _ => rfl) (fun u H locs hf hP hD hS => ?_)
      obtain ⟨u4, u5⟩ := u
      have hP : va_P E.1 vwCl (w_X0_lineStands E a_t a_text a_draft a_numbers a_text_bytes a_draft_kind a_draft_weight a_draft_strength a_draft_height a_draft_folk a_draft_mustBeAbove a_draft_wind v_lines u4 u5 v_text_length v_text_bytes v_draft_storeys v_draft_pairs v_draft_bears v_draft_soft v_draft_cellars v_numbers v_draft_kind v_draft_weight v_draft_strength v_draft_height v_draft_folk v_draft_mustBeAbove v_draft_wind) H := hP
      have hD : va_D A (w_X0_lineStands E a_t a_text a_draft a_numbers a_text_bytes a_draft_kind a_draft_weight a_draft_strength a_draft_height a_draft_folk a_draft_mustBeAbove a_draft_wind v_lines u4 u5 v_text_length v_text_bytes v_draft_storeys v_draft_pairs v_draft_bears v_draft_soft v_draft_cellars v_numbers v_draft_kind v_draft_weight v_draft_strength v_draft_height v_draft_folk v_draft_mustBeAbove v_draft_wind) := hD
      refine lv_iload_n hx hb dX0_lineStands_24 rfl (lv_at hl 0 rfl) ?_
      by_cases c25_4 : r1 = 4
      · have hf := hf.1 c25_4
        refine lv_tableIn (tgt := 73) hx hb dX0_lineStands_25 (by rw [c25_4]; decide) (by rw [c25_4]; decide) (by rw [c25_4]; rfl) (by decide) ?_
        refine lv_aload_n hx hb dX0_lineStands_73 rfl (lv_at hl 1 rfl) ?_
        refine mx_wi (mx_runV (As := []) (rest := []) hB (c_X0_folkStand l E a_t a_text a_draft a_numbers a_draft_kind a_draft_weight a_draft_strength a_draft_height a_draft_folk a_draft_mustBeAbove a_draft_wind a_text_bytes v_lines u4 u5 v_draft_storeys v_draft_pairs v_draft_bears v_draft_soft v_draft_cellars v_text_length v_text_bytes v_numbers v_draft_folk H.size  _ hf) sB_X0_folkStand sV_X0_folkStand wml_X0_77 rfl (mx_pwV hB hP hD [0, 3, 1, 2, 4, 9] (by decide) rfl rfl 0 rfl rfl rfl) hl.1 rfl (Nat.le_of_ble_eq_true rfl) dX0_lineStands_74 ⟨Nat.zero_le _, Nat.zero_le _⟩) hP hD hS hA [0, 3, 1, 2, 4, 9] rfl (fun _ => rfl) (fun u => w_X0_lineStands E a_t a_text a_draft a_numbers a_text_bytes a_draft_kind a_draft_weight a_draft_strength a_draft_height a_draft_folk a_draft_mustBeAbove a_draft_wind v_lines u.2.1 u.2.2.1 v_text_length v_text_bytes v_draft_storeys v_draft_pairs v_draft_bears v_draft_soft v_draft_cellars u.1 v_draft_kind v_draft_weight v_draft_strength v_draft_height u.2.2.2 v_draft_mustBeAbove v_draft_wind) (fun _ => rfl) (fun _ => rfl) (fun r6 u H locs hf hP hD hS => ?_)
        obtain ⟨u7, u8, u9, u10⟩ := u
        have hP : va_P E.1 vwCl (w_X0_lineStands E a_t a_text a_draft a_numbers a_text_bytes a_draft_kind a_draft_weight a_draft_strength a_draft_height a_draft_folk a_draft_mustBeAbove a_draft_wind v_lines u8 u9 v_text_length v_text_bytes v_draft_storeys v_draft_pairs v_draft_bears v_draft_soft v_draft_cellars u7 v_draft_kind v_draft_weight v_draft_strength v_draft_height u10 v_draft_mustBeAbove v_draft_wind) H := hP
        have hD : va_D A (w_X0_lineStands E a_t a_text a_draft a_numbers a_text_bytes a_draft_kind a_draft_weight a_draft_strength a_draft_height a_draft_folk a_draft_mustBeAbove a_draft_wind v_lines u8 u9 v_text_length v_text_bytes v_draft_storeys v_draft_pairs v_draft_bears v_draft_soft v_draft_cellars u7 v_draft_kind v_draft_weight v_draft_strength v_draft_height u10 v_draft_mustBeAbove v_draft_wind) := hD
        obtain ⟨h01, hf⟩ := hf
        exact hRet r6 (u8, u9, u7, v_draft_kind, v_draft_weight, v_draft_strength, v_draft_height, u10, v_draft_mustBeAbove, v_draft_storeys, v_draft_cellars, v_draft_pairs, v_draft_bears, v_draft_soft, v_draft_wind) 77 ls H locs dX0_lineStands_77 h01 hf hP hS
      · have hf := hf.2 c25_4
        by_cases c25_5 : r1 = 5
        · have hf := hf.1 c25_5
          refine lv_tableIn (tgt := 78) hx hb dX0_lineStands_25 (by rw [c25_5]; decide) (by rw [c25_5]; decide) (by rw [c25_5]; rfl) (by decide) ?_
          refine lv_aload_n hx hb dX0_lineStands_78 rfl (lv_at hl 1 rfl) ?_
          refine mx_wi (mx_runV (As := []) (rest := []) hB (c_X0_jacksStand l E a_t a_text a_draft a_numbers a_text_bytes a_draft_kind a_draft_weight a_draft_strength a_draft_height a_draft_folk a_draft_mustBeAbove a_draft_wind v_lines u4 u5 v_text_length v_text_bytes v_numbers v_draft_storeys v_draft_pairs v_draft_bears v_draft_soft v_draft_cellars H.size  _ hf) sB_X0_jacksStand sV_X0_jacksStand wml_X0_80 rfl (mx_pwV hB hP hD [0, 1, 2, 4, 3] (by decide) rfl rfl 0 rfl rfl rfl) hl.1 rfl (Nat.le_of_ble_eq_true rfl) dX0_lineStands_79 ⟨Nat.zero_le _, Nat.zero_le _⟩) hP hD hS hA [0, 1, 2, 4, 3] rfl (fun _ => rfl) (fun u => w_X0_lineStands E a_t a_text a_draft a_numbers a_text_bytes a_draft_kind a_draft_weight a_draft_strength a_draft_height a_draft_folk a_draft_mustBeAbove a_draft_wind v_lines u.2.1 u.2.2.1 v_text_length v_text_bytes v_draft_storeys v_draft_pairs u.2.2.2 v_draft_soft v_draft_cellars u.1 v_draft_kind v_draft_weight v_draft_strength v_draft_height v_draft_folk v_draft_mustBeAbove v_draft_wind) (fun _ => rfl) (fun _ => rfl) (fun r11 u H locs hf hP hD hS => ?_)
          obtain ⟨u12, u13, u14, u15⟩ := u
          have hP : va_P E.1 vwCl (w_X0_lineStands E a_t a_text a_draft a_numbers a_text_bytes a_draft_kind a_draft_weight a_draft_strength a_draft_height a_draft_folk a_draft_mustBeAbove a_draft_wind v_lines u13 u14 v_text_length v_text_bytes v_draft_storeys v_draft_pairs u15 v_draft_soft v_draft_cellars u12 v_draft_kind v_draft_weight v_draft_strength v_draft_height v_draft_folk v_draft_mustBeAbove v_draft_wind) H := hP
          have hD : va_D A (w_X0_lineStands E a_t a_text a_draft a_numbers a_text_bytes a_draft_kind a_draft_weight a_draft_strength a_draft_height a_draft_folk a_draft_mustBeAbove a_draft_wind v_lines u13 u14 v_text_length v_text_bytes v_draft_storeys v_draft_pairs u15 v_draft_soft v_draft_cellars u12 v_draft_kind v_draft_weight v_draft_strength v_draft_height v_draft_folk v_draft_mustBeAbove v_draft_wind) := hD
          obtain ⟨h01, hf⟩ := hf
          exact hRet r11 (u13, u14, u12, v_draft_kind, v_draft_weight, v_draft_strength, v_draft_height, v_draft_folk, v_draft_mustBeAbove, v_draft_storeys, v_draft_cellars, v_draft_pairs, u15, v_draft_soft, v_draft_wind) 82 ls H locs dX0_lineStands_82 h01 hf hP hS
        · have hf := hf.2 c25_5
          by_cases c25_6 : r1 = 6
          · have hf := hf.1 c25_6
            refine lv_tableIn (tgt := 83) hx hb dX0_lineStands_25 (by rw [c25_6]; decide) (by rw [c25_6]; decide) (by rw [c25_6]; rfl) (by decide) ?_
            refine lv_aload_n hx hb dX0_lineStands_83 rfl (lv_at hl 1 rfl) ?_
            refine mx_wi (mx_runV (As := []) (rest := []) hB (c_X0_softStands l E a_t a_text a_draft a_numbers a_text_bytes a_draft_kind a_draft_weight a_draft_strength a_draft_height a_draft_folk a_draft_mustBeAbove a_draft_wind v_lines u4 u5 v_text_length v_text_bytes v_numbers v_draft_storeys v_draft_pairs v_draft_bears v_draft_soft v_draft_cellars H.size  _ hf) sB_X0_softStands sV_X0_softStands wml_X0_83 rfl (mx_pwV hB hP hD [0, 1, 2, 4, 3] (by decide) rfl rfl 0 rfl rfl rfl) hl.1 rfl (Nat.le_of_ble_eq_true rfl) dX0_lineStands_84 ⟨Nat.zero_le _, Nat.zero_le _⟩) hP hD hS hA [0, 1, 2, 4, 3] rfl (fun _ => rfl) (fun u => w_X0_lineStands E a_t a_text a_draft a_numbers a_text_bytes a_draft_kind a_draft_weight a_draft_strength a_draft_height a_draft_folk a_draft_mustBeAbove a_draft_wind v_lines u.2.1 u.2.2.1 v_text_length v_text_bytes v_draft_storeys v_draft_pairs v_draft_bears u.2.2.2 v_draft_cellars u.1 v_draft_kind v_draft_weight v_draft_strength v_draft_height v_draft_folk v_draft_mustBeAbove v_draft_wind) (fun _ => rfl) (fun _ => rfl) (fun r16 u H locs hf hP hD hS => ?_)
            obtain ⟨u17, u18, u19, u20⟩ := u
            have hP : va_P E.1 vwCl (w_X0_lineStands E a_t a_text a_draft a_numbers a_text_bytes a_draft_kind a_draft_weight a_draft_strength a_draft_height a_draft_folk a_draft_mustBeAbove a_draft_wind v_lines u18 u19 v_text_length v_text_bytes v_draft_storeys v_draft_pairs v_draft_bears u20 v_draft_cellars u17 v_draft_kind v_draft_weight v_draft_strength v_draft_height v_draft_folk v_draft_mustBeAbove v_draft_wind) H := hP
            have hD : va_D A (w_X0_lineStands E a_t a_text a_draft a_numbers a_text_bytes a_draft_kind a_draft_weight a_draft_strength a_draft_height a_draft_folk a_draft_mustBeAbove a_draft_wind v_lines u18 u19 v_text_length v_text_bytes v_draft_storeys v_draft_pairs v_draft_bears u20 v_draft_cellars u17 v_draft_kind v_draft_weight v_draft_strength v_draft_height v_draft_folk v_draft_mustBeAbove v_draft_wind) := hD
            obtain ⟨h01, hf⟩ := hf
            exact hRet r16 (u18, u19, u17, v_draft_kind, v_draft_weight, v_draft_strength, v_draft_height, v_draft_folk, v_draft_mustBeAbove, v_draft_storeys, v_draft_cellars, v_draft_pairs, v_draft_bears, u20, v_draft_wind) 87 ls H locs dX0_lineStands_87 h01 hf hP hS
          · have hf := hf.2 c25_6
            by_cases c25_7 : r1 = 7
            · have hf := hf.1 c25_7
              refine lv_tableIn (tgt := 88) hx hb dX0_lineStands_25 (by rw [c25_7]; decide) (by rw [c25_7]; decide) (by rw [c25_7]; rfl) (by decide) ?_
              refine lv_aload_n hx hb dX0_lineStands_88 rfl (lv_at hl 1 rfl) ?_
              refine mx_wi (mx_runV (As := []) (rest := []) hB (c_X0_windStands l E a_t a_text a_draft a_numbers a_text_bytes a_draft_kind a_draft_weight a_draft_strength a_draft_height a_draft_folk a_draft_mustBeAbove a_draft_wind v_lines u4 u5 v_text_length v_text_bytes v_numbers v_draft_storeys v_draft_pairs v_draft_bears v_draft_soft v_draft_cellars v_draft_wind H.size  _ hf) sB_X0_windStands sV_X0_windStands wml_X0_86 rfl (mx_pwV hB hP hD [0, 1, 2, 4, 3, 11] (by decide) rfl rfl 0 rfl rfl rfl) hl.1 rfl (Nat.le_of_ble_eq_true rfl) dX0_lineStands_89 ⟨Nat.zero_le _, Nat.zero_le _⟩) hP hD hS hA [0, 1, 2, 4, 3, 11] rfl (fun _ => rfl) (fun u => w_X0_lineStands E a_t a_text a_draft a_numbers a_text_bytes a_draft_kind a_draft_weight a_draft_strength a_draft_height a_draft_folk a_draft_mustBeAbove a_draft_wind v_lines u.2.1 u.2.2.1 v_text_length v_text_bytes v_draft_storeys v_draft_pairs v_draft_bears v_draft_soft v_draft_cellars u.1 v_draft_kind v_draft_weight v_draft_strength v_draft_height v_draft_folk v_draft_mustBeAbove u.2.2.2) (fun _ => rfl) (fun _ => rfl) (fun r21 u H locs hf hP hD hS => ?_)
              obtain ⟨u22, u23, u24, u25⟩ := u
              have hP : va_P E.1 vwCl (w_X0_lineStands E a_t a_text a_draft a_numbers a_text_bytes a_draft_kind a_draft_weight a_draft_strength a_draft_height a_draft_folk a_draft_mustBeAbove a_draft_wind v_lines u23 u24 v_text_length v_text_bytes v_draft_storeys v_draft_pairs v_draft_bears v_draft_soft v_draft_cellars u22 v_draft_kind v_draft_weight v_draft_strength v_draft_height v_draft_folk v_draft_mustBeAbove u25) H := hP
              have hD : va_D A (w_X0_lineStands E a_t a_text a_draft a_numbers a_text_bytes a_draft_kind a_draft_weight a_draft_strength a_draft_height a_draft_folk a_draft_mustBeAbove a_draft_wind v_lines u23 u24 v_text_length v_text_bytes v_draft_storeys v_draft_pairs v_draft_bears v_draft_soft v_draft_cellars u22 v_draft_kind v_draft_weight v_draft_strength v_draft_height v_draft_folk v_draft_mustBeAbove u25) := hD
              obtain ⟨h01, hf⟩ := hf
              exact hRet r21 (u23, u24, u22, v_draft_kind, v_draft_weight, v_draft_strength, v_draft_height, v_draft_folk, v_draft_mustBeAbove, v_draft_storeys, v_draft_cellars, v_draft_pairs, v_draft_bears, v_draft_soft, u25) 92 ls H locs dX0_lineStands_92 h01 hf hP hS
            · have hf := hf.2 c25_7
              by_cases c25_8 : r1 = 8
              · have hf := hf.1 c25_8
                refine lv_tableIn (tgt := 93) hx hb dX0_lineStands_25 (by rw [c25_8]; decide) (by rw [c25_8]; decide) (by rw [c25_8]; rfl) (by decide) ?_
                refine lv_aload_n hx hb dX0_lineStands_93 rfl (lv_at hl 1 rfl) ?_
                refine mx_wi (mx_runV (As := []) (rest := []) hB (c_X0_pairStands l E a_t a_text a_draft a_numbers a_draft_kind a_draft_weight a_draft_strength a_draft_height a_draft_folk a_draft_mustBeAbove a_draft_wind a_text_bytes v_lines u4 u5 v_draft_storeys v_draft_pairs v_draft_bears v_draft_soft v_draft_cellars v_text_length v_text_bytes v_numbers v_draft_mustBeAbove H.size  _ hf) sB_X0_pairStands sV_X0_pairStands wml_X0_89 rfl (mx_pwV hB hP hD [0, 3, 1, 2, 4, 10] (by decide) rfl rfl 0 rfl rfl rfl) hl.1 rfl (Nat.le_of_ble_eq_true rfl) dX0_lineStands_94 ⟨Nat.zero_le _, Nat.zero_le _⟩) hP hD hS hA [0, 3, 1, 2, 4, 10] rfl (fun _ => rfl) (fun u => w_X0_lineStands E a_t a_text a_draft a_numbers a_text_bytes a_draft_kind a_draft_weight a_draft_strength a_draft_height a_draft_folk a_draft_mustBeAbove a_draft_wind v_lines u.2.1 u.2.2.1 v_text_length v_text_bytes v_draft_storeys u.2.2.2.2 v_draft_bears v_draft_soft v_draft_cellars u.1 v_draft_kind v_draft_weight v_draft_strength v_draft_height v_draft_folk u.2.2.2.1 v_draft_wind) (fun _ => rfl) (fun _ => rfl) (fun r26 u H locs hf hP hD hS => ?_)
                obtain ⟨u27, u28, u29, u30, u31⟩ := u
                have hP : va_P E.1 vwCl (w_X0_lineStands E a_t a_text a_draft a_numbers a_text_bytes a_draft_kind a_draft_weight a_draft_strength a_draft_height a_draft_folk a_draft_mustBeAbove a_draft_wind v_lines u28 u29 v_text_length v_text_bytes v_draft_storeys u31 v_draft_bears v_draft_soft v_draft_cellars u27 v_draft_kind v_draft_weight v_draft_strength v_draft_height v_draft_folk u30 v_draft_wind) H := hP
                have hD : va_D A (w_X0_lineStands E a_t a_text a_draft a_numbers a_text_bytes a_draft_kind a_draft_weight a_draft_strength a_draft_height a_draft_folk a_draft_mustBeAbove a_draft_wind v_lines u28 u29 v_text_length v_text_bytes v_draft_storeys u31 v_draft_bears v_draft_soft v_draft_cellars u27 v_draft_kind v_draft_weight v_draft_strength v_draft_height v_draft_folk u30 v_draft_wind) := hD
                obtain ⟨h01, hf⟩ := hf
                exact hRet r26 (u28, u29, u27, v_draft_kind, v_draft_weight, v_draft_strength, v_draft_height, v_draft_folk, u30, v_draft_storeys, v_draft_cellars, u31, v_draft_bears, v_draft_soft, v_draft_wind) 97 ls H locs dX0_lineStands_97 h01 hf hP hS
              · have hf := hf.2 c25_8
                by_cases c25_9 : r1 = 9
                · have hf := hf.1 c25_9
                  refine lv_tableIn (tgt := 64) hx hb dX0_lineStands_25 (by rw [c25_9]; decide) (by rw [c25_9]; decide) (by rw [c25_9]; rfl) (by decide) ?_
                  refine lv_aload_n hx hb dX0_lineStands_64 rfl (lv_at hl 1 rfl) ?_
                  refine gf_X0_12 hB hP 0 rfl rfl dX0_lineStands_65 ?_
                  refine mx_wv (mx_runN (As := []) (rest := []) hB (c_X1_startAnew l E a_draft a_draft_kind a_draft_weight a_draft_strength a_draft_height a_draft_folk a_draft_mustBeAbove a_draft_wind v_draft_storeys v_draft_pairs v_draft_bears v_draft_soft v_draft_cellars v_draft_wind H.size  _ hf) sB_X1_startAnew sV_X1_startAnew wmn_X0_74 rfl (mx_pwV hB hP hD [3, 11] (by decide) rfl rfl 1 rfl rfl rfl) hl.1 rfl (Nat.le_of_ble_eq_true rfl) dX0_lineStands_68 ⟨Nat.zero_le _, Nat.zero_le _⟩) hP hD hS hA [3, 11] rfl (fun _ => rfl) (fun u => w_X0_lineStands E a_t a_text a_draft a_numbers a_text_bytes a_draft_kind a_draft_weight a_draft_strength a_draft_height a_draft_folk a_draft_mustBeAbove a_draft_wind v_lines u4 u5 v_text_length v_text_bytes u.1 u.2.1 u.2.2.1 u.2.2.2.1 u.2.2.2.2.1 v_numbers v_draft_kind v_draft_weight v_draft_strength v_draft_height v_draft_folk v_draft_mustBeAbove u.2.2.2.2.2) (fun _ => rfl) (fun _ => rfl) (fun u H locs hf hP hD hS => ?_)
                  obtain ⟨u33, u34, u35, u36, u37, u38⟩ := u
                  have hP : va_P E.1 vwCl (w_X0_lineStands E a_t a_text a_draft a_numbers a_text_bytes a_draft_kind a_draft_weight a_draft_strength a_draft_height a_draft_folk a_draft_mustBeAbove a_draft_wind v_lines u4 u5 v_text_length v_text_bytes u33 u34 u35 u36 u37 v_numbers v_draft_kind v_draft_weight v_draft_strength v_draft_height v_draft_folk v_draft_mustBeAbove u38) H := hP
                  have hD : va_D A (w_X0_lineStands E a_t a_text a_draft a_numbers a_text_bytes a_draft_kind a_draft_weight a_draft_strength a_draft_height a_draft_folk a_draft_mustBeAbove a_draft_wind v_lines u4 u5 v_text_length v_text_bytes u33 u34 u35 u36 u37 v_numbers v_draft_kind v_draft_weight v_draft_strength v_draft_height v_draft_folk v_draft_mustBeAbove u38) := hD
                  refine lv_iconst hx hb dX0_lineStands_71 kc_i_1 ?_
                  exact hRet 1 (u4, u5, v_numbers, v_draft_kind, v_draft_weight, v_draft_strength, v_draft_height, v_draft_folk, v_draft_mustBeAbove, u33, u37, u34, u35, u36, u38) 72 ls H locs dX0_lineStands_72 (Or.inr rfl) hf hP hS
                · have hf := hf.2 c25_9
                  refine lv_tableOut (tgt := 98) hx hb dX0_lineStands_25 (mx_out 4 9 [4, 5, 6, 7, 8, 9] (List.forall_mem_cons.mpr ⟨c25_4, (List.forall_mem_cons.mpr ⟨c25_5, (List.forall_mem_cons.mpr ⟨c25_6, (List.forall_mem_cons.mpr ⟨c25_7, (List.forall_mem_cons.mpr ⟨c25_8, (List.forall_mem_cons.mpr ⟨c25_9, (fun _ h => absurd h List.not_mem_nil)⟩)⟩)⟩)⟩)⟩)⟩) (by decide)) (by decide) ?_
                  refine lv_aload_n hx hb dX0_lineStands_98 rfl (lv_at hl 1 rfl) ?_
                  refine lv_iload_n hx hb dX0_lineStands_99 rfl (lv_at hl 0 rfl) ?_
                  refine mx_wi (mx_runV (As := [.int r1]) (rest := []) hB (c_X0_storeyStands l E a_t a_text a_draft a_numbers a_text_bytes a_draft_kind a_draft_weight a_draft_strength a_draft_height a_draft_folk a_draft_mustBeAbove a_draft_wind v_lines u4 u5 v_text_length v_text_bytes v_numbers v_draft_storeys v_draft_pairs v_draft_bears v_draft_soft v_draft_cellars v_draft_kind v_draft_weight v_draft_strength v_draft_height v_draft_folk v_draft_mustBeAbove H.size r1 _ hf) sB_X0_storeyStands sV_X0_storeyStands wml_X0_92 rfl (mx_pwV hB hP hD [0, 1, 2, 4, 3, 5, 6, 7, 8, 9, 10] (by decide) rfl rfl 0 rfl rfl rfl) hl.1 rfl (Nat.le_of_ble_eq_true rfl) dX0_lineStands_100 ⟨Nat.zero_le _, Nat.zero_le _⟩) hP hD hS hA [0, 1, 2, 4, 3, 5, 6, 7, 8, 9, 10] rfl (fun _ => rfl) (fun u => w_X0_lineStands E a_t a_text a_draft a_numbers a_text_bytes a_draft_kind a_draft_weight a_draft_strength a_draft_height a_draft_folk a_draft_mustBeAbove a_draft_wind v_lines u.2.1 u.2.2.1 v_text_length v_text_bytes u.2.2.2.2.2.2.2.2.2.1 v_draft_pairs v_draft_bears v_draft_soft u.2.2.2.2.2.2.2.2.2.2 u.1 u.2.2.2.1 u.2.2.2.2.1 u.2.2.2.2.2.1 u.2.2.2.2.2.2.1 u.2.2.2.2.2.2.2.1 u.2.2.2.2.2.2.2.2.1 v_draft_wind) (fun _ => rfl) (fun _ => rfl) (fun r39 u H locs hf hP hD hS => ?_)
                  obtain ⟨u40, u41, u42, u43, u44, u45, u46, u47, u48, u49, u50⟩ := u
                  have hP : va_P E.1 vwCl (w_X0_lineStands E a_t a_text a_draft a_numbers a_text_bytes a_draft_kind a_draft_weight a_draft_strength a_draft_height a_draft_folk a_draft_mustBeAbove a_draft_wind v_lines u41 u42 v_text_length v_text_bytes u49 v_draft_pairs v_draft_bears v_draft_soft u50 u40 u43 u44 u45 u46 u47 u48 v_draft_wind) H := hP
                  have hD : va_D A (w_X0_lineStands E a_t a_text a_draft a_numbers a_text_bytes a_draft_kind a_draft_weight a_draft_strength a_draft_height a_draft_folk a_draft_mustBeAbove a_draft_wind v_lines u41 u42 v_text_length v_text_bytes u49 v_draft_pairs v_draft_bears v_draft_soft u50 u40 u43 u44 u45 u46 u47 u48 v_draft_wind) := hD
                  obtain ⟨h01, hf⟩ := hf
                  exact hRet r39 (u41, u42, u40, u43, u44, u45, u46, u47, u48, u49, u50, v_draft_pairs, v_draft_bears, v_draft_soft, v_draft_wind) 103 ls H locs dX0_lineStands_103 h01 hf hP hS
    · have hf := hf.2 c15
      refine lv_iconst hx hb dX0_lineStands_18 kc_i_0 ?_
      exact hRet 0 (v_start, v_end, v_numbers, v_draft_kind, v_draft_weight, v_draft_strength, v_draft_height, v_draft_folk, v_draft_mustBeAbove, v_draft_storeys, v_draft_cellars, v_draft_pairs, v_draft_bears, v_draft_soft, v_draft_wind) 19 ls H locs dX0_lineStands_19 (Or.inl rfl) hf hP hS
theorem c_X0_lineStands (l : Launch) (E : mx_E) (Z : (Nat → Nat) × (Nat → Nat)) (a_t : Nat) (a_text : Nat) (a_draft : Nat) (a_numbers : Nat) (a_text_bytes : Nat) (a_draft_kind : Nat) (a_draft_weight : Nat) (a_draft_strength : Nat) (a_draft_height : Nat) (a_draft_folk : Nat) (a_draft_mustBeAbove : Nat) (a_draft_wind : Nat) (v_lines : Int32) (v_start : Int32) (v_end : Int32) (v_text_length : Int32) (v_text_bytes : (Nat → Int32)) (v_draft_storeys : Int32) (v_draft_pairs : Int32) (v_draft_bears : Int32) (v_draft_soft : Int32) (v_draft_cellars : Int32) (v_numbers : (Nat → Int32)) (v_draft_kind : (Nat → Int32)) (v_draft_weight : (Nat → Int32)) (v_draft_strength : (Nat → Int32)) (v_draft_height : (Nat → Int32)) (v_draft_folk : (Nat → Int32)) (v_draft_mustBeAbove : (Nat → Int32)) (v_draft_wind : (Nat → Int32)) (sz : Nat)  (post : Int32 → Int32 → Int32 → (Nat → Int32) → (Nat → Int32) → (Nat → Int32) → (Nat → Int32) → (Nat → Int32) → (Nat → Int32) → (Nat → Int32) → Int32 → Int32 → Int32 → Int32 → Int32 → (Nat → Int32) → Prop) (hf : f_X0_lineStands v_text_length v_text_bytes v_start v_end v_numbers v_draft_kind v_draft_weight v_draft_strength v_draft_height v_draft_folk v_draft_mustBeAbove v_draft_storeys v_draft_cellars v_draft_pairs v_draft_bears v_draft_soft v_draft_wind post) : Met l yX0_lineStands (Cond.code yX0_lineStands cX0_lineStands 2 (some .boolean) :: mx_WS) rm_X0_lineStands (va_Pc [.ref a_t] (mx_Pwz E Z (w_X0_lineStands E a_t a_text a_draft a_numbers a_text_bytes a_draft_kind a_draft_weight a_draft_strength a_draft_height a_draft_folk a_draft_mustBeAbove a_draft_wind v_lines v_start v_end v_text_length v_text_bytes v_draft_storeys v_draft_pairs v_draft_bears v_draft_soft v_draft_cellars v_numbers v_draft_kind v_draft_weight v_draft_strength v_draft_height v_draft_folk v_draft_mustBeAbove v_draft_wind) sz)) (va_Qi (fun (v : Int32) (u : Int32 × Int32 × (Nat → Int32) × (Nat → Int32) × (Nat → Int32) × (Nat → Int32) × (Nat → Int32) × (Nat → Int32) × (Nat → Int32) × Int32 × Int32 × Int32 × Int32 × Int32 × (Nat → Int32)) => post v u.1 u.2.1 u.2.2.1 u.2.2.2.1 u.2.2.2.2.1 u.2.2.2.2.2.1 u.2.2.2.2.2.2.1 u.2.2.2.2.2.2.2.1 u.2.2.2.2.2.2.2.2.1 u.2.2.2.2.2.2.2.2.2.1 u.2.2.2.2.2.2.2.2.2.2.1 u.2.2.2.2.2.2.2.2.2.2.2.1 u.2.2.2.2.2.2.2.2.2.2.2.2.1 u.2.2.2.2.2.2.2.2.2.2.2.2.2.1 u.2.2.2.2.2.2.2.2.2.2.2.2.2.2) (fun u t => va_P E.1 vwCl (w_X0_lineStands E a_t a_text a_draft a_numbers a_text_bytes a_draft_kind a_draft_weight a_draft_strength a_draft_height a_draft_folk a_draft_mustBeAbove a_draft_wind v_lines u.1 u.2.1 v_text_length v_text_bytes u.2.2.2.2.2.2.2.2.2.1 u.2.2.2.2.2.2.2.2.2.2.2.1 u.2.2.2.2.2.2.2.2.2.2.2.2.1 u.2.2.2.2.2.2.2.2.2.2.2.2.2.1 u.2.2.2.2.2.2.2.2.2.2.1 u.2.2.1 u.2.2.2.1 u.2.2.2.2.1 u.2.2.2.2.2.1 u.2.2.2.2.2.2.1 u.2.2.2.2.2.2.2.1 u.2.2.2.2.2.2.2.2.1 u.2.2.2.2.2.2.2.2.2.2.2.2.2.2) t.heap) (va_A (w_X0_lineStands E a_t a_text a_draft a_numbers a_text_bytes a_draft_kind a_draft_weight a_draft_strength a_draft_height a_draft_folk a_draft_mustBeAbove a_draft_wind v_lines v_start v_end v_text_length v_text_bytes v_draft_storeys v_draft_pairs v_draft_bears v_draft_soft v_draft_cellars v_numbers v_draft_kind v_draft_weight v_draft_strength v_draft_height v_draft_folk v_draft_mustBeAbove v_draft_wind) sz)) 0 0 (va_A (w_X0_lineStands E a_t a_text a_draft a_numbers a_text_bytes a_draft_kind a_draft_weight a_draft_strength a_draft_height a_draft_folk a_draft_mustBeAbove a_draft_wind v_lines v_start v_end v_text_length v_text_bytes v_draft_storeys v_draft_pairs v_draft_bears v_draft_soft v_draft_cellars v_numbers v_draft_kind v_draft_weight v_draft_strength v_draft_height v_draft_folk v_draft_mustBeAbove v_draft_wind) sz) :=
  mx_metWzz (by decide) rfl rfl (fun hB hP hD hA hZ hRet ls hl => b_X0_lineStands E Z a_t a_text a_draft a_numbers a_text_bytes a_draft_kind a_draft_weight a_draft_strength a_draft_height a_draft_folk a_draft_mustBeAbove a_draft_wind v_lines v_start v_end v_text_length v_text_bytes v_draft_storeys v_draft_pairs v_draft_bears v_draft_soft v_draft_cellars v_numbers v_draft_kind v_draft_weight v_draft_strength v_draft_height v_draft_folk v_draft_mustBeAbove v_draft_wind  post hB hP hD hA hZ hRet hf ls hl)
def rm_X0_firstFault : Room := { frames := 7, cells := 0, slots := 0, locals := 151 }
set_option maxHeartbeats 4000000 in
set_option maxRecDepth 100000 in
theorem b_X0_firstFault {p : Program} {l : Launch} {e : Env} {s : State} {m : MethodId} {args : Array Value} {below : List Frame} {meth : Method} {c : Code} {Q : State → Prop} {A : Nat → Prop} (E : mx_E) (Z : (Nat → Nat) × (Nat → Nat)) (a_t : Nat) (a_text : Nat) (a_draft : Nat) (a_numbers : Nat) (a_draft_kind : Nat) (a_draft_weight : Nat) (a_draft_strength : Nat) (a_draft_height : Nat) (a_draft_folk : Nat) (a_draft_mustBeAbove : Nat) (a_draft_wind : Nat) (a_o : Nat) (a_o_kind : Nat) (a_o_weight : Nat) (a_o_strength : Nat) (a_o_height : Nat) (a_o_folk : Nat) (a_o_mustBeAbove : Nat) (a_o_wind : Nat) (a_text_bytes : Nat) (v_lines : Int32) (v_start : Int32) (v_end : Int32) (v_draft_storeys : Int32) (v_draft_pairs : Int32) (v_draft_bears : Int32) (v_draft_soft : Int32) (v_draft_cellars : Int32) (v_o_storeys : Int32) (v_o_pairs : Int32) (v_o_bears : Int32) (v_o_soft : Int32) (v_o_cellars : Int32) (v_o_kind : (Nat → Int32)) (v_draft_kind : (Nat → Int32)) (v_o_weight : (Nat → Int32)) (v_draft_weight : (Nat → Int32)) (v_o_strength : (Nat → Int32)) (v_draft_strength : (Nat → Int32)) (v_o_height : (Nat → Int32)) (v_draft_height : (Nat → Int32)) (v_o_folk : (Nat → Int32)) (v_draft_folk : (Nat → Int32)) (v_o_mustBeAbove : (Nat → Int32)) (v_draft_mustBeAbove : (Nat → Int32)) (v_o_wind : (Nat → Int32)) (v_draft_wind : (Nat → Int32)) (v_text_length : Int32) (v_text_bytes : (Nat → Int32)) (v_numbers : (Nat → Int32))  (post : Int32 → Int32 → Int32 → Int32 → Int32 → Int32 → (Nat → Int32) → (Nat → Int32) → (Nat → Int32) → (Nat → Int32) → (Nat → Int32) → (Nat → Int32) → (Nat → Int32) → Int32 → Int32 → Int32 → (Nat → Int32) → Prop) (hB : mx_B p m c cX0_firstFault 2 s args RX0 E) (hP : va_P E.1 vwCl (w_X0_firstFault E a_t a_text a_draft a_numbers a_draft_kind a_draft_weight a_draft_strength a_draft_height a_draft_folk a_draft_mustBeAbove a_draft_wind a_o a_o_kind a_o_weight a_o_strength a_o_height a_o_folk a_o_mustBeAbove a_o_wind a_text_bytes v_lines v_start v_end v_draft_storeys v_draft_pairs v_draft_bears v_draft_soft v_draft_cellars v_o_storeys v_o_pairs v_o_bears v_o_soft v_o_cellars v_o_kind v_draft_kind v_o_weight v_draft_weight v_o_strength v_draft_strength v_o_height v_draft_height v_o_folk v_draft_folk v_o_mustBeAbove v_draft_mustBeAbove v_o_wind v_draft_wind v_text_length v_text_bytes v_numbers) s.heap) (hD : va_D A (w_X0_firstFault E a_t a_text a_draft a_numbers a_draft_kind a_draft_weight a_draft_strength a_draft_height a_draft_folk a_draft_mustBeAbove a_draft_wind a_o a_o_kind a_o_weight a_o_strength a_o_height a_o_folk a_o_mustBeAbove a_o_wind a_text_bytes v_lines v_start v_end v_draft_storeys v_draft_pairs v_draft_bears v_draft_soft v_draft_cellars v_o_storeys v_o_pairs v_o_bears v_o_soft v_o_cellars v_o_kind v_draft_kind v_o_weight v_draft_weight v_o_strength v_draft_strength v_o_height v_draft_height v_o_folk v_draft_folk v_o_mustBeAbove v_draft_mustBeAbove v_o_wind v_draft_wind v_text_length v_text_bytes v_numbers)) (hA : ∀ q : Nat, s.heap.size ≤ q → A q) (hZ : mx_Z Z A s) (hRet : ∀ (v : Int32) (u : Int32 × Int32 × Int32 × Int32 × Int32 × (Nat → Int32) × (Nat → Int32) × (Nat → Int32) × (Nat → Int32) × (Nat → Int32) × (Nat → Int32) × (Nat → Int32) × Int32 × Int32 × Int32 × (Nat → Int32)) (pc : Nat) (ls : Array Slot) (H : Heap) (locs : List Loc), decode cX0_firstFault pc = .ok (.ireturn, 1) → post v u.1 u.2.1 u.2.2.1 u.2.2.2.1 u.2.2.2.2.1 u.2.2.2.2.2.1 u.2.2.2.2.2.2.1 u.2.2.2.2.2.2.2.1 u.2.2.2.2.2.2.2.2.1 u.2.2.2.2.2.2.2.2.2.1 u.2.2.2.2.2.2.2.2.2.2.1 u.2.2.2.2.2.2.2.2.2.2.2.1 u.2.2.2.2.2.2.2.2.2.2.2.2.1 u.2.2.2.2.2.2.2.2.2.2.2.2.2.1 u.2.2.2.2.2.2.2.2.2.2.2.2.2.2.1 u.2.2.2.2.2.2.2.2.2.2.2.2.2.2.2 → va_P E.1 vwCl (w_X0_firstFault E a_t a_text a_draft a_numbers a_draft_kind a_draft_weight a_draft_strength a_draft_height a_draft_folk a_draft_mustBeAbove a_draft_wind a_o a_o_kind a_o_weight a_o_strength a_o_height a_o_folk a_o_mustBeAbove a_o_wind a_text_bytes u.2.2.2.2.2.2.2.2.2.2.2.2.2.2.1 u.2.2.2.2.2.2.2.2.2.2.2.2.2.1 u.2.2.2.2.2.2.2.2.2.2.2.2.1 u.1 u.2.1 u.2.2.1 u.2.2.2.1 u.2.2.2.2.1 v_o_storeys v_o_pairs v_o_bears v_o_soft v_o_cellars v_o_kind u.2.2.2.2.2.1 v_o_weight u.2.2.2.2.2.2.1 v_o_strength u.2.2.2.2.2.2.2.1 v_o_height u.2.2.2.2.2.2.2.2.1 v_o_folk u.2.2.2.2.2.2.2.2.2.1 v_o_mustBeAbove u.2.2.2.2.2.2.2.2.2.2.1 v_o_wind u.2.2.2.2.2.2.2.2.2.2.2.1 v_text_length v_text_bytes u.2.2.2.2.2.2.2.2.2.2.2.2.2.2.2) H → va_S A s.heap H locs → W p l e rm_X0_firstFault s m args below meth c H locs 0 0 Q (F0 m pc ls [.int v])) (hf : f_X0_firstFault v_o_storeys v_o_pairs v_o_bears v_o_soft v_o_cellars v_o_kind v_o_weight v_o_strength v_o_height v_o_folk v_o_mustBeAbove v_o_wind v_text_length v_text_bytes v_draft_storeys v_draft_pairs v_draft_bears v_draft_soft v_draft_cellars v_draft_kind v_draft_weight v_draft_strength v_draft_height v_draft_folk v_draft_mustBeAbove v_draft_wind v_end v_start v_lines v_numbers post) (ls : Array Slot) (hl : lv_has ls 2 [(0, .ref a_t), (1, .ref a_o)]) : W p l e rm_X0_firstFault s m args below meth c s.heap [] 0 0 Q (F0 m 0 ls []) := by
  have hx := hB.x
  have hb := hB.b
  have hS : va_S A s.heap s.heap [] := va_S.rf
  have J_103 : ∀ (j103_v_draft_storeys : Int32) (j103_v_draft_pairs : Int32) (j103_v_draft_bears : Int32) (j103_v_draft_soft : Int32) (j103_v_draft_cellars : Int32) (j103_v_draft_kind : (Nat → Int32)) (j103_v_draft_weight : (Nat → Int32)) (j103_v_draft_strength : (Nat → Int32)) (j103_v_draft_height : (Nat → Int32)) (j103_v_draft_folk : (Nat → Int32)) (j103_v_draft_mustBeAbove : (Nat → Int32)) (j103_v_draft_wind : (Nat → Int32)) (j103_v_end : Int32) (j103_v_start : Int32) (j103_v_lines : Int32) (j103_v_numbers : (Nat → Int32)) (ls : Array Slot) (H : Heap) (locs : List Loc), f_X0_firstFault_103 v_o_storeys v_o_pairs v_o_bears v_o_soft v_o_cellars v_o_kind v_o_weight v_o_strength v_o_height v_o_folk v_o_mustBeAbove v_o_wind v_text_length v_text_bytes post j103_v_draft_storeys j103_v_draft_pairs j103_v_draft_bears j103_v_draft_soft j103_v_draft_cellars j103_v_draft_kind j103_v_draft_weight j103_v_draft_strength j103_v_draft_height j103_v_draft_folk j103_v_draft_mustBeAbove j103_v_draft_wind j103_v_end j103_v_start j103_v_lines j103_v_numbers → lv_has ls 2 [(0, .ref a_t)] → va_P E.1 vwCl (w_X0_firstFault E a_t a_text a_draft a_numbers a_draft_kind a_draft_weight a_draft_strength a_draft_height a_draft_folk a_draft_mustBeAbove a_draft_wind a_o a_o_kind a_o_weight a_o_strength a_o_height a_o_folk a_o_mustBeAbove a_o_wind a_text_bytes j103_v_lines j103_v_start j103_v_end j103_v_draft_storeys j103_v_draft_pairs j103_v_draft_bears j103_v_draft_soft j103_v_draft_cellars v_o_storeys v_o_pairs v_o_bears v_o_soft v_o_cellars v_o_kind j103_v_draft_kind v_o_weight j103_v_draft_weight v_o_strength j103_v_draft_strength v_o_height j103_v_draft_height v_o_folk j103_v_draft_folk v_o_mustBeAbove j103_v_draft_mustBeAbove v_o_wind j103_v_draft_wind v_text_length v_text_bytes j103_v_numbers) H → va_D A (w_X0_firstFault E a_t a_text a_draft a_numbers a_draft_kind a_draft_weight a_draft_strength a_draft_height a_draft_folk a_draft_mustBeAbove a_draft_wind a_o a_o_kind a_o_weight a_o_strength a_o_height a_o_folk a_o_mustBeAbove a_o_wind a_text_bytes j103_v_lines j103_v_start j103_v_end j103_v_draft_storeys j103_v_draft_pairs j103_v_draft_bears j103_v_draft_soft j103_v_draft_cellars v_o_storeys v_o_pairs v_o_bears v_o_soft v_o_cellars v_o_kind j103_v_draft_kind v_o_weight j103_v_draft_weight v_o_strength j103_v_draft_strength v_o_height j103_v_draft_height v_o_folk j103_v_draft_folk v_o_mustBeAbove j103_v_draft_mustBeAbove v_o_wind j103_v_draft_wind v_text_length v_text_bytes j103_v_numbers) → va_S A s.heap H locs → W p l e rm_X0_firstFault s m args below meth c H locs 0 0 Q (F0 m 103 ls []) := by
    intro j103_v_draft_storeys j103_v_draft_pairs j103_v_draft_bears j103_v_draft_soft j103_v_draft_cellars j103_v_draft_kind j103_v_draft_weight j103_v_draft_strength j103_v_draft_height j103_v_draft_folk j103_v_draft_mustBeAbove j103_v_draft_wind j103_v_end j103_v_start j103_v_lines j103_v_numbers ls H locs hf hl hP hD hS
    unfold f_X0_firstFault_103 at hf
    refine lv_aload_n hx hb dX0_firstFault_103 rfl (lv_at hl 0 rfl) ?_
    refine gf_X0_44 hB hP 0 rfl rfl dX0_firstFault_104 ?_
    exact hRet j103_v_start (j103_v_draft_storeys, j103_v_draft_pairs, j103_v_draft_bears, j103_v_draft_soft, j103_v_draft_cellars, j103_v_draft_kind, j103_v_draft_weight, j103_v_draft_strength, j103_v_draft_height, j103_v_draft_folk, j103_v_draft_mustBeAbove, j103_v_draft_wind, j103_v_end, j103_v_start, j103_v_lines, j103_v_numbers) 107 ls H locs dX0_firstFault_107 hf hP hS
  have J_91 : ∀ (j91_v_draft_storeys : Int32) (j91_v_draft_pairs : Int32) (j91_v_draft_bears : Int32) (j91_v_draft_soft : Int32) (j91_v_draft_cellars : Int32) (j91_v_draft_kind : (Nat → Int32)) (j91_v_draft_weight : (Nat → Int32)) (j91_v_draft_strength : (Nat → Int32)) (j91_v_draft_height : (Nat → Int32)) (j91_v_draft_folk : (Nat → Int32)) (j91_v_draft_mustBeAbove : (Nat → Int32)) (j91_v_draft_wind : (Nat → Int32)) (j91_v_end : Int32) (j91_v_start : Int32) (j91_v_lines : Int32) (j91_v_numbers : (Nat → Int32)) (ls : Array Slot) (H : Heap) (locs : List Loc), f_X0_firstFault_91 v_o_storeys v_o_pairs v_o_bears v_o_soft v_o_cellars v_o_kind v_o_weight v_o_strength v_o_height v_o_folk v_o_mustBeAbove v_o_wind v_text_length v_text_bytes post j91_v_draft_storeys j91_v_draft_pairs j91_v_draft_bears j91_v_draft_soft j91_v_draft_cellars j91_v_draft_kind j91_v_draft_weight j91_v_draft_strength j91_v_draft_height j91_v_draft_folk j91_v_draft_mustBeAbove j91_v_draft_wind j91_v_end j91_v_start j91_v_lines j91_v_numbers → lv_has ls 2 [(0, .ref a_t)] → va_P E.1 vwCl (w_X0_firstFault E a_t a_text a_draft a_numbers a_draft_kind a_draft_weight a_draft_strength a_draft_height a_draft_folk a_draft_mustBeAbove a_draft_wind a_o a_o_kind a_o_weight a_o_strength a_o_height a_o_folk a_o_mustBeAbove a_o_wind a_text_bytes j91_v_lines j91_v_start j91_v_end j91_v_draft_storeys j91_v_draft_pairs j91_v_draft_bears j91_v_draft_soft j91_v_draft_cellars v_o_storeys v_o_pairs v_o_bears v_o_soft v_o_cellars v_o_kind j91_v_draft_kind v_o_weight j91_v_draft_weight v_o_strength j91_v_draft_strength v_o_height j91_v_draft_height v_o_folk j91_v_draft_folk v_o_mustBeAbove j91_v_draft_mustBeAbove v_o_wind j91_v_draft_wind v_text_length v_text_bytes j91_v_numbers) H → va_D A (w_X0_firstFault E a_t a_text a_draft a_numbers a_draft_kind a_draft_weight a_draft_strength a_draft_height a_draft_folk a_draft_mustBeAbove a_draft_wind a_o a_o_kind a_o_weight a_o_strength a_o_height a_o_folk a_o_mustBeAbove a_o_wind a_text_bytes j91_v_lines j91_v_start j91_v_end j91_v_draft_storeys j91_v_draft_pairs j91_v_draft_bears j91_v_draft_soft j91_v_draft_cellars v_o_storeys v_o_pairs v_o_bears v_o_soft v_o_cellars v_o_kind j91_v_draft_kind v_o_weight j91_v_draft_weight v_o_strength j91_v_draft_strength v_o_height j91_v_draft_height v_o_folk j91_v_draft_folk v_o_mustBeAbove j91_v_draft_mustBeAbove v_o_wind j91_v_draft_wind v_text_length v_text_bytes j91_v_numbers) → va_S A s.heap H locs → W p l e rm_X0_firstFault s m args below meth c H locs 0 0 Q (F0 m 91 ls []) := by
    intro j91_v_draft_storeys j91_v_draft_pairs j91_v_draft_bears j91_v_draft_soft j91_v_draft_cellars j91_v_draft_kind j91_v_draft_weight j91_v_draft_strength j91_v_draft_height j91_v_draft_folk j91_v_draft_mustBeAbove j91_v_draft_wind j91_v_end j91_v_start j91_v_lines j91_v_numbers ls H locs hf hl hP hD hS
    unfold f_X0_firstFault_91 at hf
    refine lv_aload_n hx hb dX0_firstFault_91 rfl (lv_at hl 0 rfl) ?_
    refine gf_X0_44 hB hP 0 rfl rfl dX0_firstFault_92 ?_
    exact hRet j91_v_start (j91_v_draft_storeys, j91_v_draft_pairs, j91_v_draft_bears, j91_v_draft_soft, j91_v_draft_cellars, j91_v_draft_kind, j91_v_draft_weight, j91_v_draft_strength, j91_v_draft_height, j91_v_draft_folk, j91_v_draft_mustBeAbove, j91_v_draft_wind, j91_v_end, j91_v_start, j91_v_lines, j91_v_numbers) 95 ls H locs dX0_firstFault_95 hf hP hS
  have L_22 : ∀  (n : Nat) (j22_v_draft_storeys : Int32) (j22_v_draft_pairs : Int32) (j22_v_draft_bears : Int32) (j22_v_draft_soft : Int32) (j22_v_draft_cellars : Int32) (j22_v_draft_kind : (Nat → Int32)) (j22_v_draft_weight : (Nat → Int32)) (j22_v_draft_strength : (Nat → Int32)) (j22_v_draft_height : (Nat → Int32)) (j22_v_draft_folk : (Nat → Int32)) (j22_v_draft_mustBeAbove : (Nat → Int32)) (j22_v_draft_wind : (Nat → Int32)) (j22_v_end : Int32) (j22_v_start : Int32) (j22_v_lines : Int32) (j22_v_numbers : (Nat → Int32)) (ls : Array Slot) (H : Heap) (locs : List Loc), mx_l16 (f_X0_firstFault_22 v_o_storeys v_o_pairs v_o_bears v_o_soft v_o_cellars v_o_kind v_o_weight v_o_strength v_o_height v_o_folk v_o_mustBeAbove v_o_wind v_text_length v_text_bytes post) n j22_v_draft_storeys j22_v_draft_pairs j22_v_draft_bears j22_v_draft_soft j22_v_draft_cellars j22_v_draft_kind j22_v_draft_weight j22_v_draft_strength j22_v_draft_height j22_v_draft_folk j22_v_draft_mustBeAbove j22_v_draft_wind j22_v_end j22_v_start j22_v_lines j22_v_numbers → lv_has ls 2 [(0, .ref a_t)] → va_P E.1 vwCl (w_X0_firstFault E a_t a_text a_draft a_numbers a_draft_kind a_draft_weight a_draft_strength a_draft_height a_draft_folk a_draft_mustBeAbove a_draft_wind a_o a_o_kind a_o_weight a_o_strength a_o_height a_o_folk a_o_mustBeAbove a_o_wind a_text_bytes j22_v_lines j22_v_start j22_v_end j22_v_draft_storeys j22_v_draft_pairs j22_v_draft_bears j22_v_draft_soft j22_v_draft_cellars v_o_storeys v_o_pairs v_o_bears v_o_soft v_o_cellars v_o_kind j22_v_draft_kind v_o_weight j22_v_draft_weight v_o_strength j22_v_draft_strength v_o_height j22_v_draft_height v_o_folk j22_v_draft_folk v_o_mustBeAbove j22_v_draft_mustBeAbove v_o_wind j22_v_draft_wind v_text_length v_text_bytes j22_v_numbers) H → va_D A (w_X0_firstFault E a_t a_text a_draft a_numbers a_draft_kind a_draft_weight a_draft_strength a_draft_height a_draft_folk a_draft_mustBeAbove a_draft_wind a_o a_o_kind a_o_weight a_o_strength a_o_height a_o_folk a_o_mustBeAbove a_o_wind a_text_bytes j22_v_lines j22_v_start j22_v_end j22_v_draft_storeys j22_v_draft_pairs j22_v_draft_bears j22_v_draft_soft j22_v_draft_cellars v_o_storeys v_o_pairs v_o_bears v_o_soft v_o_cellars v_o_kind j22_v_draft_kind v_o_weight j22_v_draft_weight v_o_strength j22_v_draft_strength v_o_height j22_v_draft_height v_o_folk j22_v_draft_folk v_o_mustBeAbove j22_v_draft_mustBeAbove v_o_wind j22_v_draft_wind v_text_length v_text_bytes j22_v_numbers) → va_S A s.heap H locs → W p l e rm_X0_firstFault s m args below meth c H locs 0 0 Q (F0 m 22 ls []) := by
    intro  n_22
    induction n_22 with
    | zero =>
      intro j22_v_draft_storeys j22_v_draft_pairs j22_v_draft_bears j22_v_draft_soft j22_v_draft_cellars j22_v_draft_kind j22_v_draft_weight j22_v_draft_strength j22_v_draft_height j22_v_draft_folk j22_v_draft_mustBeAbove j22_v_draft_wind j22_v_end j22_v_start j22_v_lines j22_v_numbers ls H locs hf hl hP hD hS
      exact False.elim hf
    | succ n_22 ih_22 =>
      intro j22_v_draft_storeys j22_v_draft_pairs j22_v_draft_bears j22_v_draft_soft j22_v_draft_cellars j22_v_draft_kind j22_v_draft_weight j22_v_draft_strength j22_v_draft_height j22_v_draft_folk j22_v_draft_mustBeAbove j22_v_draft_wind j22_v_end j22_v_start j22_v_lines j22_v_numbers ls H locs hf hl hP hD hS
      replace hf : f_X0_firstFault_22 v_o_storeys v_o_pairs v_o_bears v_o_soft v_o_cellars v_o_kind v_o_weight v_o_strength v_o_height v_o_folk v_o_mustBeAbove v_o_wind v_text_length v_text_bytes post (mx_l16 (f_X0_firstFault_22 v_o_storeys v_o_pairs v_o_bears v_o_soft v_o_cellars v_o_kind v_o_weight v_o_strength v_o_height v_o_folk v_o_mustBeAbove v_o_wind v_text_length v_text_bytes post) n_22) j22_v_draft_storeys j22_v_draft_pairs j22_v_draft_bears j22_v_draft_soft j22_v_draft_cellars j22_v_draft_kind j22_v_draft_weight j22_v_draft_strength j22_v_draft_height j22_v_draft_folk j22_v_draft_mustBeAbove j22_v_draft_wind j22_v_end j22_v_start j22_v_lines j22_v_numbers := hf
      unfold f_X0_firstFault_22 at hf
      refine lv_aload_n hx hb dX0_firstFault_22 rfl (lv_at hl 0 rfl) ?_
      refine gf_X0_37 hB hP 0 rfl rfl dX0_firstFault_23 ?_
      refine lv_bipush hx hb dX0_firstFault_26 kc_b_12 ?_
      refine lv_icmp_ge (tgt := 103) hx hb dX0_firstFault_28 (by decide) (fun c28 => ?_) (fun c28 => ?_)
      · have hf := hf.1 c28
        exact J_103 j22_v_draft_storeys j22_v_draft_pairs j22_v_draft_bears j22_v_draft_soft j22_v_draft_cellars j22_v_draft_kind j22_v_draft_weight j22_v_draft_strength j22_v_draft_height j22_v_draft_folk j22_v_draft_mustBeAbove j22_v_draft_wind j22_v_end j22_v_start j22_v_lines j22_v_numbers ls H locs hf (lv_sub hl [0] rfl) hP hD hS
      · have hf := hf.2 c28
        refine lv_aload_n hx hb dX0_firstFault_31 rfl (lv_at hl 0 rfl) ?_
        refine mx_wi (mx_runV (As := []) (rest := []) hB (c_X0_lineStands l E Z a_t a_text a_draft a_numbers a_text_bytes a_draft_kind a_draft_weight a_draft_strength a_draft_height a_draft_folk a_draft_mustBeAbove a_draft_wind j22_v_lines j22_v_start j22_v_end v_text_length v_text_bytes j22_v_draft_storeys j22_v_draft_pairs j22_v_draft_bears j22_v_draft_soft j22_v_draft_cellars j22_v_numbers j22_v_draft_kind j22_v_draft_weight j22_v_draft_strength j22_v_draft_height j22_v_draft_folk j22_v_draft_mustBeAbove j22_v_draft_wind H.size  _ hf) sB_X0_lineStands sV_X0_lineStands wml_X0_40 rfl (mx_pwVz hB hP hD (hZ.nar hS (va_free (wc := w_X0_lineStands E a_t a_text a_draft a_numbers a_text_bytes a_draft_kind a_draft_weight a_draft_strength a_draft_height a_draft_folk a_draft_mustBeAbove a_draft_wind j22_v_lines j22_v_start j22_v_end v_text_length v_text_bytes j22_v_draft_storeys j22_v_draft_pairs j22_v_draft_bears j22_v_draft_soft j22_v_draft_cellars j22_v_numbers j22_v_draft_kind j22_v_draft_weight j22_v_draft_strength j22_v_draft_height j22_v_draft_folk j22_v_draft_mustBeAbove j22_v_draft_wind) hD hS hA [0, 17, 18, 1, 19, 4, 6, 8, 10, 12, 14, 16] rfl)) [0, 17, 18, 1, 19, 4, 6, 8, 10, 12, 14, 16] (by decide) rfl rfl 0 rfl rfl rfl) hl.1 rfl (Nat.le_of_ble_eq_true rfl) dX0_firstFault_32 ⟨Nat.zero_le _, Nat.zero_le _⟩) hP hD hS hA [0, 17, 18, 1, 19, 4, 6, 8, 10, 12, 14, 16] rfl (fun _ => rfl) (fun u => w_X0_firstFault E a_t a_text a_draft a_numbers a_draft_kind a_draft_weight a_draft_strength a_draft_height a_draft_folk a_draft_mustBeAbove a_draft_wind a_o a_o_kind a_o_weight a_o_strength a_o_height a_o_folk a_o_mustBeAbove a_o_wind a_text_bytes j22_v_lines u.1 u.2.1 u.2.2.2.2.2.2.2.2.2.1 u.2.2.2.2.2.2.2.2.2.2.2.1 u.2.2.2.2.2.2.2.2.2.2.2.2.1 u.2.2.2.2.2.2.2.2.2.2.2.2.2.1 u.2.2.2.2.2.2.2.2.2.2.1 v_o_storeys v_o_pairs v_o_bears v_o_soft v_o_cellars v_o_kind u.2.2.2.1 v_o_weight u.2.2.2.2.1 v_o_strength u.2.2.2.2.2.1 v_o_height u.2.2.2.2.2.2.1 v_o_folk u.2.2.2.2.2.2.2.1 v_o_mustBeAbove u.2.2.2.2.2.2.2.2.1 v_o_wind u.2.2.2.2.2.2.2.2.2.2.2.2.2.2 v_text_length v_text_bytes u.2.2.1) (fun _ => rfl) (fun _ => rfl) (fun r1 u H locs hf hP hD hS => ?_)
        obtain ⟨u2, u3, u4, u5, u6, u7, u8, u9, u10, u11, u12, u13, u14, u15, u16⟩ := u
        have hP : va_P E.1 vwCl (w_X0_firstFault E a_t a_text a_draft a_numbers a_draft_kind a_draft_weight a_draft_strength a_draft_height a_draft_folk a_draft_mustBeAbove a_draft_wind a_o a_o_kind a_o_weight a_o_strength a_o_height a_o_folk a_o_mustBeAbove a_o_wind a_text_bytes j22_v_lines u2 u3 u11 u13 u14 u15 u12 v_o_storeys v_o_pairs v_o_bears v_o_soft v_o_cellars v_o_kind u5 v_o_weight u6 v_o_strength u7 v_o_height u8 v_o_folk u9 v_o_mustBeAbove u10 v_o_wind u16 v_text_length v_text_bytes u4) H := hP
        have hD : va_D A (w_X0_firstFault E a_t a_text a_draft a_numbers a_draft_kind a_draft_weight a_draft_strength a_draft_height a_draft_folk a_draft_mustBeAbove a_draft_wind a_o a_o_kind a_o_weight a_o_strength a_o_height a_o_folk a_o_mustBeAbove a_o_wind a_text_bytes j22_v_lines u2 u3 u11 u13 u14 u15 u12 v_o_storeys v_o_pairs v_o_bears v_o_soft v_o_cellars v_o_kind u5 v_o_weight u6 v_o_strength u7 v_o_height u8 v_o_folk u9 v_o_mustBeAbove u10 v_o_wind u16 v_text_length v_text_bytes u4) := hD
        refine lv_if_eq (tgt := 103) hx hb dX0_firstFault_35 (by decide) (fun c35 => ?_) (fun c35 => ?_)
        · have hf := hf.1 c35
          exact J_103 u11 u13 u14 u15 u12 u5 u6 u7 u8 u9 u10 u16 u3 u2 j22_v_lines u4 ls H locs hf (lv_sub hl [0] rfl) hP hD hS
        · have hf := hf.2 c35
          refine lv_aload_n hx hb dX0_firstFault_38 rfl (lv_at hl 0 rfl) ?_
          refine lv_dup hx hb dX0_firstFault_39 rfl ?_
          refine gf_X0_37 hB hP 0 rfl rfl dX0_firstFault_40 ?_
          refine lv_iconst hx hb dX0_firstFault_43 kc_i_1 ?_
          refine lv_iadd hx hb dX0_firstFault_44 ?_
          refine pf_X0_37 hB hP hD hS 0 rfl (Nat.le_of_ble_eq_true rfl) dX0_firstFault_45 (w_X0_firstFault E a_t a_text a_draft a_numbers a_draft_kind a_draft_weight a_draft_strength a_draft_height a_draft_folk a_draft_mustBeAbove a_draft_wind a_o a_o_kind a_o_weight a_o_strength a_o_height a_o_folk a_o_mustBeAbove a_o_wind a_text_bytes (j22_v_lines + 1) u2 u3 u11 u13 u14 u15 u12 v_o_storeys v_o_pairs v_o_bears v_o_soft v_o_cellars v_o_kind u5 v_o_weight u6 v_o_strength u7 v_o_height u8 v_o_folk u9 v_o_mustBeAbove u10 v_o_wind u16 v_text_length v_text_bytes u4) rfl (fun H locs hP hD hS => ?_)
          refine lv_aload_n hx hb dX0_firstFault_48 rfl (lv_at hl 0 rfl) ?_
          refine gf_X0_44 hB hP 0 rfl rfl dX0_firstFault_49 ?_
          refine lv_aload_n hx hb dX0_firstFault_52 rfl (lv_at hl 0 rfl) ?_
          refine gf_X0_22 hB hP 0 rfl rfl dX0_firstFault_53 ?_
          refine gf_X0_47 hB hP 17 rfl rfl dX0_firstFault_56 ?_
          refine lv_icmp_ne (tgt := 64) hx hb dX0_firstFault_59 (by decide) (fun c59 => ?_) (fun c59 => ?_)
          · have hf := hf.1 c59
            refine lv_aload_n hx hb dX0_firstFault_64 rfl (lv_at hl 0 rfl) ?_
            refine gf_X0_37 hB hP 0 rfl rfl dX0_firstFault_65 ?_
            refine lv_bipush hx hb dX0_firstFault_68 kc_b_12 ?_
            refine lv_icmp_eq (tgt := 91) hx hb dX0_firstFault_70 (by decide) (fun c70 => ?_) (fun c70 => ?_)
            · have hf := hf.1 c70
              exact J_91 u11 u13 u14 u15 u12 u5 u6 u7 u8 u9 u10 u16 u3 u2 (j22_v_lines + 1) u4 ls H locs hf (lv_sub hl [0] rfl) hP hD hS
            · have hf := hf.2 c70
              refine lv_aload_n hx hb dX0_firstFault_73 rfl (lv_at hl 0 rfl) ?_
              refine gf_X0_22 hB hP 0 rfl rfl dX0_firstFault_74 ?_
              refine lv_aload_n hx hb dX0_firstFault_77 rfl (lv_at hl 0 rfl) ?_
              refine gf_X0_44 hB hP 0 rfl rfl dX0_firstFault_78 ?_
              refine lv_bipush hx hb dX0_firstFault_81 kc_b_59 ?_
              refine lv_bipush hx hb dX0_firstFault_83 kc_b_59 ?_
              refine mx_gi (mx_runN (As := [.int u2, .int 59, .int 59]) (rest := []) hB (c_X2_isBetween l E a_text a_text_bytes v_text_length v_text_bytes u2 59 59 _ hf) sB_X2_isBetween sV_X2_isBetween wmn_X0_52 rfl (mx_ppV hB hP [17, 18] rfl 2 rfl rfl rfl) hl.1 rfl (Nat.le_of_ble_eq_true rfl) dX0_firstFault_85 ⟨Nat.zero_le _, Nat.zero_le _⟩) (fun r17 hf => ?_)
              refine lv_if_ne (tgt := 96) hx hb dX0_firstFault_88 (by decide) (fun c88 => ?_) (fun c88 => ?_)
              · have hf := hf.1 c88
                refine lv_aload_n hx hb dX0_firstFault_96 rfl (lv_at hl 0 rfl) ?_
                refine mx_wv (mx_runV (As := []) (rest := []) hB (c_X0_step l E a_t a_text a_draft a_numbers a_text_bytes (j22_v_lines + 1) u2 u3 v_text_length v_text_bytes H.size  _ hf) sB_X0_step sV_X0_step wml_X0_34 rfl (mx_pwV hB hP hD [0, 17, 18] (by decide) rfl rfl 0 rfl rfl rfl) hl.1 rfl (Nat.le_of_ble_eq_true rfl) dX0_firstFault_97 ⟨Nat.zero_le _, Nat.zero_le _⟩) hP hD hS hA [0, 17, 18] rfl (fun _ => rfl) (fun u => w_X0_firstFault E a_t a_text a_draft a_numbers a_draft_kind a_draft_weight a_draft_strength a_draft_height a_draft_folk a_draft_mustBeAbove a_draft_wind a_o a_o_kind a_o_weight a_o_strength a_o_height a_o_folk a_o_mustBeAbove a_o_wind a_text_bytes (j22_v_lines + 1) u.1 u.2 u11 u13 u14 u15 u12 v_o_storeys v_o_pairs v_o_bears v_o_soft v_o_cellars v_o_kind u5 v_o_weight u6 v_o_strength u7 v_o_height u8 v_o_folk u9 v_o_mustBeAbove u10 v_o_wind u16 v_text_length v_text_bytes u4) (fun _ => rfl) (fun _ => rfl) (fun u H locs hf hP hD hS => ?_)
                obtain ⟨u19, u20⟩ := u
                have hP : va_P E.1 vwCl (w_X0_firstFault E a_t a_text a_draft a_numbers a_draft_kind a_draft_weight a_draft_strength a_draft_height a_draft_folk a_draft_mustBeAbove a_draft_wind a_o a_o_kind a_o_weight a_o_strength a_o_height a_o_folk a_o_mustBeAbove a_o_wind a_text_bytes (j22_v_lines + 1) u19 u20 u11 u13 u14 u15 u12 v_o_storeys v_o_pairs v_o_bears v_o_soft v_o_cellars v_o_kind u5 v_o_weight u6 v_o_strength u7 v_o_height u8 v_o_folk u9 v_o_mustBeAbove u10 v_o_wind u16 v_text_length v_text_bytes u4) H := hP
                have hD : va_D A (w_X0_firstFault E a_t a_text a_draft a_numbers a_draft_kind a_draft_weight a_draft_strength a_draft_height a_draft_folk a_draft_mustBeAbove a_draft_wind a_o a_o_kind a_o_weight a_o_strength a_o_height a_o_folk a_o_mustBeAbove a_o_wind a_text_bytes (j22_v_lines + 1) u19 u20 u11 u13 u14 u15 u12 v_o_storeys v_o_pairs v_o_bears v_o_soft v_o_cellars v_o_kind u5 v_o_weight u6 v_o_strength u7 v_o_height u8 v_o_folk u9 v_o_mustBeAbove u10 v_o_wind u16 v_text_length v_text_bytes u4) := hD
                refine lv_goto (tgt := 22) hx hb dX0_firstFault_100 (by decide) ?_
                exact ih_22 u11 u13 u14 u15 u12 u5 u6 u7 u8 u9 u10 u16 u20 u19 (j22_v_lines + 1) u4 ls H locs hf (lv_sub hl [0] rfl) hP hD hS
              · have hf := hf.2 c88
                exact J_91 u11 u13 u14 u15 u12 u5 u6 u7 u8 u9 u10 u16 u3 u2 (j22_v_lines + 1) u4 ls H locs hf (lv_sub hl [0] rfl) hP hD hS
          · have hf := hf.2 c59
            refine lv_iconst hx hb dX0_firstFault_62 kc_i_m1 ?_
            exact hRet (-1) (u11, u13, u14, u15, u12, u5, u6, u7, u8, u9, u10, u16, u3, u2, j22_v_lines + 1, u4) 63 ls H locs dX0_firstFault_63 hf hP hS
  obtain ⟨H, locs, eH, eL⟩ : ∃ (H : Heap) (locs : List Loc), H = s.heap ∧ locs = [] := ⟨_, _, rfl, rfl⟩
  rw [← eH] at hP
  have hS : va_S A s.heap H locs := by rw [eH, eL]; exact hS
  show W p l e rm_X0_firstFault s m args below meth c s.heap [] 0 0 Q (F0 m 0 ls [])
  rw [← eH, ← eL]
  unfold f_X0_firstFault at hf
  refine lv_aload_n hx hb dX0_firstFault_0 rfl (lv_at hl 0 rfl) ?_
  refine gf_X0_12 hB hP 0 rfl rfl dX0_firstFault_1 ?_
  refine lv_aload_n hx hb dX0_firstFault_4 rfl (lv_at hl 1 rfl) ?_
  refine mx_wv (mx_runN (As := [.ref a_o]) (rest := []) hB (c_X1_copyFrom l E a_draft a_draft_kind a_draft_weight a_draft_strength a_draft_height a_draft_folk a_draft_mustBeAbove a_draft_wind a_o a_o_kind a_o_weight a_o_strength a_o_height a_o_folk a_o_mustBeAbove a_o_wind v_draft_storeys v_draft_pairs v_draft_bears v_draft_soft v_draft_cellars v_o_storeys v_o_pairs v_o_bears v_o_soft v_o_cellars v_o_kind v_draft_kind v_o_weight v_draft_weight v_o_strength v_draft_strength v_o_height v_draft_height v_o_folk v_draft_folk v_o_mustBeAbove v_draft_mustBeAbove v_o_wind v_draft_wind H.size  _ hf) sB_X1_copyFrom sV_X1_copyFrom wmn_X0_26 rfl (mx_pwV hB hP hD [1, 2, 3, 4, 5, 6, 7, 8, 9, 10, 11, 12, 13, 14, 15, 16] (by decide) rfl rfl 1 rfl rfl rfl) hl.1 rfl (Nat.le_of_ble_eq_true rfl) dX0_firstFault_5 ⟨Nat.zero_le _, Nat.zero_le _⟩) hP hD hS hA [1, 2, 3, 4, 5, 6, 7, 8, 9, 10, 11, 12, 13, 14, 15, 16] rfl (fun _ => rfl) (fun u => w_X0_firstFault E a_t a_text a_draft a_numbers a_draft_kind a_draft_weight a_draft_strength a_draft_height a_draft_folk a_draft_mustBeAbove a_draft_wind a_o a_o_kind a_o_weight a_o_strength a_o_height a_o_folk a_o_mustBeAbove a_o_wind a_text_bytes v_lines v_start v_end u.1 u.2.1 u.2.2.1 u.2.2.2.1 u.2.2.2.2.1 v_o_storeys v_o_pairs v_o_bears v_o_soft v_o_cellars v_o_kind u.2.2.2.2.2.1 v_o_weight u.2.2.2.2.2.2.1 v_o_strength u.2.2.2.2.2.2.2.1 v_o_height u.2.2.2.2.2.2.2.2.1 v_o_folk u.2.2.2.2.2.2.2.2.2.1 v_o_mustBeAbove u.2.2.2.2.2.2.2.2.2.2.1 v_o_wind u.2.2.2.2.2.2.2.2.2.2.2 v_text_length v_text_bytes v_numbers) (fun _ => rfl) (fun _ => rfl) (fun u H locs hf hP hD hS => ?_)
  obtain ⟨u2, u3, u4, u5, u6, u7, u8, u9, u10, u11, u12, u13⟩ := u
  have hP : va_P E.1 vwCl (w_X0_firstFault E a_t a_text a_draft a_numbers a_draft_kind a_draft_weight a_draft_strength a_draft_height a_draft_folk a_draft_mustBeAbove a_draft_wind a_o a_o_kind a_o_weight a_o_strength a_o_height a_o_folk a_o_mustBeAbove a_o_wind a_text_bytes v_lines v_start v_end u2 u3 u4 u5 u6 v_o_storeys v_o_pairs v_o_bears v_o_soft v_o_cellars v_o_kind u7 v_o_weight u8 v_o_strength u9 v_o_height u10 v_o_folk u11 v_o_mustBeAbove u12 v_o_wind u13 v_text_length v_text_bytes v_numbers) H := hP
  have hD : va_D A (w_X0_firstFault E a_t a_text a_draft a_numbers a_draft_kind a_draft_weight a_draft_strength a_draft_height a_draft_folk a_draft_mustBeAbove a_draft_wind a_o a_o_kind a_o_weight a_o_strength a_o_height a_o_folk a_o_mustBeAbove a_o_wind a_text_bytes v_lines v_start v_end u2 u3 u4 u5 u6 v_o_storeys v_o_pairs v_o_bears v_o_soft v_o_cellars v_o_kind u7 v_o_weight u8 v_o_strength u9 v_o_height u10 v_o_folk u11 v_o_mustBeAbove u12 v_o_wind u13 v_text_length v_text_bytes v_numbers) := hD
  refine lv_aload_n hx hb dX0_firstFault_8 rfl (lv_at hl 0 rfl) ?_
  refine lv_iconst hx hb dX0_firstFault_9 kc_i_0 ?_
  refine pf_X0_30 hB hP hD hS 0 rfl (Nat.le_of_ble_eq_true rfl) dX0_firstFault_10 (w_X0_firstFault E a_t a_text a_draft a_numbers a_draft_kind a_draft_weight a_draft_strength a_draft_height a_draft_folk a_draft_mustBeAbove a_draft_wind a_o a_o_kind a_o_weight a_o_strength a_o_height a_o_folk a_o_mustBeAbove a_o_wind a_text_bytes v_lines v_start 0 u2 u3 u4 u5 u6 v_o_storeys v_o_pairs v_o_bears v_o_soft v_o_cellars v_o_kind u7 v_o_weight u8 v_o_strength u9 v_o_height u10 v_o_folk u11 v_o_mustBeAbove u12 v_o_wind u13 v_text_length v_text_bytes v_numbers) rfl (fun H locs hP hD hS => ?_)
  refine lv_aload_n hx hb dX0_firstFault_13 rfl (lv_at hl 0 rfl) ?_
  refine mx_wv (mx_runV (As := []) (rest := []) hB (c_X0_step l E a_t a_text a_draft a_numbers a_text_bytes v_lines v_start 0 v_text_length v_text_bytes H.size  _ hf) sB_X0_step sV_X0_step wml_X0_34 rfl (mx_pwV hB hP hD [0, 17, 18] (by decide) rfl rfl 0 rfl rfl rfl) hl.1 rfl (Nat.le_of_ble_eq_true rfl) dX0_firstFault_14 ⟨Nat.zero_le _, Nat.zero_le _⟩) hP hD hS hA [0, 17, 18] rfl (fun _ => rfl) (fun u => w_X0_firstFault E a_t a_text a_draft a_numbers a_draft_kind a_draft_weight a_draft_strength a_draft_height a_draft_folk a_draft_mustBeAbove a_draft_wind a_o a_o_kind a_o_weight a_o_strength a_o_height a_o_folk a_o_mustBeAbove a_o_wind a_text_bytes v_lines u.1 u.2 u2 u3 u4 u5 u6 v_o_storeys v_o_pairs v_o_bears v_o_soft v_o_cellars v_o_kind u7 v_o_weight u8 v_o_strength u9 v_o_height u10 v_o_folk u11 v_o_mustBeAbove u12 v_o_wind u13 v_text_length v_text_bytes v_numbers) (fun _ => rfl) (fun _ => rfl) (fun u H locs hf hP hD hS => ?_)
  obtain ⟨u15, u16⟩ := u
  have hP : va_P E.1 vwCl (w_X0_firstFault E a_t a_text a_draft a_numbers a_draft_kind a_draft_weight a_draft_strength a_draft_height a_draft_folk a_draft_mustBeAbove a_draft_wind a_o a_o_kind a_o_weight a_o_strength a_o_height a_o_folk a_o_mustBeAbove a_o_wind a_text_bytes v_lines u15 u16 u2 u3 u4 u5 u6 v_o_storeys v_o_pairs v_o_bears v_o_soft v_o_cellars v_o_kind u7 v_o_weight u8 v_o_strength u9 v_o_height u10 v_o_folk u11 v_o_mustBeAbove u12 v_o_wind u13 v_text_length v_text_bytes v_numbers) H := hP
  have hD : va_D A (w_X0_firstFault E a_t a_text a_draft a_numbers a_draft_kind a_draft_weight a_draft_strength a_draft_height a_draft_folk a_draft_mustBeAbove a_draft_wind a_o a_o_kind a_o_weight a_o_strength a_o_height a_o_folk a_o_mustBeAbove a_o_wind a_text_bytes v_lines u15 u16 u2 u3 u4 u5 u6 v_o_storeys v_o_pairs v_o_bears v_o_soft v_o_cellars v_o_kind u7 v_o_weight u8 v_o_strength u9 v_o_height u10 v_o_folk u11 v_o_mustBeAbove u12 v_o_wind u13 v_text_length v_text_bytes v_numbers) := hD
  refine lv_aload_n hx hb dX0_firstFault_17 rfl (lv_at hl 0 rfl) ?_
  refine lv_iconst hx hb dX0_firstFault_18 kc_i_0 ?_
  refine pf_X0_37 hB hP hD hS 0 rfl (Nat.le_of_ble_eq_true rfl) dX0_firstFault_19 (w_X0_firstFault E a_t a_text a_draft a_numbers a_draft_kind a_draft_weight a_draft_strength a_draft_height a_draft_folk a_draft_mustBeAbove a_draft_wind a_o a_o_kind a_o_weight a_o_strength a_o_height a_o_folk a_o_mustBeAbove a_o_wind a_text_bytes 0 u15 u16 u2 u3 u4 u5 u6 v_o_storeys v_o_pairs v_o_bears v_o_soft v_o_cellars v_o_kind u7 v_o_weight u8 v_o_strength u9 v_o_height u10 v_o_folk u11 v_o_mustBeAbove u12 v_o_wind u13 v_text_length v_text_bytes v_numbers) rfl (fun H locs hP hD hS => ?_)
  obtain ⟨n9, hf⟩ := hf
  exact L_22  n9 u2 u3 u4 u5 u6 u7 u8 u9 u10 u11 u12 u13 u16 u15 0 v_numbers ls H locs hf (lv_sub hl [0] rfl) hP hD hS
theorem c_X0_firstFault (l : Launch) (E : mx_E) (Z : (Nat → Nat) × (Nat → Nat)) (a_t : Nat) (a_text : Nat) (a_draft : Nat) (a_numbers : Nat) (a_draft_kind : Nat) (a_draft_weight : Nat) (a_draft_strength : Nat) (a_draft_height : Nat) (a_draft_folk : Nat) (a_draft_mustBeAbove : Nat) (a_draft_wind : Nat) (a_o : Nat) (a_o_kind : Nat) (a_o_weight : Nat) (a_o_strength : Nat) (a_o_height : Nat) (a_o_folk : Nat) (a_o_mustBeAbove : Nat) (a_o_wind : Nat) (a_text_bytes : Nat) (v_lines : Int32) (v_start : Int32) (v_end : Int32) (v_draft_storeys : Int32) (v_draft_pairs : Int32) (v_draft_bears : Int32) (v_draft_soft : Int32) (v_draft_cellars : Int32) (v_o_storeys : Int32) (v_o_pairs : Int32) (v_o_bears : Int32) (v_o_soft : Int32) (v_o_cellars : Int32) (v_o_kind : (Nat → Int32)) (v_draft_kind : (Nat → Int32)) (v_o_weight : (Nat → Int32)) (v_draft_weight : (Nat → Int32)) (v_o_strength : (Nat → Int32)) (v_draft_strength : (Nat → Int32)) (v_o_height : (Nat → Int32)) (v_draft_height : (Nat → Int32)) (v_o_folk : (Nat → Int32)) (v_draft_folk : (Nat → Int32)) (v_o_mustBeAbove : (Nat → Int32)) (v_draft_mustBeAbove : (Nat → Int32)) (v_o_wind : (Nat → Int32)) (v_draft_wind : (Nat → Int32)) (v_text_length : Int32) (v_text_bytes : (Nat → Int32)) (v_numbers : (Nat → Int32)) (sz : Nat)  (post : Int32 → Int32 → Int32 → Int32 → Int32 → Int32 → (Nat → Int32) → (Nat → Int32) → (Nat → Int32) → (Nat → Int32) → (Nat → Int32) → (Nat → Int32) → (Nat → Int32) → Int32 → Int32 → Int32 → (Nat → Int32) → Prop) (hf : f_X0_firstFault v_o_storeys v_o_pairs v_o_bears v_o_soft v_o_cellars v_o_kind v_o_weight v_o_strength v_o_height v_o_folk v_o_mustBeAbove v_o_wind v_text_length v_text_bytes v_draft_storeys v_draft_pairs v_draft_bears v_draft_soft v_draft_cellars v_draft_kind v_draft_weight v_draft_strength v_draft_height v_draft_folk v_draft_mustBeAbove v_draft_wind v_end v_start v_lines v_numbers post) : Met l yX0_firstFault (Cond.code yX0_firstFault cX0_firstFault 2 (some .int) :: mx_WS) rm_X0_firstFault (va_Pc [.ref a_t, .ref a_o] (mx_Pwz E Z (w_X0_firstFault E a_t a_text a_draft a_numbers a_draft_kind a_draft_weight a_draft_strength a_draft_height a_draft_folk a_draft_mustBeAbove a_draft_wind a_o a_o_kind a_o_weight a_o_strength a_o_height a_o_folk a_o_mustBeAbove a_o_wind a_text_bytes v_lines v_start v_end v_draft_storeys v_draft_pairs v_draft_bears v_draft_soft v_draft_cellars v_o_storeys v_o_pairs v_o_bears v_o_soft v_o_cellars v_o_kind v_draft_kind v_o_weight v_draft_weight v_o_strength v_draft_strength v_o_height v_draft_height v_o_folk v_draft_folk v_o_mustBeAbove v_draft_mustBeAbove v_o_wind v_draft_wind v_text_length v_text_bytes v_numbers) sz)) (va_Qi (fun (v : Int32) (u : Int32 × Int32 × Int32 × Int32 × Int32 × (Nat → Int32) × (Nat → Int32) × (Nat → Int32) × (Nat → Int32) × (Nat → Int32) × (Nat → Int32) × (Nat → Int32) × Int32 × Int32 × Int32 × (Nat → Int32)) => post v u.1 u.2.1 u.2.2.1 u.2.2.2.1 u.2.2.2.2.1 u.2.2.2.2.2.1 u.2.2.2.2.2.2.1 u.2.2.2.2.2.2.2.1 u.2.2.2.2.2.2.2.2.1 u.2.2.2.2.2.2.2.2.2.1 u.2.2.2.2.2.2.2.2.2.2.1 u.2.2.2.2.2.2.2.2.2.2.2.1 u.2.2.2.2.2.2.2.2.2.2.2.2.1 u.2.2.2.2.2.2.2.2.2.2.2.2.2.1 u.2.2.2.2.2.2.2.2.2.2.2.2.2.2.1 u.2.2.2.2.2.2.2.2.2.2.2.2.2.2.2) (fun u t => va_P E.1 vwCl (w_X0_firstFault E a_t a_text a_draft a_numbers a_draft_kind a_draft_weight a_draft_strength a_draft_height a_draft_folk a_draft_mustBeAbove a_draft_wind a_o a_o_kind a_o_weight a_o_strength a_o_height a_o_folk a_o_mustBeAbove a_o_wind a_text_bytes u.2.2.2.2.2.2.2.2.2.2.2.2.2.2.1 u.2.2.2.2.2.2.2.2.2.2.2.2.2.1 u.2.2.2.2.2.2.2.2.2.2.2.2.1 u.1 u.2.1 u.2.2.1 u.2.2.2.1 u.2.2.2.2.1 v_o_storeys v_o_pairs v_o_bears v_o_soft v_o_cellars v_o_kind u.2.2.2.2.2.1 v_o_weight u.2.2.2.2.2.2.1 v_o_strength u.2.2.2.2.2.2.2.1 v_o_height u.2.2.2.2.2.2.2.2.1 v_o_folk u.2.2.2.2.2.2.2.2.2.1 v_o_mustBeAbove u.2.2.2.2.2.2.2.2.2.2.1 v_o_wind u.2.2.2.2.2.2.2.2.2.2.2.1 v_text_length v_text_bytes u.2.2.2.2.2.2.2.2.2.2.2.2.2.2.2) t.heap) (va_A (w_X0_firstFault E a_t a_text a_draft a_numbers a_draft_kind a_draft_weight a_draft_strength a_draft_height a_draft_folk a_draft_mustBeAbove a_draft_wind a_o a_o_kind a_o_weight a_o_strength a_o_height a_o_folk a_o_mustBeAbove a_o_wind a_text_bytes v_lines v_start v_end v_draft_storeys v_draft_pairs v_draft_bears v_draft_soft v_draft_cellars v_o_storeys v_o_pairs v_o_bears v_o_soft v_o_cellars v_o_kind v_draft_kind v_o_weight v_draft_weight v_o_strength v_draft_strength v_o_height v_draft_height v_o_folk v_draft_folk v_o_mustBeAbove v_draft_mustBeAbove v_o_wind v_draft_wind v_text_length v_text_bytes v_numbers) sz)) 0 0 (va_A (w_X0_firstFault E a_t a_text a_draft a_numbers a_draft_kind a_draft_weight a_draft_strength a_draft_height a_draft_folk a_draft_mustBeAbove a_draft_wind a_o a_o_kind a_o_weight a_o_strength a_o_height a_o_folk a_o_mustBeAbove a_o_wind a_text_bytes v_lines v_start v_end v_draft_storeys v_draft_pairs v_draft_bears v_draft_soft v_draft_cellars v_o_storeys v_o_pairs v_o_bears v_o_soft v_o_cellars v_o_kind v_draft_kind v_o_weight v_draft_weight v_o_strength v_draft_strength v_o_height v_draft_height v_o_folk v_draft_folk v_o_mustBeAbove v_draft_mustBeAbove v_o_wind v_draft_wind v_text_length v_text_bytes v_numbers) sz) :=
  mx_metWiz (by decide) rfl rfl (fun hB hP hD hA hZ hRet ls hl => b_X0_firstFault E Z a_t a_text a_draft a_numbers a_draft_kind a_draft_weight a_draft_strength a_draft_height a_draft_folk a_draft_mustBeAbove a_draft_wind a_o a_o_kind a_o_weight a_o_strength a_o_height a_o_folk a_o_mustBeAbove a_o_wind a_text_bytes v_lines v_start v_end v_draft_storeys v_draft_pairs v_draft_bears v_draft_soft v_draft_cellars v_o_storeys v_o_pairs v_o_bears v_o_soft v_o_cellars v_o_kind v_draft_kind v_o_weight v_draft_weight v_o_strength v_draft_strength v_o_height v_draft_height v_o_folk v_draft_folk v_o_mustBeAbove v_draft_mustBeAbove v_o_wind v_draft_wind v_text_length v_text_bytes v_numbers  post hB hP hD hA hZ hRet hf ls hl)
