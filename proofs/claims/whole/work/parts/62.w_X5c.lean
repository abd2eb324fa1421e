def rm_X5_loadOf : Room := { frames := 0, cells := 0, slots := 0, locals := 0 }
set_option maxHeartbeats 4000000 in
set_option maxRecDepth 100000 in
theorem b_X5_loadOf {p : Program} {l : Launch} {e : Env} {s : State} {m : MethodId} {args : Array Value} {below : List Frame} {meth : Method} {c : Code} {Q : State → Prop} (E : mx_E) (a_t : Nat) (a_storey : Nat) (a_wind : Nat) (a_pair : Nat) (a_text : Nat) (a_read : Nat) (a_now : Nat) (a_image : Nat) (a_isKept : Nat) (a_row : Nat) (a_sight : Nat) (a_ways : Nat) (a_ends : Nat) (a_tried : Nat) (v_storeys : Int32) (v_jacks : Int32) (v_soft : Int32) (v_pairs : Int32) (v_bytes : Int32) (v_position : Int32) (v_tokenAt : Int32) (v_token : Int64) (v_digits : Int32) (v_number : Int32) (v_faultAt : Int32) (v_readMany : Int32) (v_readStoreys : Int32) (v_readPairs : Int32) (v_rows : Int32) (v_sights : Int32) (v_storey : (Nat → Int32)) (x1 : Int32) (post : Int32 → Prop) (hB : mx_B p m c cX5_loadOf 2 s args RX5 E) (hP : va_P E.1 vwCl (w_X5_loadOf E a_t a_storey a_wind a_pair a_text a_read a_now a_image a_isKept a_row a_sight a_ways a_ends a_tried v_storeys v_jacks v_soft v_pairs v_bytes v_position v_tokenAt v_token v_digits v_number v_faultAt v_readMany v_readStoreys v_readPairs v_rows v_sights v_storey) s.heap) (hRet : ∀ (v : Int32) (pc : Nat) (ls : Array Slot), decode cX5_loadOf pc = .ok (.ireturn, 1) → post v → W p l e rm_X5_loadOf s m args below meth c s.heap [] 0 0 Q (F0 m pc ls [.int v])) (hf : f_X5_loadOf v_storey x1 post) (ls : Array Slot) (hl : lv_has ls 2 [(0, .ref a_t), (1, .int x1)]) : W p l e rm_X5_loadOf s m args below meth c s.heap [] 0 0 Q (F0 m 0 ls []) := by
  have hx := hB.x
  have hb := hB.b
  refine lv_aload_n hx hb dX5_loadOf_0 rfl (lv_at hl 0 rfl) ?_
  refine gf_X5_7 hB hP 0 rfl rfl dX5_loadOf_1 ?_
  refine lv_iconst hx hb dX5_loadOf_4 kc_i_5 ?_
  refine lv_iload_n hx hb dX5_loadOf_5 rfl (lv_at hl 1 rfl) ?_
  refine lv_imul hx hb dX5_loadOf_6 ?_
  refine lv_iconst hx hb dX5_loadOf_7 kc_i_1 ?_
  refine lv_iadd hx hb dX5_loadOf_8 ?_
  obtain ⟨h_in, hf⟩ := hf
  refine va_iald hx hb hB.K hP 1 0 rfl rfl h_in dX5_loadOf_9 ?_
  refine lv_aload_n hx hb dX5_loadOf_10 rfl (lv_at hl 0 rfl) ?_
  refine gf_X5_7 hB hP 0 rfl rfl dX5_loadOf_11 ?_
  refine lv_iconst hx hb dX5_loadOf_14 kc_i_5 ?_
  refine lv_iload_n hx hb dX5_loadOf_15 rfl (lv_at hl 1 rfl) ?_
  refine lv_imul hx hb dX5_loadOf_16 ?_
  refine lv_iconst hx hb dX5_loadOf_17 kc_i_4 ?_
  refine lv_iadd hx hb dX5_loadOf_18 ?_
  obtain ⟨h_in, hf⟩ := hf
  refine va_iald hx hb hB.K hP 1 0 rfl rfl h_in dX5_loadOf_19 ?_
  refine lv_iadd hx hb dX5_loadOf_20 ?_
  exact hRet ((v_storey ((5 * x1) + 1).toNatClampNeg) + (v_storey ((5 * x1) + 4).toNatClampNeg)) 21 ls dX5_loadOf_21 hf
theorem c_X5_loadOf (l : Launch) (E : mx_E) (a_t : Nat) (a_storey : Nat) (a_wind : Nat) (a_pair : Nat) (a_text : Nat) (a_read : Nat) (a_now : Nat) (a_image : Nat) (a_isKept : Nat) (a_row : Nat) (a_sight : Nat) (a_ways : Nat) (a_ends : Nat) (a_tried : Nat) (v_storeys : Int32) (v_jacks : Int32) (v_soft : Int32) (v_pairs : Int32) (v_bytes : Int32) (v_position : Int32) (v_tokenAt : Int32) (v_token : Int64) (v_digits : Int32) (v_number : Int32) (v_faultAt : Int32) (v_readMany : Int32) (v_readStoreys : Int32) (v_readPairs : Int32) (v_rows : Int32) (v_sights : Int32) (v_storey : (Nat → Int32)) (x1 : Int32) (post : Int32 → Prop) (hf : f_X5_loadOf v_storey x1 post) : Met l yX5_loadOf (Cond.code yX5_loadOf cX5_loadOf 2 (some .int) :: mx_WS) rm_X5_loadOf (va_Pc [.ref a_t, .int x1] (mx_Pp E (w_X5_loadOf E a_t a_storey a_wind a_pair a_text a_read a_now a_image a_isKept a_row a_sight a_ways a_ends a_tried v_storeys v_jacks v_soft v_pairs v_bytes v_position v_tokenAt v_token v_digits v_number v_faultAt v_readMany v_readStoreys v_readPairs v_rows v_sights v_storey))) (vp_Si post) 0 0 (fun _ => False) :=
  mx_metPi (by decide) rfl rfl (fun hB hP hRet ls hl => b_X5_loadOf E a_t a_storey a_wind a_pair a_text a_read a_now a_image a_isKept a_row a_sight a_ways a_ends a_tried v_storeys v_jacks v_soft v_pairs v_bytes v_position v_tokenAt v_token v_digits v_number v_faultAt v_readMany v_readStoreys v_readPairs v_rows v_sights v_storey x1 post hB hP hRet hf ls hl)
def rm_X5_storey : Room := { frames := 2, cells := 0, slots := 0, locals := 43 }
set_option maxHeartbeats 4000000 in
set_option maxRecDepth 100000 in
theorem b_X5_storey {p : Program} {l : Launch} {e : Env} {s : State} {m : MethodId} {args : Array Value} {below : List Frame} {meth : Method} {c : Code} {Q : State → Prop} (E : mx_E) (a_t : Nat) (a_storey : Nat) (a_wind : Nat) (a_pair : Nat) (a_text : Nat) (a_read : Nat) (a_now : Nat) (a_image : Nat) (a_isKept : Nat) (a_row : Nat) (a_sight : Nat) (a_ways : Nat) (a_ends : Nat) (a_tried : Nat) (v_storeys : Int32) (v_jacks : Int32) (v_soft : Int32) (v_pairs : Int32) (v_bytes : Int32) (v_position : Int32) (v_tokenAt : Int32) (v_token : Int64) (v_digits : Int32) (v_number : Int32) (v_faultAt : Int32) (v_readMany : Int32) (v_readStoreys : Int32) (v_readPairs : Int32) (v_rows : Int32) (v_sights : Int32) (v_storey : (Nat → Int32)) (x1 : Int32) (x2 : Int32) (post : Int32 → Prop) (hB : mx_B p m c cX5_storey 3 s args RX5 E) (hP : va_P E.1 vwCl (w_X5_storey E a_t a_storey a_wind a_pair a_text a_read a_now a_image a_isKept a_row a_sight a_ways a_ends a_tried v_storeys v_jacks v_soft v_pairs v_bytes v_position v_tokenAt v_token v_digits v_number v_faultAt v_readMany v_readStoreys v_readPairs v_rows v_sights v_storey) s.heap) (hRet : ∀ (v : Int32) (pc : Nat) (ls : Array Slot), decode cX5_storey pc = .ok (.ireturn, 1) → post v → W p l e rm_X5_storey s m args below meth c s.heap [] 0 0 Q (F0 m pc ls [.int v])) (hf : f_X5_storey v_storeys v_storey x1 x2 post) (ls : Array Slot) (hl : lv_has ls 3 [(0, .ref a_t), (1, .int x1), (2, .int x2)]) : W p l e rm_X5_storey s m args below meth c s.heap [] 0 0 Q (F0 m 0 ls []) := by
  have hx := hB.x
  have hb := hB.b
  refine lv_aload_n hx hb dX5_storey_0 rfl (lv_at hl 0 rfl) ?_
  refine lv_iload_n hx hb dX5_storey_1 rfl (lv_at hl 1 rfl) ?_
  refine mx_gi (mx_runV (As := [.int x1]) (rest := []) hB (c_X5_isStorey l E a_t a_storey a_wind a_pair a_text a_read a_now a_image a_isKept a_row a_sight a_ways a_ends a_tried v_storeys v_jacks v_soft v_pairs v_bytes v_position v_tokenAt v_token v_digits v_number v_faultAt v_readMany v_readStoreys v_readPairs v_rows v_sights x1 _ hf) sB_X5_isStorey sV_X5_isStorey wml_X5_172 rfl (mx_ppV hB hP [0] rfl 5 rfl rfl rfl) hl.1 rfl (Nat.le_of_ble_eq_true rfl) dX5_storey_2 ⟨Nat.zero_le _, Nat.zero_le _⟩) (fun r1 hf => ?_)
  refine lv_if_ne (tgt := 11) hx hb dX5_storey_5 (by decide) (fun c5 => ?_) (fun c5 => ?_)
  · have hf := hf.1 c5
    refine lv_iload_n hx hb dX5_storey_11 rfl (lv_at hl 2 rfl) ?_
    refine lv_iconst hx hb dX5_storey_12 kc_i_0 ?_
    refine lv_iconst hx hb dX5_storey_13 kc_i_4 ?_
    refine mx_gi (mx_runS (As := [.int x2, .int 0, .int 4]) (rest := []) hB (c_X5_in1 l E x2 0 4 _ hf) sB_X5_in1 wst_X5_in1 wml_X5_60 rfl (mx_pp hB hP [] rfl) hl.1 rfl (Nat.le_of_ble_eq_true rfl) dX5_storey_14 ⟨Nat.zero_le _, Nat.zero_le _⟩) (fun r2 hf => ?_)
    refine lv_if_eq (tgt := 33) hx hb dX5_storey_17 (by decide) (fun c17 => ?_) (fun c17 => ?_)
    · have hf := hf.1 c17
      refine lv_bipush hx hb dX5_storey_33 kc_b_m3 ?_
      exact hRet (-3) 35 ls dX5_storey_35 hf
    · have hf := hf.2 c17
      refine lv_aload_n hx hb dX5_storey_20 rfl (lv_at hl 0 rfl) ?_
      refine gf_X5_7 hB hP 0 rfl rfl dX5_storey_21 ?_
      refine lv_iconst hx hb dX5_storey_24 kc_i_5 ?_
      refine lv_iload_n hx hb dX5_storey_25 rfl (lv_at hl 1 rfl) ?_
      refine lv_imul hx hb dX5_storey_26 ?_
      refine lv_iload_n hx hb dX5_storey_27 rfl (lv_at hl 2 rfl) ?_
      refine lv_iadd hx hb dX5_storey_28 ?_
      obtain ⟨h_in, hf⟩ := hf
      refine va_iald hx hb hB.K hP 1 0 rfl rfl h_in dX5_storey_29 ?_
      refine lv_goto (tgt := 35) hx hb dX5_storey_30 (by decide) ?_
      exact hRet (v_storey ((5 * x1) + x2).toNatClampNeg) 35 ls dX5_storey_35 hf
  · have hf := hf.2 c5
    refine lv_bipush hx hb dX5_storey_8 kc_b_m2 ?_
    exact hRet (-2) 10 ls dX5_storey_10 hf
theorem c_X5_storey (l : Launch) (E : mx_E) (a_t : Nat) (a_storey : Nat) (a_wind : Nat) (a_pair : Nat) (a_text : Nat) (a_read : Nat) (a_now : Nat) (a_image : Nat) (a_isKept : Nat) (a_row : Nat) (a_sight : Nat) (a_ways : Nat) (a_ends : Nat) (a_tried : Nat) (v_storeys : Int32) (v_jacks : Int32) (v_soft : Int32) (v_pairs : Int32) (v_bytes : Int32) (v_position : Int32) (v_tokenAt : Int32) (v_token : Int64) (v_digits : Int32) (v_number : Int32) (v_faultAt : Int32) (v_readMany : Int32) (v_readStoreys : Int32) (v_readPairs : Int32) (v_rows : Int32) (v_sights : Int32) (v_storey : (Nat → Int32)) (x1 : Int32) (x2 : Int32) (post : Int32 → Prop) (hf : f_X5_storey v_storeys v_storey x1 x2 post) : Met l yX5_storey (Cond.code yX5_storey cX5_storey 3 (some .int) :: mx_WS) rm_X5_storey (va_Pc [.ref a_t, .int x1, .int x2] (mx_Pp E (w_X5_storey E a_t a_storey a_wind a_pair a_text a_read a_now a_image a_isKept a_row a_sight a_ways a_ends a_tried v_storeys v_jacks v_soft v_pairs v_bytes v_position v_tokenAt v_token v_digits v_number v_faultAt v_readMany v_readStoreys v_readPairs v_rows v_sights v_storey))) (vp_Si post) 0 0 (fun _ => False) :=
  mx_metPi (by decide) rfl rfl (fun hB hP hRet ls hl => b_X5_storey E a_t a_storey a_wind a_pair a_text a_read a_now a_image a_isKept a_row a_sight a_ways a_ends a_tried v_storeys v_jacks v_soft v_pairs v_bytes v_position v_tokenAt v_token v_digits v_number v_faultAt v_readMany v_readStoreys v_readPairs v_rows v_sights v_storey x1 x2 post hB hP hRet hf ls hl)
def rm_X5_as : Room := { frames := 2, cells := 0, slots := 0, locals := 43 }
set_option maxHeartbeats 4000000 in
set_option maxRecDepth 100000 in
theorem b_X5_as {p : Program} {l : Launch} {e : Env} {s : State} {m : MethodId} {args : Array Value} {below : List Frame} {meth : Method} {c : Code} {Q : State → Prop} (E : mx_E) (a_t : Nat) (a_storey : Nat) (a_wind : Nat) (a_pair : Nat) (a_text : Nat) (a_read : Nat) (a_now : Nat) (a_image : Nat) (a_isKept : Nat) (a_row : Nat) (a_sight : Nat) (a_ways : Nat) (a_ends : Nat) (a_tried : Nat) (v_storeys : Int32) (v_jacks : Int32) (v_soft : Int32) (v_pairs : Int32) (v_bytes : Int32) (v_position : Int32) (v_tokenAt : Int32) (v_token : Int64) (v_digits : Int32) (v_number : Int32) (v_faultAt : Int32) (v_readMany : Int32) (v_readStoreys : Int32) (v_readPairs : Int32) (v_rows : Int32) (v_sights : Int32) (v_storey : (Nat → Int32)) (x1 : Int32) (x2 : Int32) (post : Int32 → Prop) (hB : mx_B p m c cX5_as 5 s args RX5 E) (hP : va_P E.1 vwCl (w_X5_as E a_t a_storey a_wind a_pair a_text a_read a_now a_image a_isKept a_row a_sight a_ways a_ends a_tried v_storeys v_jacks v_soft v_pairs v_bytes v_position v_tokenAt v_token v_digits v_number v_faultAt v_readMany v_readStoreys v_readPairs v_rows v_sights v_storey) s.heap) (hRet : ∀ (v : Int32) (pc : Nat) (ls : Array Slot), decode cX5_as pc = .ok (.ireturn, 1) → post v → W p l e rm_X5_as s m args below meth c s.heap [] 0 0 Q (F0 m pc ls [.int v])) (hf : f_X5_as v_storeys v_storey x1 x2 post) (ls : Array Slot) (hl : lv_has ls 5 [(0, .ref a_t), (1, .int x1), (2, .int x2)]) : W p l e rm_X5_as s m args below meth c s.heap [] 0 0 Q (F0 m 0 ls []) := by
  have hx := hB.x
  have hb := hB.b
  have J_85 : ∀ (j85_x1 : Int32) (j85_k0 : Int32) (ls : Array Slot), f_X5_as_85 v_storeys v_storey post j85_x1 j85_k0 → lv_has ls 5 [(0, .ref a_t), (1, .int j85_x1)] → W p l e rm_X5_as s m args below meth c s.heap [] 0 0 Q (F0 m 85 ls [.int j85_k0]) := by
    intro j85_x1 j85_k0 ls hf hl
    refine lv_istore (lv' := [(4, .int j85_k0), (0, .ref a_t), (1, .int j85_x1)]) hx hb dX5_as_85 hl (by decide) rfl (fun ls hl => ?_)
    refine lv_iload hx hb dX5_as_87 (lv_at hl 0 rfl) ?_
    refine lv_if_eq (tgt := 100) hx hb dX5_as_89 (by decide) (fun c89 => ?_) (fun c89 => ?_)
    · have hf := hf.1 c89
      refine lv_bipush hx hb dX5_as_100 kc_b_m4 ?_
      exact hRet (-4) 102 ls dX5_as_102 hf
    · have hf := hf.2 c89
      refine lv_aload_n hx hb dX5_as_92 rfl (lv_at hl 1 rfl) ?_
      refine lv_iload_n hx hb dX5_as_93 rfl (lv_at hl 2 rfl) ?_
      refine mx_gi (mx_runV (As := [.int j85_x1]) (rest := []) hB (c_X5_loadOf l E a_t a_storey a_wind a_pair a_text a_read a_now a_image a_isKept a_row a_sight a_ways a_ends a_tried v_storeys v_jacks v_soft v_pairs v_bytes v_position v_tokenAt v_token v_digits v_number v_faultAt v_readMany v_readStoreys v_readPairs v_rows v_sights v_storey j85_x1 _ hf) sB_X5_loadOf sV_X5_loadOf wml_X5_175 rfl (mx_ppV hB hP [0, 1] rfl 5 rfl rfl rfl) hl.1 rfl (Nat.le_of_ble_eq_true rfl) dX5_as_94 ⟨Nat.zero_le _, Nat.zero_le _⟩) (fun r1 hf => ?_)
      refine lv_goto (tgt := 102) hx hb dX5_as_97 (by decide) ?_
      exact hRet r1 102 ls dX5_as_102 hf
  have J_84 : ∀ (j84_x1 : Int32) (ls : Array Slot), f_X5_as_84 v_storeys v_storey post j84_x1 → lv_has ls 5 [(0, .ref a_t), (1, .int j84_x1)] → W p l e rm_X5_as s m args below meth c s.heap [] 0 0 Q (F0 m 84 ls []) := by
    intro j84_x1 ls hf hl
    refine lv_iconst hx hb dX5_as_84 kc_i_0 ?_
    exact J_85 j84_x1 0 ls hf (lv_sub hl [0, 1] rfl)
  have J_80 : ∀ (j80_x1 : Int32) (ls : Array Slot), f_X5_as_80 v_storeys v_storey post j80_x1 → lv_has ls 5 [(0, .ref a_t), (1, .int j80_x1)] → W p l e rm_X5_as s m args below meth c s.heap [] 0 0 Q (F0 m 80 ls []) := by
    intro j80_x1 ls hf hl
    refine lv_iconst hx hb dX5_as_80 kc_i_1 ?_
    refine lv_goto (tgt := 85) hx hb dX5_as_81 (by decide) ?_
    exact J_85 j80_x1 1 ls hf (lv_sub hl [0, 1] rfl)
  refine lv_aload_n hx hb dX5_as_0 rfl (lv_at hl 0 rfl) ?_
  refine lv_iload_n hx hb dX5_as_1 rfl (lv_at hl 1 rfl) ?_
  refine mx_gi (mx_runV (As := [.int x1]) (rest := []) hB (c_X5_isStorey l E a_t a_storey a_wind a_pair a_text a_read a_now a_image a_isKept a_row a_sight a_ways a_ends a_tried v_storeys v_jacks v_soft v_pairs v_bytes v_position v_tokenAt v_token v_digits v_number v_faultAt v_readMany v_readStoreys v_readPairs v_rows v_sights x1 _ hf) sB_X5_isStorey sV_X5_isStorey wml_X5_172 rfl (mx_ppV hB hP [0] rfl 5 rfl rfl rfl) hl.1 rfl (Nat.le_of_ble_eq_true rfl) dX5_as_2 ⟨Nat.zero_le _, Nat.zero_le _⟩) (fun r1 hf => ?_)
  refine lv_if_ne (tgt := 11) hx hb dX5_as_5 (by decide) (fun c5 => ?_) (fun c5 => ?_)
  · have hf := hf.1 c5
    refine lv_iload_n hx hb dX5_as_11 rfl (lv_at hl 2 rfl) ?_
    refine lv_iconst hx hb dX5_as_12 kc_i_0 ?_
    refine lv_iconst hx hb dX5_as_13 kc_i_4 ?_
    refine mx_gi (mx_runS (As := [.int x2, .int 0, .int 4]) (rest := []) hB (c_X5_in1 l E x2 0 4 _ hf) sB_X5_in1 wst_X5_in1 wml_X5_60 rfl (mx_pp hB hP [] rfl) hl.1 rfl (Nat.le_of_ble_eq_true rfl) dX5_as_14 ⟨Nat.zero_le _, Nat.zero_le _⟩) (fun r2 hf => ?_)
    refine lv_if_ne (tgt := 23) hx hb dX5_as_17 (by decide) (fun c17 => ?_) (fun c17 => ?_)
    · have hf := hf.1 c17
      refine lv_aload_n hx hb dX5_as_23 rfl (lv_at hl 0 rfl) ?_
      refine gf_X5_7 hB hP 0 rfl rfl dX5_as_24 ?_
      refine lv_iconst hx hb dX5_as_27 kc_i_5 ?_
      refine lv_iload_n hx hb dX5_as_28 rfl (lv_at hl 1 rfl) ?_
      refine lv_imul hx hb dX5_as_29 ?_
      obtain ⟨h_in, hf⟩ := hf
      refine va_iald hx hb hB.K hP 1 0 rfl rfl h_in dX5_as_30 ?_
      refine lv_istore_n (lv' := [(3, .int (v_storey (5 * x1).toNatClampNeg)), (0, .ref a_t), (1, .int x1), (2, .int x2)]) hx hb dX5_as_31 rfl hl (by decide) rfl (fun ls hl => ?_)
      refine lv_iload_n hx hb dX5_as_32 rfl (lv_at hl 3 rfl) ?_
      refine lv_if_eq (tgt := 80) hx hb dX5_as_33 (by decide) (fun c33 => ?_) (fun c33 => ?_)
      · have hf := hf.1 c33
        exact J_80 x1 ls hf (lv_sub hl [1, 2] rfl)
      · have hf := hf.2 c33
        refine lv_iload_n hx hb dX5_as_36 rfl (lv_at hl 3 rfl) ?_
        refine lv_iconst hx hb dX5_as_37 kc_i_1 ?_
        refine lv_icmp_ne (tgt := 49) hx hb dX5_as_38 (by decide) (fun c38 => ?_) (fun c38 => ?_)
        · have hf := hf.1 c38
          refine lv_iload_n hx hb dX5_as_49 rfl (lv_at hl 3 rfl) ?_
          refine lv_iconst hx hb dX5_as_50 kc_i_2 ?_
          refine lv_icmp_ne (tgt := 62) hx hb dX5_as_51 (by decide) (fun c51 => ?_) (fun c51 => ?_)
          · have hf := hf.1 c51
            refine lv_iload_n hx hb dX5_as_62 rfl (lv_at hl 3 rfl) ?_
            refine lv_iconst hx hb dX5_as_63 kc_i_3 ?_
            refine lv_icmp_ne (tgt := 75) hx hb dX5_as_64 (by decide) (fun c64 => ?_) (fun c64 => ?_)
            · have hf := hf.1 c64
              refine lv_iload_n hx hb dX5_as_75 rfl (lv_at hl 0 rfl) ?_
              refine lv_iconst hx hb dX5_as_76 kc_i_3 ?_
              refine lv_icmp_ne (tgt := 84) hx hb dX5_as_77 (by decide) (fun c77 => ?_) (fun c77 => ?_)
              · have hf := hf.1 c77
                exact J_84 x1 ls hf (lv_sub hl [1, 2] rfl)
              · have hf := hf.2 c77
                exact J_80 x1 ls hf (lv_sub hl [1, 2] rfl)
            · have hf := hf.2 c64
              refine lv_iload_n hx hb dX5_as_67 rfl (lv_at hl 0 rfl) ?_
              refine lv_iconst hx hb dX5_as_68 kc_i_2 ?_
              refine lv_icmp_ne (tgt := 84) hx hb dX5_as_69 (by decide) (fun c69 => ?_) (fun c69 => ?_)
              · have hf := hf.1 c69
                exact J_84 x1 ls hf (lv_sub hl [1, 2] rfl)
              · have hf := hf.2 c69
                refine lv_goto (tgt := 80) hx hb dX5_as_72 (by decide) ?_
                exact J_80 x1 ls hf (lv_sub hl [1, 2] rfl)
          · have hf := hf.2 c51
            refine lv_iload_n hx hb dX5_as_54 rfl (lv_at hl 0 rfl) ?_
            refine lv_iconst hx hb dX5_as_55 kc_i_1 ?_
            refine lv_icmp_ne (tgt := 84) hx hb dX5_as_56 (by decide) (fun c56 => ?_) (fun c56 => ?_)
            · have hf := hf.1 c56
              exact J_84 x1 ls hf (lv_sub hl [1, 2] rfl)
            · have hf := hf.2 c56
              refine lv_goto (tgt := 80) hx hb dX5_as_59 (by decide) ?_
              exact J_80 x1 ls hf (lv_sub hl [1, 2] rfl)
        · have hf := hf.2 c38
          refine lv_iload_n hx hb dX5_as_41 rfl (lv_at hl 0 rfl) ?_
          refine lv_iconst hx hb dX5_as_42 kc_i_3 ?_
          refine lv_icmp_ge (tgt := 84) hx hb dX5_as_43 (by decide) (fun c43 => ?_) (fun c43 => ?_)
          · have hf := hf.1 c43
            exact J_84 x1 ls hf (lv_sub hl [1, 2] rfl)
          · have hf := hf.2 c43
            refine lv_goto (tgt := 80) hx hb dX5_as_46 (by decide) ?_
            exact J_80 x1 ls hf (lv_sub hl [1, 2] rfl)
    · have hf := hf.2 c17
      refine lv_bipush hx hb dX5_as_20 kc_b_m3 ?_
      exact hRet (-3) 22 ls dX5_as_22 hf
  · have hf := hf.2 c5
    refine lv_bipush hx hb dX5_as_8 kc_b_m2 ?_
    exact hRet (-2) 10 ls dX5_as_10 hf
theorem c_X5_as (l : Launch) (E : mx_E) (a_t : Nat) (a_storey : Nat) (a_wind : Nat) (a_pair : Nat) (a_text : Nat) (a_read : Nat) (a_now : Nat) (a_image : Nat) (a_isKept : Nat) (a_row : Nat) (a_sight : Nat) (a_ways : Nat) (a_ends : Nat) (a_tried : Nat) (v_storeys : Int32) (v_jacks : Int32) (v_soft : Int32) (v_pairs : Int32) (v_bytes : Int32) (v_position : Int32) (v_tokenAt : Int32) (v_token : Int64) (v_digits : Int32) (v_number : Int32) (v_faultAt : Int32) (v_readMany : Int32) (v_readStoreys : Int32) (v_readPairs : Int32) (v_rows : Int32) (v_sights : Int32) (v_storey : (Nat → Int32)) (x1 : Int32) (x2 : Int32) (post : Int32 → Prop) (hf : f_X5_as v_storeys v_storey x1 x2 post) : Met l yX5_as (Cond.code yX5_as cX5_as 5 (some .int) :: mx_WS) rm_X5_as (va_Pc [.ref a_t, .int x1, .int x2] (mx_Pp E (w_X5_as E a_t a_storey a_wind a_pair a_text a_read a_now a_image a_isKept a_row a_sight a_ways a_ends a_tried v_storeys v_jacks v_soft v_pairs v_bytes v_position v_tokenAt v_token v_digits v_number v_faultAt v_readMany v_readStoreys v_readPairs v_rows v_sights v_storey))) (vp_Si post) 0 0 (fun _ => False) :=
  mx_metPi (by decide) rfl rfl (fun hB hP hRet ls hl => b_X5_as E a_t a_storey a_wind a_pair a_text a_read a_now a_image a_isKept a_row a_sight a_ways a_ends a_tried v_storeys v_jacks v_soft v_pairs v_bytes v_position v_tokenAt v_token v_digits v_number v_faultAt v_readMany v_readStoreys v_readPairs v_rows v_sights v_storey x1 x2 post hB hP hRet hf ls hl)
def rm_X5_bits : Room := { frames := 0, cells := 0, slots := 0, locals := 0 }
set_option maxHeartbeats 4000000 in
set_option maxRecDepth 100000 in
theorem b_X5_bits {p : Program} {l : Launch} {e : Env} {s : State} {m : MethodId} {args : Array Value} {below : List Frame} {meth : Method} {c : Code} {Q : State → Prop} (E : mx_E)   (x0 : Int32) (post : Int32 → Prop) (hB : mx_B p m c cX5_bits 3 s args RX5 E) (hP : va_P E.1 vwCl (w_X5_bits E ) s.heap) (hRet : ∀ (v : Int32) (pc : Nat) (ls : Array Slot), decode cX5_bits pc = .ok (.ireturn, 1) → post v → W p l e rm_X5_bits s m args below meth c s.heap [] 0 0 Q (F0 m pc ls [.int v])) (hf : f_X5_bits x0 post) (ls : Array Slot) (hl : lv_has ls 3 [(0, .int x0)]) : W p l e rm_X5_bits s m args below meth c s.heap [] 0 0 Q (F0 m 0 ls []) := by
  have hx := hB.x
  have hb := hB.b
  have L_4 : ∀ (g4_x0 : Int32) (n : Nat) (j4_x1 : Int32) (j4_x2 : Int32) (ls : Array Slot), mx_l2 (f_X5_bits_4 post g4_x0) n j4_x1 j4_x2 → lv_has ls 3 [(0, .int g4_x0), (1, .int j4_x1), (2, .int j4_x2)] → W p l e rm_X5_bits s m args below meth c s.heap [] 0 0 Q (F0 m 4 ls []) := by
    intro g4_x0 n_4
    induction n_4 with
    | zero =>
      intro j4_x1 j4_x2 ls hf hl
      exact False.elim hf
    | succ n_4 ih_4 =>
      intro j4_x1 j4_x2 ls hf hl
      replace hf : f_X5_bits_4 post g4_x0 (mx_l2 (f_X5_bits_4 post g4_x0) n_4) j4_x1 j4_x2 := hf
      refine lv_iload_n hx hb dX5_bits_4 rfl (lv_at hl 2 rfl) ?_
      refine lv_bipush hx hb dX5_bits_5 kc_b_8 ?_
      refine lv_icmp_ge (tgt := 24) hx hb dX5_bits_7 (by decide) (fun c7 => ?_) (fun c7 => ?_)
      · have hf := hf.1 c7
        refine lv_iload_n hx hb dX5_bits_24 rfl (lv_at hl 1 rfl) ?_
        exact hRet j4_x1 25 ls dX5_bits_25 hf
      · have hf := hf.2 c7
        refine lv_iload_n hx hb dX5_bits_10 rfl (lv_at hl 1 rfl) ?_
        refine lv_iload_n hx hb dX5_bits_11 rfl (lv_at hl 0 rfl) ?_
        refine lv_iload_n hx hb dX5_bits_12 rfl (lv_at hl 2 rfl) ?_
        refine lv_ishr hx hb dX5_bits_13 ?_
        refine lv_iconst hx hb dX5_bits_14 kc_i_1 ?_
        refine lv_iand hx hb dX5_bits_15 ?_
        refine lv_iadd hx hb dX5_bits_16 ?_
        refine lv_istore_n (lv' := [(1, .int (j4_x1 + ((g4_x0 >>> (j4_x2 &&& 31)) &&& 1))), (0, .int g4_x0), (2, .int j4_x2)]) hx hb dX5_bits_17 rfl hl (by decide) rfl (fun ls hl => ?_)
        refine lv_iinc (v := j4_x2 + 1) (lv' := [(2, .int (j4_x2 + 1)), (1, .int (j4_x1 + ((g4_x0 >>> (j4_x2 &&& 31)) &&& 1))), (0, .int g4_x0)]) hx hb dX5_bits_18 hl (k := 2) rfl (by rw [kc_i_1]) (by decide) rfl (fun ls hl => ?_)
        refine lv_goto (tgt := 4) hx hb dX5_bits_21 (by decide) ?_
        exact ih_4 (j4_x1 + ((g4_x0 >>> (j4_x2 &&& 31)) &&& 1)) (j4_x2 + 1) ls hf (lv_sub hl [2, 1, 0] rfl)
  refine lv_iconst hx hb dX5_bits_0 kc_i_0 ?_
  refine lv_istore_n (lv' := [(1, .int 0), (0, .int x0)]) hx hb dX5_bits_1 rfl hl (by decide) rfl (fun ls hl => ?_)
  refine lv_iconst hx hb dX5_bits_2 kc_i_0 ?_
  refine lv_istore_n (lv' := [(2, .int 0), (1, .int 0), (0, .int x0)]) hx hb dX5_bits_3 rfl hl (by decide) rfl (fun ls hl => ?_)
  obtain ⟨n9, hf⟩ := hf
  exact L_4 x0 n9 0 0 ls hf (lv_sub hl [2, 1, 0] rfl)
theorem c_X5_bits (l : Launch) (E : mx_E)   (x0 : Int32) (post : Int32 → Prop) (hf : f_X5_bits x0 post) : Met l yX5_bits (Cond.code yX5_bits cX5_bits 3 (some .int) :: mx_WS) rm_X5_bits (va_Pc [.int x0] (mx_Pp E (w_X5_bits E ))) (vp_Si post) 0 0 (fun _ => False) :=
  mx_metPi (by decide) rfl rfl (fun hB hP hRet ls hl => b_X5_bits E  x0 post hB hP hRet hf ls hl)
def rm_X5_loadOfAll : Room := { frames := 1, cells := 0, slots := 0, locals := 21 }
set_option maxHeartbeats 4000000 in
set_option maxRecDepth 100000 in
theorem b_X5_loadOfAll {p : Program} {l : Launch} {e : Env} {s : State} {m : MethodId} {args : Array Value} {below : List Frame} {meth : Method} {c : Code} {Q : State → Prop} (E : mx_E) (a_t : Nat) (a_storey : Nat) (a_wind : Nat) (a_pair : Nat) (a_text : Nat) (a_read : Nat) (a_now : Nat) (a_image : Nat) (a_isKept : Nat) (a_row : Nat) (a_sight : Nat) (a_ways : Nat) (a_ends : Nat) (a_tried : Nat) (v_storeys : Int32) (v_jacks : Int32) (v_soft : Int32) (v_pairs : Int32) (v_bytes : Int32) (v_position : Int32) (v_tokenAt : Int32) (v_token : Int64) (v_digits : Int32) (v_number : Int32) (v_faultAt : Int32) (v_readMany : Int32) (v_readStoreys : Int32) (v_readPairs : Int32) (v_rows : Int32) (v_sights : Int32) (v_storey : (Nat → Int32)) (x1 : Int32) (post : Int32 → Prop) (hB : mx_B p m c cX5_loadOfAll 4 s args RX5 E) (hP : va_P E.1 vwCl (w_X5_loadOfAll E a_t a_storey a_wind a_pair a_text a_read a_now a_image a_isKept a_row a_sight a_ways a_ends a_tried v_storeys v_jacks v_soft v_pairs v_bytes v_position v_tokenAt v_token v_digits v_number v_faultAt v_readMany v_readStoreys v_readPairs v_rows v_sights v_storey) s.heap) (hRet : ∀ (v : Int32) (pc : Nat) (ls : Array Slot), decode cX5_loadOfAll pc = .ok (.ireturn, 1) → post v → W p l e rm_X5_loadOfAll s m args below meth c s.heap [] 0 0 Q (F0 m pc ls [.int v])) (hf : f_X5_loadOfAll v_storeys v_storey x1 post) (ls : Array Slot) (hl : lv_has ls 4 [(0, .ref a_t), (1, .int x1)]) : W p l e rm_X5_loadOfAll s m args below meth c s.heap [] 0 0 Q (F0 m 0 ls []) := by
  have hx := hB.x
  have hb := hB.b
  have L_4 : ∀ (g4_x1 : Int32) (n : Nat) (j4_x2 : Int32) (j4_x3 : Int32) (ls : Array Slot), mx_l2 (f_X5_loadOfAll_4 v_storeys v_storey post g4_x1) n j4_x2 j4_x3 → lv_has ls 4 [(0, .ref a_t), (1, .int g4_x1), (2, .int j4_x2), (3, .int j4_x3)] → W p l e rm_X5_loadOfAll s m args below meth c s.heap [] 0 0 Q (F0 m 4 ls []) := by
    intro g4_x1 n_4
    induction n_4 with
    | zero =>
      intro j4_x2 j4_x3 ls hf hl
      exact False.elim hf
    | succ n_4 ih_4 =>
      have J_30 : ∀ (j30_x3 : Int32) (j30_k0 : Int32) (j30_k1 : Int32) (ls : Array Slot), f_X5_loadOfAll_30 v_storeys v_storey (mx_l2 (f_X5_loadOfAll_4 v_storeys v_storey post g4_x1) n_4) post g4_x1 j30_x3 j30_k0 j30_k1 → lv_has ls 4 [(0, .ref a_t), (1, .int g4_x1), (3, .int j30_x3)] → W p l e rm_X5_loadOfAll s m args below meth c s.heap [] 0 0 Q (F0 m 30 ls [.int j30_k1, .int j30_k0]) := by
        intro j30_x3 j30_k0 j30_k1 ls hf hl
        refine lv_iadd hx hb dX5_loadOfAll_30 ?_
        refine lv_istore_n (lv' := [(2, .int (j30_k0 + j30_k1)), (0, .ref a_t), (1, .int g4_x1), (3, .int j30_x3)]) hx hb dX5_loadOfAll_31 rfl hl (by decide) rfl (fun ls hl => ?_)
        refine lv_iinc (v := j30_x3 + 1) (lv' := [(3, .int (j30_x3 + 1)), (2, .int (j30_k0 + j30_k1)), (0, .ref a_t), (1, .int g4_x1)]) hx hb dX5_loadOfAll_32 hl (k := 3) rfl (by rw [kc_i_1]) (by decide) rfl (fun ls hl => ?_)
        refine lv_goto (tgt := 4) hx hb dX5_loadOfAll_35 (by decide) ?_
        exact ih_4 (j30_k0 + j30_k1) (j30_x3 + 1) ls hf (lv_sub hl [2, 3, 1, 0] rfl)
      intro j4_x2 j4_x3 ls hf hl
      replace hf : f_X5_loadOfAll_4 v_storeys v_storey post g4_x1 (mx_l2 (f_X5_loadOfAll_4 v_storeys v_storey post g4_x1) n_4) j4_x2 j4_x3 := hf
      refine lv_iload_n hx hb dX5_loadOfAll_4 rfl (lv_at hl 3 rfl) ?_
      refine lv_aload_n hx hb dX5_loadOfAll_5 rfl (lv_at hl 0 rfl) ?_
      refine gf_X5_57 hB hP 0 rfl rfl dX5_loadOfAll_6 ?_
      refine lv_icmp_ge (tgt := 38) hx hb dX5_loadOfAll_9 (by decide) (fun c9 => ?_) (fun c9 => ?_)
      · have hf := hf.1 c9
        refine lv_iload_n hx hb dX5_loadOfAll_38 rfl (lv_at hl 2 rfl) ?_
        exact hRet j4_x2 39 ls dX5_loadOfAll_39 hf
      · have hf := hf.2 c9
        refine lv_iload_n hx hb dX5_loadOfAll_12 rfl (lv_at hl 2 rfl) ?_
        refine lv_iload_n hx hb dX5_loadOfAll_13 rfl (lv_at hl 1 rfl) ?_
        refine lv_iload_n hx hb dX5_loadOfAll_14 rfl (lv_at hl 3 rfl) ?_
        refine mx_gi (mx_runS (As := [.int g4_x1, .int j4_x3]) (rest := [.int j4_x2]) hB (c_X5_has l E g4_x1 j4_x3 _ hf) sB_X5_has wst_X5_has wml_X5_179 rfl (mx_pp hB hP [] rfl) hl.1 rfl (Nat.le_of_ble_eq_true rfl) dX5_loadOfAll_15 ⟨Nat.zero_le _, Nat.zero_le _⟩) (fun r1 hf => ?_)
        refine lv_if_eq (tgt := 29) hx hb dX5_loadOfAll_18 (by decide) (fun c18 => ?_) (fun c18 => ?_)
        · have hf := hf.1 c18
          refine lv_iconst hx hb dX5_loadOfAll_29 kc_i_0 ?_
          exact J_30 j4_x3 j4_x2 0 ls hf (lv_sub hl [0, 1, 3] rfl)
        · have hf := hf.2 c18
          refine lv_aload_n hx hb dX5_loadOfAll_21 rfl (lv_at hl 0 rfl) ?_
          refine lv_iload_n hx hb dX5_loadOfAll_22 rfl (lv_at hl 3 rfl) ?_
          refine mx_gi (mx_runV (As := [.int j4_x3]) (rest := [.int j4_x2]) hB (c_X5_loadOf l E a_t a_storey a_wind a_pair a_text a_read a_now a_image a_isKept a_row a_sight a_ways a_ends a_tried v_storeys v_jacks v_soft v_pairs v_bytes v_position v_tokenAt v_token v_digits v_number v_faultAt v_readMany v_readStoreys v_readPairs v_rows v_sights v_storey j4_x3 _ hf) sB_X5_loadOf sV_X5_loadOf wml_X5_175 rfl (mx_ppV hB hP [0, 1] rfl 5 rfl rfl rfl) hl.1 rfl (Nat.le_of_ble_eq_true rfl) dX5_loadOfAll_23 ⟨Nat.zero_le _, Nat.zero_le _⟩) (fun r2 hf => ?_)
          refine lv_goto (tgt := 30) hx hb dX5_loadOfAll_26 (by decide) ?_
          exact J_30 j4_x3 j4_x2 r2 ls hf (lv_sub hl [0, 1, 3] rfl)
  refine lv_iconst hx hb dX5_loadOfAll_0 kc_i_0 ?_
  refine lv_istore_n (lv' := [(2, .int 0), (0, .ref a_t), (1, .int x1)]) hx hb dX5_loadOfAll_1 rfl hl (by decide) rfl (fun ls hl => ?_)
  refine lv_iconst hx hb dX5_loadOfAll_2 kc_i_0 ?_
  refine lv_istore_n (lv' := [(3, .int 0), (2, .int 0), (0, .ref a_t), (1, .int x1)]) hx hb dX5_loadOfAll_3 rfl hl (by decide) rfl (fun ls hl => ?_)
  obtain ⟨n9, hf⟩ := hf
  exact L_4 x1 n9 0 0 ls hf (lv_sub hl [2, 3, 1, 0] rfl)
theorem c_X5_loadOfAll (l : Launch) (E : mx_E) (a_t : Nat) (a_storey : Nat) (a_wind : Nat) (a_pair : Nat) (a_text : Nat) (a_read : Nat) (a_now : Nat) (a_image : Nat) (a_isKept : Nat) (a_row : Nat) (a_sight : Nat) (a_ways : Nat) (a_ends : Nat) (a_tried : Nat) (v_storeys : Int32) (v_jacks : Int32) (v_soft : Int32) (v_pairs : Int32) (v_bytes : Int32) (v_position : Int32) (v_tokenAt : Int32) (v_token : Int64) (v_digits : Int32) (v_number : Int32) (v_faultAt : Int32) (v_readMany : Int32) (v_readStoreys : Int32) (v_readPairs : Int32) (v_rows : Int32) (v_sights : Int32) (v_storey : (Nat → Int32)) (x1 : Int32) (post : Int32 → Prop) (hf : f_X5_loadOfAll v_storeys v_storey x1 post) : Met l yX5_loadOfAll (Cond.code yX5_loadOfAll cX5_loadOfAll 4 (some .int) :: mx_WS) rm_X5_loadOfAll (va_Pc [.ref a_t, .int x1] (mx_Pp E (w_X5_loadOfAll E a_t a_storey a_wind a_pair a_text a_read a_now a_image a_isKept a_row a_sight a_ways a_ends a_tried v_storeys v_jacks v_soft v_pairs v_bytes v_position v_tokenAt v_token v_digits v_number v_faultAt v_readMany v_readStoreys v_readPairs v_rows v_sights v_storey))) (vp_Si post) 0 0 (fun _ => False) :=
  mx_metPi (by decide) rfl rfl (fun hB hP hRet ls hl => b_X5_loadOfAll E a_t a_storey a_wind a_pair a_text a_read a_now a_image a_isKept a_row a_sight a_ways a_ends a_tried v_storeys v_jacks v_soft v_pairs v_bytes v_position v_tokenAt v_token v_digits v_number v_faultAt v_readMany v_readStoreys v_readPairs v_rows v_sights v_storey x1 post hB hP hRet hf ls hl)
def rm_X5_hasPlace : Room := { frames := 1, cells := 0, slots := 0, locals := 22 }
set_option maxHeartbeats 4000000 in
set_option maxRecDepth 100000 in
theorem b_X5_hasPlace {p : Program} {l : Launch} {e : Env} {s : State} {m : MethodId} {args : Array Value} {below : List Frame} {meth : Method} {c : Code} {Q : State → Prop} (E : mx_E) (a_t : Nat) (a_storey : Nat) (a_wind : Nat) (a_pair : Nat) (a_text : Nat) (a_read : Nat) (a_now : Nat) (a_image : Nat) (a_isKept : Nat) (a_row : Nat) (a_sight : Nat) (a_ways : Nat) (a_ends : Nat) (a_tried : Nat) (v_storeys : Int32) (v_jacks : Int32) (v_soft : Int32) (v_pairs : Int32) (v_bytes : Int32) (v_position : Int32) (v_tokenAt : Int32) (v_token : Int64) (v_digits : Int32) (v_number : Int32) (v_faultAt : Int32) (v_readMany : Int32) (v_readStoreys : Int32) (v_readPairs : Int32) (v_rows : Int32) (v_sights : Int32) (v_storey : (Nat → Int32)) (v_pair : (Nat → Int32)) (x1 : Int32) (x2 : Int32) (post : Int32 → Prop) (hB : mx_B p m c cX5_hasPlace 5 s args RX5 E) (hP : va_P E.1 vwCl (w_X5_hasPlace E a_t a_storey a_wind a_pair a_text a_read a_now a_image a_isKept a_row a_sight a_ways a_ends a_tried v_storeys v_jacks v_soft v_pairs v_bytes v_position v_tokenAt v_token v_digits v_number v_faultAt v_readMany v_readStoreys v_readPairs v_rows v_sights v_storey v_pair) s.heap) (hRet : ∀ (v : Int32) (pc : Nat) (ls : Array Slot), decode cX5_hasPlace pc = .ok (.ireturn, 1) → (v = 0 ∨ v = 1) → post v → W p l e rm_X5_hasPlace s m args below meth c s.heap [] 0 0 Q (F0 m pc ls [.int v])) (hf : f_X5_hasPlace v_storey v_storeys v_pairs v_pair x1 x2 post) (ls : Array Slot) (hl : lv_has ls 5 [(0, .ref a_t), (1, .int x1), (2, .int x2)]) : W p l e rm_X5_hasPlace s m args below meth c s.heap [] 0 0 Q (F0 m 0 ls []) := by
  have hx := hB.x
  have hb := hB.b
  have L_95 : ∀ (g95_x1 : Int32) (g95_x2 : Int32) (n : Nat) (j95_x3 : Int32) (j95_x4 : Int32) (ls : Array Slot), mx_l2 (f_X5_hasPlace_95 v_storey v_storeys v_pairs v_pair post g95_x1 g95_x2) n j95_x3 j95_x4 → lv_has ls 5 [(0, .ref a_t), (1, .int g95_x1), (2, .int g95_x2), (3, .int j95_x3), (4, .int j95_x4)] → W p l e rm_X5_hasPlace s m args below meth c s.heap [] 0 0 Q (F0 m 95 ls []) := by
    intro g95_x1 g95_x2 n_95
    induction n_95 with
    | zero =>
      intro j95_x3 j95_x4 ls hf hl
      exact False.elim hf
    | succ n_95 ih_95 =>
      have J_139 : ∀ (j139_x4 : Int32) (ls : Array Slot), f_X5_hasPlace_139 v_storey v_storeys v_pairs v_pair (mx_l2 (f_X5_hasPlace_95 v_storey v_storeys v_pairs v_pair post g95_x1 g95_x2) n_95) post g95_x1 g95_x2 j139_x4 → lv_has ls 5 [(0, .ref a_t), (1, .int g95_x1), (2, .int g95_x2), (4, .int j139_x4)] → W p l e rm_X5_hasPlace s m args below meth c s.heap [] 0 0 Q (F0 m 139 ls []) := by
        intro j139_x4 ls hf hl
        refine lv_iconst hx hb dX5_hasPlace_139 kc_i_1 ?_
        refine lv_goto (tgt := 144) hx hb dX5_hasPlace_140 (by decide) ?_
        refine lv_istore_n (lv' := [(3, .int 1), (0, .ref a_t), (1, .int g95_x1), (2, .int g95_x2), (4, .int j139_x4)]) hx hb dX5_hasPlace_144 rfl hl (by decide) rfl (fun ls hl => ?_)
        refine lv_iinc (v := j139_x4 + 1) (lv' := [(4, .int (j139_x4 + 1)), (3, .int 1), (0, .ref a_t), (1, .int g95_x1), (2, .int g95_x2)]) hx hb dX5_hasPlace_145 hl (k := 4) rfl (by rw [kc_i_1]) (by decide) rfl (fun ls hl => ?_)
        refine lv_goto (tgt := 95) hx hb dX5_hasPlace_148 (by decide) ?_
        exact ih_95 1 (j139_x4 + 1) ls hf (lv_sub hl [2, 3, 4, 1, 0] rfl)
      intro j95_x3 j95_x4 ls hf hl
      replace hf : f_X5_hasPlace_95 v_storey v_storeys v_pairs v_pair post g95_x1 g95_x2 (mx_l2 (f_X5_hasPlace_95 v_storey v_storeys v_pairs v_pair post g95_x1 g95_x2) n_95) j95_x3 j95_x4 := hf
      refine lv_iload hx hb dX5_hasPlace_95 (lv_at hl 4 rfl) ?_
      refine lv_aload_n hx hb dX5_hasPlace_97 rfl (lv_at hl 0 rfl) ?_
      refine gf_X5_149 hB hP 0 rfl rfl dX5_hasPlace_98 ?_
      refine lv_icmp_ge (tgt := 151) hx hb dX5_hasPlace_101 (by decide) (fun c101 => ?_) (fun c101 => ?_)
      · have hf := hf.1 c101
        refine lv_iload_n hx hb dX5_hasPlace_151 rfl (lv_at hl 3 rfl) ?_
        obtain ⟨h01, hf⟩ := hf
        exact hRet j95_x3 152 ls dX5_hasPlace_152 h01 hf
      · have hf := hf.2 c101
        refine lv_iload_n hx hb dX5_hasPlace_104 rfl (lv_at hl 3 rfl) ?_
        refine lv_if_eq (tgt := 143) hx hb dX5_hasPlace_105 (by decide) (fun c105 => ?_) (fun c105 => ?_)
        · have hf := hf.1 c105
          refine lv_iconst hx hb dX5_hasPlace_143 kc_i_0 ?_
          refine lv_istore_n (lv' := [(3, .int 0), (0, .ref a_t), (1, .int g95_x1), (2, .int g95_x2), (4, .int j95_x4)]) hx hb dX5_hasPlace_144 rfl hl (by decide) rfl (fun ls hl => ?_)
          refine lv_iinc (v := j95_x4 + 1) (lv' := [(4, .int (j95_x4 + 1)), (3, .int 0), (0, .ref a_t), (1, .int g95_x1), (2, .int g95_x2)]) hx hb dX5_hasPlace_145 hl (k := 4) rfl (by rw [kc_i_1]) (by decide) rfl (fun ls hl => ?_)
          refine lv_goto (tgt := 95) hx hb dX5_hasPlace_148 (by decide) ?_
          exact ih_95 0 (j95_x4 + 1) ls hf (lv_sub hl [2, 3, 4, 1, 0] rfl)
        · have hf := hf.2 c105
          refine lv_aload_n hx hb dX5_hasPlace_108 rfl (lv_at hl 0 rfl) ?_
          refine gf_X5_23 hB hP 0 rfl rfl dX5_hasPlace_109 ?_
          refine lv_iconst hx hb dX5_hasPlace_112 kc_i_2 ?_
          refine lv_iload hx hb dX5_hasPlace_113 (lv_at hl 4 rfl) ?_
          refine lv_imul hx hb dX5_hasPlace_115 ?_
          refine lv_iconst hx hb dX5_hasPlace_116 kc_i_1 ?_
          refine lv_iadd hx hb dX5_hasPlace_117 ?_
          obtain ⟨h_in, hf⟩ := hf
          refine va_iald hx hb hB.K hP 2 0 rfl rfl h_in dX5_hasPlace_118 ?_
          refine lv_iload_n hx hb dX5_hasPlace_119 rfl (lv_at hl 1 rfl) ?_
          refine lv_icmp_ne (tgt := 139) hx hb dX5_hasPlace_120 (by decide) (fun c120 => ?_) (fun c120 => ?_)
          · have hf := hf.1 c120
            exact J_139 j95_x4 ls hf (lv_sub hl [0, 1, 2, 4] rfl)
          · have hf := hf.2 c120
            refine lv_iload_n hx hb dX5_hasPlace_123 rfl (lv_at hl 2 rfl) ?_
            refine lv_aload_n hx hb dX5_hasPlace_124 rfl (lv_at hl 0 rfl) ?_
            refine gf_X5_23 hB hP 0 rfl rfl dX5_hasPlace_125 ?_
            refine lv_iconst hx hb dX5_hasPlace_128 kc_i_2 ?_
            refine lv_iload hx hb dX5_hasPlace_129 (lv_at hl 4 rfl) ?_
            refine lv_imul hx hb dX5_hasPlace_131 ?_
            obtain ⟨h_in, hf⟩ := hf
            refine va_iald hx hb hB.K hP 2 0 rfl rfl h_in dX5_hasPlace_132 ?_
            refine mx_gi (mx_runS (As := [.int g95_x2, .int (v_pair (2 * j95_x4).toNatClampNeg)]) (rest := []) hB (c_X5_has l E g95_x2 (v_pair (2 * j95_x4).toNatClampNeg) _ hf) sB_X5_has wst_X5_has wml_X5_179 rfl (mx_pp hB hP [] rfl) hl.1 rfl (Nat.le_of_ble_eq_true rfl) dX5_hasPlace_133 ⟨Nat.zero_le _, Nat.zero_le _⟩) (fun r1 hf => ?_)
            refine lv_if_eq (tgt := 143) hx hb dX5_hasPlace_136 (by decide) (fun c136 => ?_) (fun c136 => ?_)
            · have hf := hf.1 c136
              refine lv_iconst hx hb dX5_hasPlace_143 kc_i_0 ?_
              refine lv_istore_n (lv' := [(3, .int 0), (0, .ref a_t), (1, .int g95_x1), (2, .int g95_x2), (4, .int j95_x4)]) hx hb dX5_hasPlace_144 rfl hl (by decide) rfl (fun ls hl => ?_)
              refine lv_iinc (v := j95_x4 + 1) (lv' := [(4, .int (j95_x4 + 1)), (3, .int 0), (0, .ref a_t), (1, .int g95_x1), (2, .int g95_x2)]) hx hb dX5_hasPlace_145 hl (k := 4) rfl (by rw [kc_i_1]) (by decide) rfl (fun ls hl => ?_)
              refine lv_goto (tgt := 95) hx hb dX5_hasPlace_148 (by decide) ?_
              exact ih_95 0 (j95_x4 + 1) ls hf (lv_sub hl [2, 3, 4, 1, 0] rfl)
            · have hf := hf.2 c136
              exact J_139 j95_x4 ls hf (lv_sub hl [0, 1, 2, 4] rfl)
  have J_92 : ∀ (j92_x1 : Int32) (j92_x2 : Int32) (j92_x3 : Int32) (ls : Array Slot), f_X5_hasPlace_92 v_storey v_storeys v_pairs v_pair post j92_x1 j92_x2 j92_x3 → lv_has ls 5 [(0, .ref a_t), (1, .int j92_x1), (2, .int j92_x2), (3, .int j92_x3)] → W p l e rm_X5_hasPlace s m args below meth c s.heap [] 0 0 Q (F0 m 92 ls []) := by
    intro j92_x1 j92_x2 j92_x3 ls hf hl
    refine lv_iconst hx hb dX5_hasPlace_92 kc_i_0 ?_
    refine lv_istore (lv' := [(4, .int 0), (0, .ref a_t), (1, .int j92_x1), (2, .int j92_x2), (3, .int j92_x3)]) hx hb dX5_hasPlace_93 hl (by decide) rfl (fun ls hl => ?_)
    obtain ⟨n9, hf⟩ := hf
    exact L_95 j92_x1 j92_x2 n9 j92_x3 0 ls hf (lv_sub hl [1, 2, 3, 4, 0] rfl)
  have L_45 : ∀ (g45_x1 : Int32) (g45_x2 : Int32) (n : Nat) (j45_x3 : Int32) (j45_x4 : Int32) (ls : Array Slot), mx_l2 (f_X5_hasPlace_45 v_storey v_storeys v_pairs v_pair post g45_x1 g45_x2) n j45_x3 j45_x4 → lv_has ls 5 [(0, .ref a_t), (1, .int g45_x1), (2, .int g45_x2), (3, .int j45_x3), (4, .int j45_x4)] → W p l e rm_X5_hasPlace s m args below meth c s.heap [] 0 0 Q (F0 m 45 ls []) := by
    intro g45_x1 g45_x2 n_45
    induction n_45 with
    | zero =>
      intro j45_x3 j45_x4 ls hf hl
      exact False.elim hf
    | succ n_45 ih_45 =>
      have J_80 : ∀ (j80_x4 : Int32) (ls : Array Slot), f_X5_hasPlace_80 v_storey v_storeys v_pairs v_pair (mx_l2 (f_X5_hasPlace_45 v_storey v_storeys v_pairs v_pair post g45_x1 g45_x2) n_45) post g45_x1 g45_x2 j80_x4 → lv_has ls 5 [(0, .ref a_t), (1, .int g45_x1), (2, .int g45_x2), (4, .int j80_x4)] → W p l e rm_X5_hasPlace s m args below meth c s.heap [] 0 0 Q (F0 m 80 ls []) := by
        intro j80_x4 ls hf hl
        refine lv_iconst hx hb dX5_hasPlace_80 kc_i_1 ?_
        refine lv_goto (tgt := 85) hx hb dX5_hasPlace_81 (by decide) ?_
        refine lv_istore_n (lv' := [(3, .int 1), (0, .ref a_t), (1, .int g45_x1), (2, .int g45_x2), (4, .int j80_x4)]) hx hb dX5_hasPlace_85 rfl hl (by decide) rfl (fun ls hl => ?_)
        refine lv_iinc (v := j80_x4 + 1) (lv' := [(4, .int (j80_x4 + 1)), (3, .int 1), (0, .ref a_t), (1, .int g45_x1), (2, .int g45_x2)]) hx hb dX5_hasPlace_86 hl (k := 4) rfl (by rw [kc_i_1]) (by decide) rfl (fun ls hl => ?_)
        refine lv_goto (tgt := 45) hx hb dX5_hasPlace_89 (by decide) ?_
        exact ih_45 1 (j80_x4 + 1) ls hf (lv_sub hl [2, 3, 4, 1, 0] rfl)
      intro j45_x3 j45_x4 ls hf hl
      replace hf : f_X5_hasPlace_45 v_storey v_storeys v_pairs v_pair post g45_x1 g45_x2 (mx_l2 (f_X5_hasPlace_45 v_storey v_storeys v_pairs v_pair post g45_x1 g45_x2) n_45) j45_x3 j45_x4 := hf
      refine lv_iload hx hb dX5_hasPlace_45 (lv_at hl 4 rfl) ?_
      refine lv_aload_n hx hb dX5_hasPlace_47 rfl (lv_at hl 0 rfl) ?_
      refine gf_X5_57 hB hP 0 rfl rfl dX5_hasPlace_48 ?_
      refine lv_icmp_ge (tgt := 92) hx hb dX5_hasPlace_51 (by decide) (fun c51 => ?_) (fun c51 => ?_)
      · have hf := hf.1 c51
        exact J_92 g45_x1 g45_x2 j45_x3 ls hf (lv_sub hl [0, 1, 2, 3] rfl)
      · have hf := hf.2 c51
        refine lv_iload_n hx hb dX5_hasPlace_54 rfl (lv_at hl 3 rfl) ?_
        refine lv_if_eq (tgt := 84) hx hb dX5_hasPlace_55 (by decide) (fun c55 => ?_) (fun c55 => ?_)
        · have hf := hf.1 c55
          refine lv_iconst hx hb dX5_hasPlace_84 kc_i_0 ?_
          refine lv_istore_n (lv' := [(3, .int 0), (0, .ref a_t), (1, .int g45_x1), (2, .int g45_x2), (4, .int j45_x4)]) hx hb dX5_hasPlace_85 rfl hl (by decide) rfl (fun ls hl => ?_)
          refine lv_iinc (v := j45_x4 + 1) (lv' := [(4, .int (j45_x4 + 1)), (3, .int 0), (0, .ref a_t), (1, .int g45_x1), (2, .int g45_x2)]) hx hb dX5_hasPlace_86 hl (k := 4) rfl (by rw [kc_i_1]) (by decide) rfl (fun ls hl => ?_)
          refine lv_goto (tgt := 45) hx hb dX5_hasPlace_89 (by decide) ?_
          exact ih_45 0 (j45_x4 + 1) ls hf (lv_sub hl [2, 3, 4, 1, 0] rfl)
        · have hf := hf.2 c55
          refine lv_iload_n hx hb dX5_hasPlace_58 rfl (lv_at hl 2 rfl) ?_
          refine lv_iload hx hb dX5_hasPlace_59 (lv_at hl 4 rfl) ?_
          refine mx_gi (mx_runS (As := [.int g45_x2, .int j45_x4]) (rest := []) hB (c_X5_has l E g45_x2 j45_x4 _ hf) sB_X5_has wst_X5_has wml_X5_179 rfl (mx_pp hB hP [] rfl) hl.1 rfl (Nat.le_of_ble_eq_true rfl) dX5_hasPlace_61 ⟨Nat.zero_le _, Nat.zero_le _⟩) (fun r1 hf => ?_)
          refine lv_if_eq (tgt := 80) hx hb dX5_hasPlace_64 (by decide) (fun c64 => ?_) (fun c64 => ?_)
          · have hf := hf.1 c64
            exact J_80 j45_x4 ls hf (lv_sub hl [0, 1, 2, 4] rfl)
          · have hf := hf.2 c64
            refine lv_aload_n hx hb dX5_hasPlace_67 rfl (lv_at hl 0 rfl) ?_
            refine gf_X5_7 hB hP 0 rfl rfl dX5_hasPlace_68 ?_
            refine lv_iconst hx hb dX5_hasPlace_71 kc_i_5 ?_
            refine lv_iload hx hb dX5_hasPlace_72 (lv_at hl 4 rfl) ?_
            refine lv_imul hx hb dX5_hasPlace_74 ?_
            obtain ⟨h_in, hf⟩ := hf
            refine va_iald hx hb hB.K hP 1 0 rfl rfl h_in dX5_hasPlace_75 ?_
            refine lv_iconst hx hb dX5_hasPlace_76 kc_i_2 ?_
            refine lv_icmp_eq (tgt := 84) hx hb dX5_hasPlace_77 (by decide) (fun c77 => ?_) (fun c77 => ?_)
            · have hf := hf.1 c77
              refine lv_iconst hx hb dX5_hasPlace_84 kc_i_0 ?_
              refine lv_istore_n (lv' := [(3, .int 0), (0, .ref a_t), (1, .int g45_x1), (2, .int g45_x2), (4, .int j45_x4)]) hx hb dX5_hasPlace_85 rfl hl (by decide) rfl (fun ls hl => ?_)
              refine lv_iinc (v := j45_x4 + 1) (lv' := [(4, .int (j45_x4 + 1)), (3, .int 0), (0, .ref a_t), (1, .int g45_x1), (2, .int g45_x2)]) hx hb dX5_hasPlace_86 hl (k := 4) rfl (by rw [kc_i_1]) (by decide) rfl (fun ls hl => ?_)
              refine lv_goto (tgt := 45) hx hb dX5_hasPlace_89 (by decide) ?_
              exact ih_45 0 (j45_x4 + 1) ls hf (lv_sub hl [2, 3, 4, 1, 0] rfl)
            · have hf := hf.2 c77
              exact J_80 j45_x4 ls hf (lv_sub hl [0, 1, 2, 4] rfl)
  have J_41 : ∀ (j41_x1 : Int32) (j41_x2 : Int32) (j41_k0 : Int32) (ls : Array Slot), f_X5_hasPlace_41 v_storey v_storeys v_pairs v_pair post j41_x1 j41_x2 j41_k0 → lv_has ls 5 [(0, .ref a_t), (1, .int j41_x1), (2, .int j41_x2)] → W p l e rm_X5_hasPlace s m args below meth c s.heap [] 0 0 Q (F0 m 41 ls [.int j41_k0]) := by
    intro j41_x1 j41_x2 j41_k0 ls hf hl
    refine lv_istore_n (lv' := [(3, .int j41_k0), (0, .ref a_t), (1, .int j41_x1), (2, .int j41_x2)]) hx hb dX5_hasPlace_41 rfl hl (by decide) rfl (fun ls hl => ?_)
    refine lv_iconst hx hb dX5_hasPlace_42 kc_i_0 ?_
    refine lv_istore (lv' := [(4, .int 0), (3, .int j41_k0), (0, .ref a_t), (1, .int j41_x1), (2, .int j41_x2)]) hx hb dX5_hasPlace_43 hl (by decide) rfl (fun ls hl => ?_)
    obtain ⟨n9, hf⟩ := hf
    exact L_45 j41_x1 j41_x2 n9 j41_k0 0 ls hf (lv_sub hl [2, 3, 4, 1, 0] rfl)
  have J_40 : ∀ (j40_x1 : Int32) (j40_x2 : Int32) (ls : Array Slot), f_X5_hasPlace_40 v_storey v_storeys v_pairs v_pair post j40_x1 j40_x2 → lv_has ls 5 [(0, .ref a_t), (1, .int j40_x1), (2, .int j40_x2)] → W p l e rm_X5_hasPlace s m args below meth c s.heap [] 0 0 Q (F0 m 40 ls []) := by
    intro j40_x1 j40_x2 ls hf hl
    refine lv_iconst hx hb dX5_hasPlace_40 kc_i_0 ?_
    exact J_41 j40_x1 j40_x2 0 ls hf (lv_sub hl [0, 1, 2] rfl)
  have J_36 : ∀ (j36_x1 : Int32) (j36_x2 : Int32) (ls : Array Slot), f_X5_hasPlace_36 v_storey v_storeys v_pairs v_pair post j36_x1 j36_x2 → lv_has ls 5 [(0, .ref a_t), (1, .int j36_x1), (2, .int j36_x2)] → W p l e rm_X5_hasPlace s m args below meth c s.heap [] 0 0 Q (F0 m 36 ls []) := by
    intro j36_x1 j36_x2 ls hf hl
    refine lv_iconst hx hb dX5_hasPlace_36 kc_i_1 ?_
    refine lv_goto (tgt := 41) hx hb dX5_hasPlace_37 (by decide) ?_
    exact J_41 j36_x1 j36_x2 1 ls hf (lv_sub hl [0, 1, 2] rfl)
  have J_16 : ∀ (j16_x1 : Int32) (j16_x2 : Int32) (ls : Array Slot), f_X5_hasPlace_16 v_storey v_storeys v_pairs v_pair post j16_x1 j16_x2 → lv_has ls 5 [(0, .ref a_t), (1, .int j16_x1), (2, .int j16_x2)] → W p l e rm_X5_hasPlace s m args below meth c s.heap [] 0 0 Q (F0 m 16 ls []) := by
    intro j16_x1 j16_x2 ls hf hl
    refine lv_aload_n hx hb dX5_hasPlace_16 rfl (lv_at hl 0 rfl) ?_
    refine gf_X5_7 hB hP 0 rfl rfl dX5_hasPlace_17 ?_
    refine lv_iconst hx hb dX5_hasPlace_20 kc_i_5 ?_
    refine lv_iload_n hx hb dX5_hasPlace_21 rfl (lv_at hl 1 rfl) ?_
    refine lv_imul hx hb dX5_hasPlace_22 ?_
    obtain ⟨h_in, hf⟩ := hf
    refine va_iald hx hb hB.K hP 1 0 rfl rfl h_in dX5_hasPlace_23 ?_
    refine lv_iconst hx hb dX5_hasPlace_24 kc_i_3 ?_
    refine lv_icmp_ne (tgt := 36) hx hb dX5_hasPlace_25 (by decide) (fun c25 => ?_) (fun c25 => ?_)
    · have hf := hf.1 c25
      exact J_36 j16_x1 j16_x2 ls hf (lv_sub hl [0, 1, 2] rfl)
    · have hf := hf.2 c25
      refine lv_iload_n hx hb dX5_hasPlace_28 rfl (lv_at hl 2 rfl) ?_
      refine mx_gi (mx_runS (As := [.int j16_x2]) (rest := []) hB (c_X5_bits l E j16_x2 _ hf) sB_X5_bits wst_X5_bits wml_X5_183 rfl (mx_pp hB hP [] rfl) hl.1 rfl (Nat.le_of_ble_eq_true rfl) dX5_hasPlace_29 ⟨Nat.zero_le _, Nat.zero_le _⟩) (fun r1 hf => ?_)
      refine lv_iconst hx hb dX5_hasPlace_32 kc_i_3 ?_
      refine lv_icmp_ge (tgt := 40) hx hb dX5_hasPlace_33 (by decide) (fun c33 => ?_) (fun c33 => ?_)
      · have hf := hf.1 c33
        exact J_40 j16_x1 j16_x2 ls hf (lv_sub hl [0, 1, 2] rfl)
      · have hf := hf.2 c33
        exact J_36 j16_x1 j16_x2 ls hf (lv_sub hl [0, 1, 2] rfl)
  refine lv_aload_n hx hb dX5_hasPlace_0 rfl (lv_at hl 0 rfl) ?_
  refine gf_X5_7 hB hP 0 rfl rfl dX5_hasPlace_1 ?_
  refine lv_iconst hx hb dX5_hasPlace_4 kc_i_5 ?_
  refine lv_iload_n hx hb dX5_hasPlace_5 rfl (lv_at hl 1 rfl) ?_
  refine lv_imul hx hb dX5_hasPlace_6 ?_
  obtain ⟨h_in, hf⟩ := hf
  refine va_iald hx hb hB.K hP 1 0 rfl rfl h_in dX5_hasPlace_7 ?_
  refine lv_iconst hx hb dX5_hasPlace_8 kc_i_1 ?_
  refine lv_icmp_ne (tgt := 16) hx hb dX5_hasPlace_9 (by decide) (fun c9 => ?_) (fun c9 => ?_)
  · have hf := hf.1 c9
    exact J_16 x1 x2 ls hf (lv_sub hl [0, 1, 2] rfl)
  · have hf := hf.2 c9
    refine lv_iload_n hx hb dX5_hasPlace_12 rfl (lv_at hl 2 rfl) ?_
    refine lv_if_ne (tgt := 40) hx hb dX5_hasPlace_13 (by decide) (fun c13 => ?_) (fun c13 => ?_)
    · have hf := hf.1 c13
      exact J_40 x1 x2 ls hf (lv_sub hl [0, 1, 2] rfl)
    · have hf := hf.2 c13
      exact J_16 x1 x2 ls hf (lv_sub hl [0, 1, 2] rfl)
theorem c_X5_hasPlace (l : Launch) (E : mx_E) (a_t : Nat) (a_storey : Nat) (a_wind : Nat) (a_pair : Nat) (a_text : Nat) (a_read : Nat) (a_now : Nat) (a_image : Nat) (a_isKept : Nat) (a_row : Nat) (a_sight : Nat) (a_ways : Nat) (a_ends : Nat) (a_tried : Nat) (v_storeys : Int32) (v_jacks : Int32) (v_soft : Int32) (v_pairs : Int32) (v_bytes : Int32) (v_position : Int32) (v_tokenAt : Int32) (v_token : Int64) (v_digits : Int32) (v_number : Int32) (v_faultAt : Int32) (v_readMany : Int32) (v_readStoreys : Int32) (v_readPairs : Int32) (v_rows : Int32) (v_sights : Int32) (v_storey : (Nat → Int32)) (v_pair : (Nat → Int32)) (x1 : Int32) (x2 : Int32) (post : Int32 → Prop) (hf : f_X5_hasPlace v_storey v_storeys v_pairs v_pair x1 x2 post) : Met l yX5_hasPlace (Cond.code yX5_hasPlace cX5_hasPlace 5 (some .boolean) :: mx_WS) rm_X5_hasPlace (va_Pc [.ref a_t, .int x1, .int x2] (mx_Pp E (w_X5_hasPlace E a_t a_storey a_wind a_pair a_text a_read a_now a_image a_isKept a_row a_sight a_ways a_ends a_tried v_storeys v_jacks v_soft v_pairs v_bytes v_position v_tokenAt v_token v_digits v_number v_faultAt v_readMany v_readStoreys v_readPairs v_rows v_sights v_storey v_pair))) (vp_Si post) 0 0 (fun _ => False) :=
  mx_metPz (by decide) rfl rfl (fun hB hP hRet ls hl => b_X5_hasPlace E a_t a_storey a_wind a_pair a_text a_read a_now a_image a_isKept a_row a_sight a_ways a_ends a_tried v_storeys v_jacks v_soft v_pairs v_bytes v_position v_tokenAt v_token v_digits v_number v_faultAt v_readMany v_readStoreys v_readPairs v_rows v_sights v_storey v_pair x1 x2 post hB hP hRet hf ls hl)
def rm_X5_whyBy : Room := { frames := 2, cells := 0, slots := 0, locals := 46 }
set_option maxHeartbeats 4000000 in
set_option maxRecDepth 100000 in
theorem b_X5_whyBy {p : Program} {l : Launch} {e : Env} {s : State} {m : MethodId} {args : Array Value} {below : List Frame} {meth : Method} {c : Code} {Q : State → Prop} (E : mx_E) (a_t : Nat) (a_storey : Nat) (a_wind : Nat) (a_pair : Nat) (a_text : Nat) (a_read : Nat) (a_now : Nat) (a_image : Nat) (a_isKept : Nat) (a_row : Nat) (a_sight : Nat) (a_ways : Nat) (a_ends : Nat) (a_tried : Nat) (v_storeys : Int32) (v_jacks : Int32) (v_soft : Int32) (v_pairs : Int32) (v_bytes : Int32) (v_position : Int32) (v_tokenAt : Int32) (v_token : Int64) (v_digits : Int32) (v_number : Int32) (v_faultAt : Int32) (v_readMany : Int32) (v_readStoreys : Int32) (v_readPairs : Int32) (v_rows : Int32) (v_sights : Int32) (v_storey : (Nat → Int32)) (v_pair : (Nat → Int32)) (x1 : Int32) (x2 : Int32) (x3 : Int32) (post : Int32 → Prop) (hB : mx_B p m c cX5_whyBy 5 s args RX5 E) (hP : va_P E.1 vwCl (w_X5_whyBy E a_t a_storey a_wind a_pair a_text a_read a_now a_image a_isKept a_row a_sight a_ways a_ends a_tried v_storeys v_jacks v_soft v_pairs v_bytes v_position v_tokenAt v_token v_digits v_number v_faultAt v_readMany v_readStoreys v_readPairs v_rows v_sights v_storey v_pair) s.heap) (hRet : ∀ (v : Int32) (pc : Nat) (ls : Array Slot), decode cX5_whyBy pc = .ok (.ireturn, 1) → post v → W p l e rm_X5_whyBy s m args below meth c s.heap [] 0 0 Q (F0 m pc ls [.int v])) (hf : f_X5_whyBy v_storeys v_storey v_pairs v_pair x1 x2 x3 post) (ls : Array Slot) (hl : lv_has ls 5 [(0, .ref a_t), (1, .int x1), (2, .int x2), (3, .int x3)]) : W p l e rm_X5_whyBy s m args below meth c s.heap [] 0 0 Q (F0 m 0 ls []) := by
  have hx := hB.x
  have hb := hB.b
  refine lv_aload_n hx hb dX5_whyBy_0 rfl (lv_at hl 0 rfl) ?_
  refine lv_iload_n hx hb dX5_whyBy_1 rfl (lv_at hl 2 rfl) ?_
  refine mx_gi (mx_runV (As := [.int x2]) (rest := []) hB (c_X5_loadOfAll l E a_t a_storey a_wind a_pair a_text a_read a_now a_image a_isKept a_row a_sight a_ways a_ends a_tried v_storeys v_jacks v_soft v_pairs v_bytes v_position v_tokenAt v_token v_digits v_number v_faultAt v_readMany v_readStoreys v_readPairs v_rows v_sights v_storey x2 _ hf) sB_X5_loadOfAll sV_X5_loadOfAll wml_X5_186 rfl (mx_ppV hB hP [0, 1] rfl 5 rfl rfl rfl) hl.1 rfl (Nat.le_of_ble_eq_true rfl) dX5_whyBy_2 ⟨Nat.zero_le _, Nat.zero_le _⟩) (fun r1 hf => ?_)
  refine lv_istore (lv' := [(4, .int r1), (0, .ref a_t), (1, .int x1), (2, .int x2), (3, .int x3)]) hx hb dX5_whyBy_5 hl (by decide) rfl (fun ls hl => ?_)
  refine lv_iload_n hx hb dX5_whyBy_7 rfl (lv_at hl 3 rfl) ?_
  refine lv_iload_n hx hb dX5_whyBy_8 rfl (lv_at hl 2 rfl) ?_
  refine mx_gi (mx_runS (As := [.int x2, .int x1]) (rest := []) hB (c_X5_has l E x2 x1 _ hf) sB_X5_has wst_X5_has wml_X5_179 rfl (mx_pp hB hP [] rfl) hl.1 rfl (Nat.le_of_ble_eq_true rfl) dX5_whyBy_9 ⟨Nat.zero_le _, Nat.zero_le _⟩) (fun r2 hf => ?_)
  refine lv_if_eq (tgt := 19) hx hb dX5_whyBy_12 (by decide) (fun c12 => ?_) (fun c12 => ?_)
  · have hf := hf.1 c12
    refine lv_aload_n hx hb dX5_whyBy_19 rfl (lv_at hl 1 rfl) ?_
    refine lv_iload_n hx hb dX5_whyBy_20 rfl (lv_at hl 2 rfl) ?_
    refine lv_iload_n hx hb dX5_whyBy_21 rfl (lv_at hl 3 rfl) ?_
    refine mx_gi (mx_runV (As := [.int x1, .int x2]) (rest := []) hB (c_X5_hasPlace l E a_t a_storey a_wind a_pair a_text a_read a_now a_image a_isKept a_row a_sight a_ways a_ends a_tried v_storeys v_jacks v_soft v_pairs v_bytes v_position v_tokenAt v_token v_digits v_number v_faultAt v_readMany v_readStoreys v_readPairs v_rows v_sights v_storey v_pair x1 x2 _ hf) sB_X5_hasPlace sV_X5_hasPlace wml_X5_189 rfl (mx_ppV hB hP [0, 1, 2] rfl 5 rfl rfl rfl) hl.1 rfl (Nat.le_of_ble_eq_true rfl) dX5_whyBy_22 ⟨Nat.zero_le _, Nat.zero_le _⟩) (fun r3 hf => ?_)
    refine lv_if_ne (tgt := 32) hx hb dX5_whyBy_25 (by decide) (fun c25 => ?_) (fun c25 => ?_)
    · have hf := hf.1 c25
      refine lv_aload_n hx hb dX5_whyBy_32 rfl (lv_at hl 1 rfl) ?_
      refine gf_X5_7 hB hP 0 rfl rfl dX5_whyBy_33 ?_
      refine lv_iconst hx hb dX5_whyBy_36 kc_i_5 ?_
      refine lv_iload_n hx hb dX5_whyBy_37 rfl (lv_at hl 2 rfl) ?_
      refine lv_imul hx hb dX5_whyBy_38 ?_
      refine lv_iconst hx hb dX5_whyBy_39 kc_i_2 ?_
      refine lv_iadd hx hb dX5_whyBy_40 ?_
      obtain ⟨h_in, hf⟩ := hf
      refine va_iald hx hb hB.K hP 1 0 rfl rfl h_in dX5_whyBy_41 ?_
      refine lv_iload hx hb dX5_whyBy_42 (lv_at hl 0 rfl) ?_
      refine lv_icmp_ge (tgt := 51) hx hb dX5_whyBy_44 (by decide) (fun c44 => ?_) (fun c44 => ?_)
      · have hf := hf.1 c44
        refine lv_iload_n hx hb dX5_whyBy_51 rfl (lv_at hl 4 rfl) ?_
        refine lv_iload hx hb dX5_whyBy_52 (lv_at hl 0 rfl) ?_
        refine lv_icmp_ge (tgt := 61) hx hb dX5_whyBy_54 (by decide) (fun c54 => ?_) (fun c54 => ?_)
        · have hf := hf.1 c54
          refine lv_iconst hx hb dX5_whyBy_61 kc_i_0 ?_
          exact hRet 0 62 ls dX5_whyBy_62 hf
        · have hf := hf.2 c54
          refine lv_iconst hx hb dX5_whyBy_57 kc_i_4 ?_
          refine lv_goto (tgt := 62) hx hb dX5_whyBy_58 (by decide) ?_
          exact hRet 4 62 ls dX5_whyBy_62 hf
      · have hf := hf.2 c44
        refine lv_iconst hx hb dX5_whyBy_47 kc_i_3 ?_
        refine lv_goto (tgt := 62) hx hb dX5_whyBy_48 (by decide) ?_
        exact hRet 3 62 ls dX5_whyBy_62 hf
    · have hf := hf.2 c25
      refine lv_iconst hx hb dX5_whyBy_28 kc_i_2 ?_
      refine lv_goto (tgt := 62) hx hb dX5_whyBy_29 (by decide) ?_
      exact hRet 2 62 ls dX5_whyBy_62 hf
  · have hf := hf.2 c12
    refine lv_iconst hx hb dX5_whyBy_15 kc_i_1 ?_
    refine lv_goto (tgt := 62) hx hb dX5_whyBy_16 (by decide) ?_
    exact hRet 1 62 ls dX5_whyBy_62 hf
theorem c_X5_whyBy (l : Launch) (E : mx_E) (a_t : Nat) (a_storey : Nat) (a_wind : Nat) (a_pair : Nat) (a_text : Nat) (a_read : Nat) (a_now : Nat) (a_image : Nat) (a_isKept : Nat) (a_row : Nat) (a_sight : Nat) (a_ways : Nat) (a_ends : Nat) (a_tried : Nat) (v_storeys : Int32) (v_jacks : Int32) (v_soft : Int32) (v_pairs : Int32) (v_bytes : Int32) (v_position : Int32) (v_tokenAt : Int32) (v_token : Int64) (v_digits : Int32) (v_number : Int32) (v_faultAt : Int32) (v_readMany : Int32) (v_readStoreys : Int32) (v_readPairs : Int32) (v_rows : Int32) (v_sights : Int32) (v_storey : (Nat → Int32)) (v_pair : (Nat → Int32)) (x1 : Int32) (x2 : Int32) (x3 : Int32) (post : Int32 → Prop) (hf : f_X5_whyBy v_storeys v_storey v_pairs v_pair x1 x2 x3 post) : Met l yX5_whyBy (Cond.code yX5_whyBy cX5_whyBy 5 (some .int) :: mx_WS) rm_X5_whyBy (va_Pc [.ref a_t, .int x1, .int x2, .int x3] (mx_Pp E (w_X5_whyBy E a_t a_storey a_wind a_pair a_text a_read a_now a_image a_isKept a_row a_sight a_ways a_ends a_tried v_storeys v_jacks v_soft v_pairs v_bytes v_position v_tokenAt v_token v_digits v_number v_faultAt v_readMany v_readStoreys v_readPairs v_rows v_sights v_storey v_pair))) (vp_Si post) 0 0 (fun _ => False) :=
  mx_metPi (by decide) rfl rfl (fun hB hP hRet ls hl => b_X5_whyBy E a_t a_storey a_wind a_pair a_text a_read a_now a_image a_isKept a_row a_sight a_ways a_ends a_tried v_storeys v_jacks v_soft v_pairs v_bytes v_position v_tokenAt v_token v_digits v_number v_faultAt v_readMany v_readStoreys v_readPairs v_rows v_sights v_storey v_pair x1 x2 x3 post hB hP hRet hf ls hl)
def rm_X5_windOf : Room := { frames := 0, cells := 0, slots := 0, locals := 0 }
set_option maxHeartbeats 4000000 in
set_option maxRecDepth 100000 in
theorem b_X5_windOf {p : Program} {l : Launch} {e : Env} {s : State} {m : MethodId} {args : Array Value} {below : List Frame} {meth : Method} {c : Code} {Q : State → Prop} (E : mx_E) (a_t : Nat) (a_storey : Nat) (a_wind : Nat) (a_pair : Nat) (a_text : Nat) (a_read : Nat) (a_now : Nat) (a_image : Nat) (a_isKept : Nat) (a_row : Nat) (a_sight : Nat) (a_ways : Nat) (a_ends : Nat) (a_tried : Nat) (v_storeys : Int32) (v_jacks : Int32) (v_soft : Int32) (v_pairs : Int32) (v_bytes : Int32) (v_position : Int32) (v_tokenAt : Int32) (v_token : Int64) (v_digits : Int32) (v_number : Int32) (v_faultAt : Int32) (v_readMany : Int32) (v_readStoreys : Int32) (v_readPairs : Int32) (v_rows : Int32) (v_sights : Int32) (v_wind : (Nat → Int32)) (x1 : Int32) (post : Int32 → Prop) (hB : mx_B p m c cX5_windOf 2 s args RX5 E) (hP : va_P E.1 vwCl (w_X5_windOf E a_t a_storey a_wind a_pair a_text a_read a_now a_image a_isKept a_row a_sight a_ways a_ends a_tried v_storeys v_jacks v_soft v_pairs v_bytes v_position v_tokenAt v_token v_digits v_number v_faultAt v_readMany v_readStoreys v_readPairs v_rows v_sights v_wind) s.heap) (hRet : ∀ (v : Int32) (pc : Nat) (ls : Array Slot), decode cX5_windOf pc = .ok (.ireturn, 1) → post v → W p l e rm_X5_windOf s m args below meth c s.heap [] 0 0 Q (F0 m pc ls [.int v])) (hf : f_X5_windOf v_wind x1 post) (ls : Array Slot) (hl : lv_has ls 2 [(0, .ref a_t), (1, .int x1)]) : W p l e rm_X5_windOf s m args below meth c s.heap [] 0 0 Q (F0 m 0 ls []) := by
  have hx := hB.x
  have hb := hB.b
  refine lv_iload_n hx hb dX5_windOf_0 rfl (lv_at hl 1 rfl) ?_
  refine lv_bipush hx hb dX5_windOf_1 kc_b_40 ?_
  refine lv_icmp_ge (tgt := 15) hx hb dX5_windOf_3 (by decide) (fun c3 => ?_) (fun c3 => ?_)
  · have hf := hf.1 c3
    refine lv_iconst hx hb dX5_windOf_15 kc_i_0 ?_
    exact hRet 0 16 ls dX5_windOf_16 hf
  · have hf := hf.2 c3
    refine lv_aload_n hx hb dX5_windOf_6 rfl (lv_at hl 0 rfl) ?_
    refine gf_X5_20 hB hP 0 rfl rfl dX5_windOf_7 ?_
    refine lv_iload_n hx hb dX5_windOf_10 rfl (lv_at hl 1 rfl) ?_
    obtain ⟨h_in, hf⟩ := hf
    refine va_iald hx hb hB.K hP 1 0 rfl rfl h_in dX5_windOf_11 ?_
    refine lv_goto (tgt := 16) hx hb dX5_windOf_12 (by decide) ?_
    exact hRet (v_wind x1.toNatClampNeg) 16 ls dX5_windOf_16 hf
theorem c_X5_windOf (l : Launch) (E : mx_E) (a_t : Nat) (a_storey : Nat) (a_wind : Nat) (a_pair : Nat) (a_text : Nat) (a_read : Nat) (a_now : Nat) (a_image : Nat) (a_isKept : Nat) (a_row : Nat) (a_sight : Nat) (a_ways : Nat) (a_ends : Nat) (a_tried : Nat) (v_storeys : Int32) (v_jacks : Int32) (v_soft : Int32) (v_pairs : Int32) (v_bytes : Int32) (v_position : Int32) (v_tokenAt : Int32) (v_token : Int64) (v_digits : Int32) (v_number : Int32) (v_faultAt : Int32) (v_readMany : Int32) (v_readStoreys : Int32) (v_readPairs : Int32) (v_rows : Int32) (v_sights : Int32) (v_wind : (Nat → Int32)) (x1 : Int32) (post : Int32 → Prop) (hf : f_X5_windOf v_wind x1 post) : Met l yX5_windOf (Cond.code yX5_windOf cX5_windOf 2 (some .int) :: mx_WS) rm_X5_windOf (va_Pc [.ref a_t, .int x1] (mx_Pp E (w_X5_windOf E a_t a_storey a_wind a_pair a_text a_read a_now a_image a_isKept a_row a_sight a_ways a_ends a_tried v_storeys v_jacks v_soft v_pairs v_bytes v_position v_tokenAt v_token v_digits v_number v_faultAt v_readMany v_readStoreys v_readPairs v_rows v_sights v_wind))) (vp_Si post) 0 0 (fun _ => False) :=
  mx_metPi (by decide) rfl rfl (fun hB hP hRet ls hl => b_X5_windOf E a_t a_storey a_wind a_pair a_text a_read a_now a_image a_isKept a_row a_sight a_ways a_ends a_tried v_storeys v_jacks v_soft v_pairs v_bytes v_position v_tokenAt v_token v_digits v_number v_faultAt v_readMany v_readStoreys v_readPairs v_rows v_sights v_wind x1 post hB hP hRet hf ls hl)
def rm_X5_upSet : Room := { frames := 0, cells := 0, slots := 0, locals := 0 }
set_option maxHeartbeats 4000000 in
set_option maxRecDepth 100000 in
theorem b_X5_upSet {p : Program} {l : Launch} {e : Env} {s : State} {m : MethodId} {args : Array Value} {below : List Frame} {meth : Method} {c : Code} {Q : State → Prop} (E : mx_E) (a_t : Nat) (a_storey : Nat) (a_wind : Nat) (a_pair : Nat) (a_text : Nat) (a_read : Nat) (a_now : Nat) (a_image : Nat) (a_isKept : Nat) (a_row : Nat) (a_sight : Nat) (a_ways : Nat) (a_ends : Nat) (a_tried : Nat) (v_storeys : Int32) (v_jacks : Int32) (v_soft : Int32) (v_pairs : Int32) (v_bytes : Int32) (v_position : Int32) (v_tokenAt : Int32) (v_token : Int64) (v_digits : Int32) (v_number : Int32) (v_faultAt : Int32) (v_readMany : Int32) (v_readStoreys : Int32) (v_readPairs : Int32) (v_rows : Int32) (v_sights : Int32) (v_now : (Nat → Int32))  (post : Int32 → Prop) (hB : mx_B p m c cX5_upSet 3 s args RX5 E) (hP : va_P E.1 vwCl (w_X5_upSet E a_t a_storey a_wind a_pair a_text a_read a_now a_image a_isKept a_row a_sight a_ways a_ends a_tried v_storeys v_jacks v_soft v_pairs v_bytes v_position v_tokenAt v_token v_digits v_number v_faultAt v_readMany v_readStoreys v_readPairs v_rows v_sights v_now) s.heap) (hRet : ∀ (v : Int32) (pc : Nat) (ls : Array Slot), decode cX5_upSet pc = .ok (.ireturn, 1) → post v → W p l e rm_X5_upSet s m args below meth c s.heap [] 0 0 Q (F0 m pc ls [.int v])) (hf : f_X5_upSet v_now post) (ls : Array Slot) (hl : lv_has ls 3 [(0, .ref a_t)]) : W p l e rm_X5_upSet s m args below meth c s.heap [] 0 0 Q (F0 m 0 ls []) := by
  have hx := hB.x
  have hb := hB.b
  have L_4 : ∀  (n : Nat) (j4_x1 : Int32) (j4_x2 : Int32) (ls : Array Slot), mx_l2 (f_X5_upSet_4 v_now post) n j4_x1 j4_x2 → lv_has ls 3 [(0, .ref a_t), (1, .int j4_x1), (2, .int j4_x2)] → W p l e rm_X5_upSet s m args below meth c s.heap [] 0 0 Q (F0 m 4 ls []) := by
    intro  n_4
    induction n_4 with
    | zero =>
      intro j4_x1 j4_x2 ls hf hl
      exact False.elim hf
    | succ n_4 ih_4 =>
      intro j4_x1 j4_x2 ls hf hl
      replace hf : f_X5_upSet_4 v_now post (mx_l2 (f_X5_upSet_4 v_now post) n_4) j4_x1 j4_x2 := hf
      refine lv_iload_n hx hb dX5_upSet_4 rfl (lv_at hl 2 rfl) ?_
      refine lv_aload_n hx hb dX5_upSet_5 rfl (lv_at hl 0 rfl) ?_
      refine gf_X5_32 hB hP 0 rfl rfl dX5_upSet_6 ?_
      refine lv_iconst hx hb dX5_upSet_9 kc_i_0 ?_
      obtain ⟨h_in, hf⟩ := hf
      refine va_iald hx hb hB.K hP 1 0 rfl rfl h_in dX5_upSet_10 ?_
      refine lv_icmp_ge (tgt := 33) hx hb dX5_upSet_11 (by decide) (fun c11 => ?_) (fun c11 => ?_)
      · have hf := hf.1 c11
        refine lv_iload_n hx hb dX5_upSet_33 rfl (lv_at hl 1 rfl) ?_
        exact hRet j4_x1 34 ls dX5_upSet_34 hf
      · have hf := hf.2 c11
        refine lv_iload_n hx hb dX5_upSet_14 rfl (lv_at hl 1 rfl) ?_
        refine lv_iconst hx hb dX5_upSet_15 kc_i_1 ?_
        refine lv_aload_n hx hb dX5_upSet_16 rfl (lv_at hl 0 rfl) ?_
        refine gf_X5_32 hB hP 0 rfl rfl dX5_upSet_17 ?_
        refine lv_iconst hx hb dX5_upSet_20 kc_i_2 ?_
        refine lv_iload_n hx hb dX5_upSet_21 rfl (lv_at hl 2 rfl) ?_
        refine lv_iadd hx hb dX5_upSet_22 ?_
        obtain ⟨h_in, hf⟩ := hf
        refine va_iald hx hb hB.K hP 1 0 rfl rfl h_in dX5_upSet_23 ?_
        refine lv_ishl hx hb dX5_upSet_24 ?_
        refine lv_ior hx hb dX5_upSet_25 ?_
        refine lv_istore_n (lv' := [(1, .int (j4_x1 ||| (1 <<< ((v_now (2 + j4_x2).toNatClampNeg) &&& 31)))), (0, .ref a_t), (2, .int j4_x2)]) hx hb dX5_upSet_26 rfl hl (by decide) rfl (fun ls hl => ?_)
        refine lv_iinc (v := j4_x2 + 1) (lv' := [(2, .int (j4_x2 + 1)), (1, .int (j4_x1 ||| (1 <<< ((v_now (2 + j4_x2).toNatClampNeg) &&& 31)))), (0, .ref a_t)]) hx hb dX5_upSet_27 hl (k := 2) rfl (by rw [kc_i_1]) (by decide) rfl (fun ls hl => ?_)
        refine lv_goto (tgt := 4) hx hb dX5_upSet_30 (by decide) ?_
        exact ih_4 (j4_x1 ||| (1 <<< ((v_now (2 + j4_x2).toNatClampNeg) &&& 31))) (j4_x2 + 1) ls hf (lv_sub hl [2, 1, 0] rfl)
  refine lv_iconst hx hb dX5_upSet_0 kc_i_0 ?_
  refine lv_istore_n (lv' := [(1, .int 0), (0, .ref a_t)]) hx hb dX5_upSet_1 rfl hl (by decide) rfl (fun ls hl => ?_)
  refine lv_iconst hx hb dX5_upSet_2 kc_i_0 ?_
  refine lv_istore_n (lv' := [(2, .int 0), (1, .int 0), (0, .ref a_t)]) hx hb dX5_upSet_3 rfl hl (by decide) rfl (fun ls hl => ?_)
  obtain ⟨n9, hf⟩ := hf
  exact L_4  n9 0 0 ls hf (lv_sub hl [2, 1, 0] rfl)
theorem c_X5_upSet (l : Launch) (E : mx_E) (a_t : Nat) (a_storey : Nat) (a_wind : Nat) (a_pair : Nat) (a_text : Nat) (a_read : Nat) (a_now : Nat) (a_image : Nat) (a_isKept : Nat) (a_row : Nat) (a_sight : Nat) (a_ways : Nat) (a_ends : Nat) (a_tried : Nat) (v_storeys : Int32) (v_jacks : Int32) (v_soft : Int32) (v_pairs : Int32) (v_bytes : Int32) (v_position : Int32) (v_tokenAt : Int32) (v_token : Int64) (v_digits : Int32) (v_number : Int32) (v_faultAt : Int32) (v_readMany : Int32) (v_readStoreys : Int32) (v_readPairs : Int32) (v_rows : Int32) (v_sights : Int32) (v_now : (Nat → Int32))  (post : Int32 → Prop) (hf : f_X5_upSet v_now post) : Met l yX5_upSet (Cond.code yX5_upSet cX5_upSet 3 (some .int) :: mx_WS) rm_X5_upSet (va_Pc [.ref a_t] (mx_Pp E (w_X5_upSet E a_t a_storey a_wind a_pair a_text a_read a_now a_image a_isKept a_row a_sight a_ways a_ends a_tried v_storeys v_jacks v_soft v_pairs v_bytes v_position v_tokenAt v_token v_digits v_number v_faultAt v_readMany v_readStoreys v_readPairs v_rows v_sights v_now))) (vp_Si post) 0 0 (fun _ => False) :=
  mx_metPi (by decide) rfl rfl (fun hB hP hRet ls hl => b_X5_upSet E a_t a_storey a_wind a_pair a_text a_read a_now a_image a_isKept a_row a_sight a_ways a_ends a_tried v_storeys v_jacks v_soft v_pairs v_bytes v_position v_tokenAt v_token v_digits v_number v_faultAt v_readMany v_readStoreys v_readPairs v_rows v_sights v_now  post hB hP hRet hf ls hl)
def rm_X5_whyNow : Room := { frames := 3, cells := 0, slots := 0, locals := 70 }
set_option maxHeartbeats 4000000 in
set_option maxRecDepth 100000 in
theorem b_X5_whyNow {p : Program} {l : Launch} {e : Env} {s : State} {m : MethodId} {args : Array Value} {below : List Frame} {meth : Method} {c : Code} {Q : State → Prop} (E : mx_E) (a_t : Nat) (a_storey : Nat) (a_wind : Nat) (a_pair : Nat) (a_text : Nat) (a_read : Nat) (a_now : Nat) (a_image : Nat) (a_isKept : Nat) (a_row : Nat) (a_sight : Nat) (a_ways : Nat) (a_ends : Nat) (a_tried : Nat) (v_storeys : Int32) (v_jacks : Int32) (v_soft : Int32) (v_pairs : Int32) (v_bytes : Int32) (v_position : Int32) (v_tokenAt : Int32) (v_token : Int64) (v_digits : Int32) (v_number : Int32) (v_faultAt : Int32) (v_readMany : Int32) (v_readStoreys : Int32) (v_readPairs : Int32) (v_rows : Int32) (v_sights : Int32) (v_now : (Nat → Int32)) (v_storey : (Nat → Int32)) (v_pair : (Nat → Int32)) (v_wind : (Nat → Int32)) (x1 : Int32) (post : Int32 → Prop) (hB : mx_B p m c cX5_whyNow 3 s args RX5 E) (hP : va_P E.1 vwCl (w_X5_whyNow E a_t a_storey a_wind a_pair a_text a_read a_now a_image a_isKept a_row a_sight a_ways a_ends a_tried v_storeys v_jacks v_soft v_pairs v_bytes v_position v_tokenAt v_token v_digits v_number v_faultAt v_readMany v_readStoreys v_readPairs v_rows v_sights v_now v_storey v_pair v_wind) s.heap) (hRet : ∀ (v : Int32) (pc : Nat) (ls : Array Slot), decode cX5_whyNow pc = .ok (.ireturn, 1) → post v → W p l e rm_X5_whyNow s m args below meth c s.heap [] 0 0 Q (F0 m pc ls [.int v])) (hf : f_X5_whyNow v_now v_jacks v_storeys v_storey v_pairs v_pair v_wind x1 post) (ls : Array Slot) (hl : lv_has ls 3 [(0, .ref a_t), (1, .int x1)]) : W p l e rm_X5_whyNow s m args below meth c s.heap [] 0 0 Q (F0 m 0 ls []) := by
  have hx := hB.x
  have hb := hB.b
  refine lv_aload_n hx hb dX5_whyNow_0 rfl (lv_at hl 0 rfl) ?_
  refine lv_iload_n hx hb dX5_whyNow_1 rfl (lv_at hl 1 rfl) ?_
  refine lv_aload_n hx hb dX5_whyNow_2 rfl (lv_at hl 0 rfl) ?_
  refine mx_gi (mx_runV (As := []) (rest := [.int x1, .ref a_t]) hB (c_X5_upSet l E a_t a_storey a_wind a_pair a_text a_read a_now a_image a_isKept a_row a_sight a_ways a_ends a_tried v_storeys v_jacks v_soft v_pairs v_bytes v_position v_tokenAt v_token v_digits v_number v_faultAt v_readMany v_readStoreys v_readPairs v_rows v_sights v_now _ hf) sB_X5_upSet sV_X5_upSet wml_X5_192 rfl (mx_ppV hB hP [0, 1] rfl 5 rfl rfl rfl) hl.1 rfl (Nat.le_of_ble_eq_true rfl) dX5_whyNow_3 ⟨Nat.zero_le _, Nat.zero_le _⟩) (fun r1 hf => ?_)
  refine lv_aload_n hx hb dX5_whyNow_6 rfl (lv_at hl 0 rfl) ?_
  refine gf_X5_13 hB hP 0 rfl rfl dX5_whyNow_7 ?_
  refine mx_gi (mx_runV (As := [.int x1, .int r1, .int v_jacks]) (rest := []) hB (c_X5_whyBy l E a_t a_storey a_wind a_pair a_text a_read a_now a_image a_isKept a_row a_sight a_ways a_ends a_tried v_storeys v_jacks v_soft v_pairs v_bytes v_position v_tokenAt v_token v_digits v_number v_faultAt v_readMany v_readStoreys v_readPairs v_rows v_sights v_storey v_pair x1 r1 v_jacks _ hf) sB_X5_whyBy sV_X5_whyBy wml_X5_196 rfl (mx_ppV hB hP [0, 2, 3] rfl 5 rfl rfl rfl) hl.1 rfl (Nat.le_of_ble_eq_true rfl) dX5_whyNow_10 ⟨Nat.zero_le _, Nat.zero_le _⟩) (fun r2 hf => ?_)
  refine lv_istore_n (lv' := [(2, .int r2), (0, .ref a_t), (1, .int x1)]) hx hb dX5_whyNow_13 rfl hl (by decide) rfl (fun ls hl => ?_)
  refine lv_iload_n hx hb dX5_whyNow_14 rfl (lv_at hl 0 rfl) ?_
  refine lv_if_ne (tgt := 37) hx hb dX5_whyNow_15 (by decide) (fun c15 => ?_) (fun c15 => ?_)
  · have hf := hf.1 c15
    refine lv_iload_n hx hb dX5_whyNow_37 rfl (lv_at hl 0 rfl) ?_
    exact hRet r2 38 ls dX5_whyNow_38 hf
  · have hf := hf.2 c15
    refine lv_aload_n hx hb dX5_whyNow_18 rfl (lv_at hl 1 rfl) ?_
    refine lv_aload_n hx hb dX5_whyNow_19 rfl (lv_at hl 1 rfl) ?_
    refine gf_X5_32 hB hP 0 rfl rfl dX5_whyNow_20 ?_
    refine lv_iconst hx hb dX5_whyNow_23 kc_i_1 ?_
    obtain ⟨h_in, hf⟩ := hf
    refine va_iald hx hb hB.K hP 1 0 rfl rfl h_in dX5_whyNow_24 ?_
    refine mx_gi (mx_runV (As := [.int (v_now (1 : Int32).toNatClampNeg)]) (rest := []) hB (c_X5_windOf l E a_t a_storey a_wind a_pair a_text a_read a_now a_image a_isKept a_row a_sight a_ways a_ends a_tried v_storeys v_jacks v_soft v_pairs v_bytes v_position v_tokenAt v_token v_digits v_number v_faultAt v_readMany v_readStoreys v_readPairs v_rows v_sights v_wind (v_now (1 : Int32).toNatClampNeg) _ hf) sB_X5_windOf sV_X5_windOf wml_X5_200 rfl (mx_ppV hB hP [0, 4] rfl 5 rfl rfl rfl) hl.1 rfl (Nat.le_of_ble_eq_true rfl) dX5_whyNow_25 ⟨Nat.zero_le _, Nat.zero_le _⟩) (fun r3 hf => ?_)
    refine lv_bipush hx hb dX5_whyNow_28 kc_b_9 ?_
    refine lv_icmp_ne (tgt := 37) hx hb dX5_whyNow_30 (by decide) (fun c30 => ?_) (fun c30 => ?_)
    · have hf := hf.1 c30
      refine lv_iload_n hx hb dX5_whyNow_37 rfl (lv_at hl 0 rfl) ?_
      exact hRet r2 38 ls dX5_whyNow_38 hf
    · have hf := hf.2 c30
      refine lv_iconst hx hb dX5_whyNow_33 kc_i_5 ?_
      refine lv_goto (tgt := 38) hx hb dX5_whyNow_34 (by decide) ?_
      exact hRet 5 38 ls dX5_whyNow_38 hf
theorem c_X5_whyNow (l : Launch) (E : mx_E) (a_t : Nat) (a_storey : Nat) (a_wind : Nat) (a_pair : Nat) (a_text : Nat) (a_read : Nat) (a_now : Nat) (a_image : Nat) (a_isKept : Nat) (a_row : Nat) (a_sight : Nat) (a_ways : Nat) (a_ends : Nat) (a_tried : Nat) (v_storeys : Int32) (v_jacks : Int32) (v_soft : Int32) (v_pairs : Int32) (v_bytes : Int32) (v_position : Int32) (v_tokenAt : Int32) (v_token : Int64) (v_digits : Int32) (v_number : Int32) (v_faultAt : Int32) (v_readMany : Int32) (v_readStoreys : Int32) (v_readPairs : Int32) (v_rows : Int32) (v_sights : Int32) (v_now : (Nat → Int32)) (v_storey : (Nat → Int32)) (v_pair : (Nat → Int32)) (v_wind : (Nat → Int32)) (x1 : Int32) (post : Int32 → Prop) (hf : f_X5_whyNow v_now v_jacks v_storeys v_storey v_pairs v_pair v_wind x1 post) : Met l yX5_whyNow (Cond.code yX5_whyNow cX5_whyNow 3 (some .int) :: mx_WS) rm_X5_whyNow (va_Pc [.ref a_t, .int x1] (mx_Pp E (w_X5_whyNow E a_t a_storey a_wind a_pair a_text a_read a_now a_image a_isKept a_row a_sight a_ways a_ends a_tried v_storeys v_jacks v_soft v_pairs v_bytes v_position v_tokenAt v_token v_digits v_number v_faultAt v_readMany v_readStoreys v_readPairs v_rows v_sights v_now v_storey v_pair v_wind))) (vp_Si post) 0 0 (fun _ => False) :=
  mx_metPi (by decide) rfl rfl (fun hB hP hRet ls hl => b_X5_whyNow E a_t a_storey a_wind a_pair a_text a_read a_now a_image a_isKept a_row a_sight a_ways a_ends a_tried v_storeys v_jacks v_soft v_pairs v_bytes v_position v_tokenAt v_token v_digits v_number v_faultAt v_readMany v_readStoreys v_readPairs v_rows v_sights v_now v_storey v_pair v_wind x1 post hB hP hRet hf ls hl)
def rm_X5_why : Room := { frames := 4, cells := 0, slots := 0, locals := 92 }
set_option maxHeartbeats 4000000 in
set_option maxRecDepth 100000 in
theorem b_X5_why {p : Program} {l : Launch} {e : Env} {s : State} {m : MethodId} {args : Array Value} {below : List Frame} {meth : Method} {c : Code} {Q : State → Prop} (E : mx_E) (a_t : Nat) (a_storey : Nat) (a_wind : Nat) (a_pair : Nat) (a_text : Nat) (a_read : Nat) (a_now : Nat) (a_image : Nat) (a_isKept : Nat) (a_row : Nat) (a_sight : Nat) (a_ways : Nat) (a_ends : Nat) (a_tried : Nat) (v_storeys : Int32) (v_jacks : Int32) (v_soft : Int32) (v_pairs : Int32) (v_bytes : Int32) (v_position : Int32) (v_tokenAt : Int32) (v_token : Int64) (v_digits : Int32) (v_number : Int32) (v_faultAt : Int32) (v_readMany : Int32) (v_readStoreys : Int32) (v_readPairs : Int32) (v_rows : Int32) (v_sights : Int32) (v_now : (Nat → Int32)) (v_storey : (Nat → Int32)) (v_pair : (Nat → Int32)) (v_wind : (Nat → Int32)) (x1 : Int32) (post : Int32 → Prop) (hB : mx_B p m c cX5_why 2 s args RX5 E) (hP : va_P E.1 vwCl (w_X5_why E a_t a_storey a_wind a_pair a_text a_read a_now a_image a_isKept a_row a_sight a_ways a_ends a_tried v_storeys v_jacks v_soft v_pairs v_bytes v_position v_tokenAt v_token v_digits v_number v_faultAt v_readMany v_readStoreys v_readPairs v_rows v_sights v_now v_storey v_pair v_wind) s.heap) (hRet : ∀ (v : Int32) (pc : Nat) (ls : Array Slot), decode cX5_why pc = .ok (.ireturn, 1) → post v → W p l e rm_X5_why s m args below meth c s.heap [] 0 0 Q (F0 m pc ls [.int v])) (hf : f_X5_why v_storeys v_now v_jacks v_storey v_pairs v_pair v_wind x1 post) (ls : Array Slot) (hl : lv_has ls 2 [(0, .ref a_t), (1, .int x1)]) : W p l e rm_X5_why s m args below meth c s.heap [] 0 0 Q (F0 m 0 ls []) := by
  have hx := hB.x
  have hb := hB.b
  refine lv_aload_n hx hb dX5_why_0 rfl (lv_at hl 0 rfl) ?_
  refine lv_iload_n hx hb dX5_why_1 rfl (lv_at hl 1 rfl) ?_
  refine mx_gi (mx_runV (As := [.int x1]) (rest := []) hB (c_X5_isStorey l E a_t a_storey a_wind a_pair a_text a_read a_now a_image a_isKept a_row a_sight a_ways a_ends a_tried v_storeys v_jacks v_soft v_pairs v_bytes v_position v_tokenAt v_token v_digits v_number v_faultAt v_readMany v_readStoreys v_readPairs v_rows v_sights x1 _ hf) sB_X5_isStorey sV_X5_isStorey wml_X5_172 rfl (mx_ppV hB hP [0] rfl 5 rfl rfl rfl) hl.1 rfl (Nat.le_of_ble_eq_true rfl) dX5_why_2 ⟨Nat.zero_le _, Nat.zero_le _⟩) (fun r1 hf => ?_)
  refine lv_if_eq (tgt := 16) hx hb dX5_why_5 (by decide) (fun c5 => ?_) (fun c5 => ?_)
  · have hf := hf.1 c5
    refine lv_bipush hx hb dX5_why_16 kc_b_m2 ?_
    exact hRet (-2) 18 ls dX5_why_18 hf
  · have hf := hf.2 c5
    refine lv_aload_n hx hb dX5_why_8 rfl (lv_at hl 0 rfl) ?_
    refine lv_iload_n hx hb dX5_why_9 rfl (lv_at hl 1 rfl) ?_
    refine mx_gi (mx_runV (As := [.int x1]) (rest := []) hB (c_X5_whyNow l E a_t a_storey a_wind a_pair a_text a_read a_now a_image a_isKept a_row a_sight a_ways a_ends a_tried v_storeys v_jacks v_soft v_pairs v_bytes v_position v_tokenAt v_token v_digits v_number v_faultAt v_readMany v_readStoreys v_readPairs v_rows v_sights v_now v_storey v_pair v_wind x1 _ hf) sB_X5_whyNow sV_X5_whyNow wml_X5_203 rfl (mx_ppV hB hP [0, 1, 2, 3, 4] rfl 5 rfl rfl rfl) hl.1 rfl (Nat.le_of_ble_eq_true rfl) dX5_why_10 ⟨Nat.zero_le _, Nat.zero_le _⟩) (fun r2 hf => ?_)
    refine lv_goto (tgt := 18) hx hb dX5_why_13 (by decide) ?_
    exact hRet r2 18 ls dX5_why_18 hf
theorem c_X5_why (l : Launch) (E : mx_E) (a_t : Nat) (a_storey : Nat) (a_wind : Nat) (a_pair : Nat) (a_text : Nat) (a_read : Nat) (a_now : Nat) (a_image : Nat) (a_isKept : Nat) (a_row : Nat) (a_sight : Nat) (a_ways : Nat) (a_ends : Nat) (a_tried : Nat) (v_storeys : Int32) (v_jacks : Int32) (v_soft : Int32) (v_pairs : Int32) (v_bytes : Int32) (v_position : Int32) (v_tokenAt : Int32) (v_token : Int64) (v_digits : Int32) (v_number : Int32) (v_faultAt : Int32) (v_readMany : Int32) (v_readStoreys : Int32) (v_readPairs : Int32) (v_rows : Int32) (v_sights : Int32) (v_now : (Nat → Int32)) (v_storey : (Nat → Int32)) (v_pair : (Nat → Int32)) (v_wind : (Nat → Int32)) (x1 : Int32) (post : Int32 → Prop) (hf : f_X5_why v_storeys v_now v_jacks v_storey v_pairs v_pair v_wind x1 post) : Met l yX5_why (Cond.code yX5_why cX5_why 2 (some .int) :: mx_WS) rm_X5_why (va_Pc [.ref a_t, .int x1] (mx_Pp E (w_X5_why E a_t a_storey a_wind a_pair a_text a_read a_now a_image a_isKept a_row a_sight a_ways a_ends a_tried v_storeys v_jacks v_soft v_pairs v_bytes v_position v_tokenAt v_token v_digits v_number v_faultAt v_readMany v_readStoreys v_readPairs v_rows v_sights v_now v_storey v_pair v_wind))) (vp_Si post) 0 0 (fun _ => False) :=
  mx_metPi (by decide) rfl rfl (fun hB hP hRet ls hl => b_X5_why E a_t a_storey a_wind a_pair a_text a_read a_now a_image a_isKept a_row a_sight a_ways a_ends a_tried v_storeys v_jacks v_soft v_pairs v_bytes v_position v_tokenAt v_token v_digits v_number v_faultAt v_readMany v_readStoreys v_readPairs v_rows v_sights v_now v_storey v_pair v_wind x1 post hB hP hRet hf ls hl)
def rm_X5_lift : Room := { frames := 4, cells := 0, slots := 0, locals := 92 }
set_option maxHeartbeats 4000000 in
set_option maxRecDepth 100000 in
theorem b_X5_lift {p : Program} {l : Launch} {e : Env} {s : State} {m : MethodId} {args : Array Value} {below : List Frame} {meth : Method} {c : Code} {Q : State → Prop} {A : Nat → Prop} (E : mx_E) (a_t : Nat) (a_storey : Nat) (a_wind : Nat) (a_pair : Nat) (a_text : Nat) (a_read : Nat) (a_now : Nat) (a_image : Nat) (a_isKept : Nat) (a_row : Nat) (a_sight : Nat) (a_ways : Nat) (a_ends : Nat) (a_tried : Nat) (v_storeys : Int32) (v_jacks : Int32) (v_soft : Int32) (v_pairs : Int32) (v_bytes : Int32) (v_position : Int32) (v_tokenAt : Int32) (v_token : Int64) (v_digits : Int32) (v_number : Int32) (v_faultAt : Int32) (v_readMany : Int32) (v_readStoreys : Int32) (v_readPairs : Int32) (v_rows : Int32) (v_sights : Int32) (v_now : (Nat → Int32)) (v_storey : (Nat → Int32)) (v_pair : (Nat → Int32)) (v_wind : (Nat → Int32)) (x1 : Int32) (post : Int32 → (Nat → Int32) → Prop) (hB : mx_B p m c cX5_lift 2 s args RX5 E) (hP : va_P E.1 vwCl (w_X5_lift E a_t a_storey a_wind a_pair a_text a_read a_now a_image a_isKept a_row a_sight a_ways a_ends a_tried v_storeys v_jacks v_soft v_pairs v_bytes v_position v_tokenAt v_token v_digits v_number v_faultAt v_readMany v_readStoreys v_readPairs v_rows v_sights v_now v_storey v_pair v_wind) s.heap) (hD : va_D A (w_X5_lift E a_t a_storey a_wind a_pair a_text a_read a_now a_image a_isKept a_row a_sight a_ways a_ends a_tried v_storeys v_jacks v_soft v_pairs v_bytes v_position v_tokenAt v_token v_digits v_number v_faultAt v_readMany v_readStoreys v_readPairs v_rows v_sights v_now v_storey v_pair v_wind)) (hA : ∀ q : Nat, s.heap.size ≤ q → A q) (hRet : ∀ (v : Int32) (u : (Nat → Int32)) (pc : Nat) (ls : Array Slot) (H : Heap) (locs : List Loc), decode cX5_lift pc = .ok (.ireturn, 1) → post v u → va_P E.1 vwCl (w_X5_lift E a_t a_storey a_wind a_pair a_text a_read a_now a_image a_isKept a_row a_sight a_ways a_ends a_tried v_storeys v_jacks v_soft v_pairs v_bytes v_position v_tokenAt v_token v_digits v_number v_faultAt v_readMany v_readStoreys v_readPairs v_rows v_sights u v_storey v_pair v_wind) H → va_S A s.heap H locs → W p l e rm_X5_lift s m args below meth c H locs 0 0 Q (F0 m pc ls [.int v])) (hf : f_X5_lift v_storeys v_jacks v_storey v_pairs v_pair v_wind v_now x1 post) (ls : Array Slot) (hl : lv_has ls 2 [(0, .ref a_t), (1, .int x1)]) : W p l e rm_X5_lift s m args below meth c s.heap [] 0 0 Q (F0 m 0 ls []) := by
  have hx := hB.x
  have hb := hB.b
  have hS : va_S A s.heap s.heap [] := va_S.rf
  obtain ⟨H, locs, eH, eL⟩ : ∃ (H : Heap) (locs : List Loc), H = s.heap ∧ locs = [] := ⟨_, _, rfl, rfl⟩
  rw [← eH] at hP
  have hS : va_S A s.heap H locs := by rw [eH, eL]; exact hS
  show W p l e rm_X5_lift s m args below meth c s.heap [] 0 0 Q (F0 m 0 ls [])
  rw [← eH, ← eL]
  refine lv_aload_n hx hb dX5_lift_0 rfl (lv_at hl 0 rfl) ?_
  refine lv_iload_n hx hb dX5_lift_1 rfl (lv_at hl 1 rfl) ?_
  refine mx_gi (mx_runV (As := [.int x1]) (rest := []) hB (c_X5_isStorey l E a_t a_storey a_wind a_pair a_text a_read a_now a_image a_isKept a_row a_sight a_ways a_ends a_tried v_storeys v_jacks v_soft v_pairs v_bytes v_position v_tokenAt v_token v_digits v_number v_faultAt v_readMany v_readStoreys v_readPairs v_rows v_sights x1 _ hf) sB_X5_isStorey sV_X5_isStorey wml_X5_172 rfl (mx_ppV hB hP [0] rfl 5 rfl rfl rfl) hl.1 rfl (Nat.le_of_ble_eq_true rfl) dX5_lift_2 ⟨Nat.zero_le _, Nat.zero_le _⟩) (fun r1 hf => ?_)
  refine lv_if_ne (tgt := 11) hx hb dX5_lift_5 (by decide) (fun c5 => ?_) (fun c5 => ?_)
  · have hf := hf.1 c5
    refine lv_aload_n hx hb dX5_lift_11 rfl (lv_at hl 0 rfl) ?_
    refine lv_iload_n hx hb dX5_lift_12 rfl (lv_at hl 1 rfl) ?_
    refine mx_gi (mx_runV (As := [.int x1]) (rest := []) hB (c_X5_whyNow l E a_t a_storey a_wind a_pair a_text a_read a_now a_image a_isKept a_row a_sight a_ways a_ends a_tried v_storeys v_jacks v_soft v_pairs v_bytes v_position v_tokenAt v_token v_digits v_number v_faultAt v_readMany v_readStoreys v_readPairs v_rows v_sights v_now v_storey v_pair v_wind x1 _ hf) sB_X5_whyNow sV_X5_whyNow wml_X5_203 rfl (mx_ppV hB hP [0, 1, 2, 3, 4] rfl 5 rfl rfl rfl) hl.1 rfl (Nat.le_of_ble_eq_true rfl) dX5_lift_13 ⟨Nat.zero_le _, Nat.zero_le _⟩) (fun r2 hf => ?_)
    refine lv_if_eq (tgt := 22) hx hb dX5_lift_16 (by decide) (fun c16 => ?_) (fun c16 => ?_)
    · have hf := hf.1 c16
      refine lv_aload_n hx hb dX5_lift_22 rfl (lv_at hl 0 rfl) ?_
      refine gf_X5_32 hB hP 0 rfl rfl dX5_lift_23 ?_
      refine lv_iconst hx hb dX5_lift_26 kc_i_1 ?_
      obtain ⟨h_in, hf⟩ := hf
      refine va_iald hx hb hB.K hP 1 0 rfl rfl h_in dX5_lift_27 ?_
      refine lv_sipush hx hb dX5_lift_28 kc_s_9999 ?_
      refine lv_icmp_ne (tgt := 37) hx hb dX5_lift_31 (by decide) (fun c31 => ?_) (fun c31 => ?_)
      · have hf := hf.1 c31
        refine lv_aload_n hx hb dX5_lift_37 rfl (lv_at hl 0 rfl) ?_
        refine gf_X5_32 hB hP 0 rfl rfl dX5_lift_38 ?_
        refine lv_iconst hx hb dX5_lift_41 kc_i_2 ?_
        refine lv_aload_n hx hb dX5_lift_42 rfl (lv_at hl 0 rfl) ?_
        refine gf_X5_32 hB hP 0 rfl rfl dX5_lift_43 ?_
        refine lv_iconst hx hb dX5_lift_46 kc_i_0 ?_
        obtain ⟨h_in, hf⟩ := hf
        refine va_iald hx hb hB.K hP 1 0 rfl rfl h_in dX5_lift_47 ?_
        refine lv_iadd hx hb dX5_lift_48 ?_
        refine lv_iload_n hx hb dX5_lift_49 rfl (lv_at hl 1 rfl) ?_
        obtain ⟨h_in, hf⟩ := hf
        refine va_iast hx hb hB.K hP hD hS 1 0 rfl rfl h_in dX5_lift_50 (fun H locs hP hD hS => ?_)
        have hP : va_P E.1 vwCl (w_X5_lift E a_t a_storey a_wind a_pair a_text a_read a_now a_image a_isKept a_row a_sight a_ways a_ends a_tried v_storeys v_jacks v_soft v_pairs v_bytes v_position v_tokenAt v_token v_digits v_number v_faultAt v_readMany v_readStoreys v_readPairs v_rows v_sights (upd v_now (2 + (v_now (0 : Int32).toNatClampNeg)).toNatClampNeg x1) v_storey v_pair v_wind) H := hP
        have hD : va_D A (w_X5_lift E a_t a_storey a_wind a_pair a_text a_read a_now a_image a_isKept a_row a_sight a_ways a_ends a_tried v_storeys v_jacks v_soft v_pairs v_bytes v_position v_tokenAt v_token v_digits v_number v_faultAt v_readMany v_readStoreys v_readPairs v_rows v_sights (upd v_now (2 + (v_now (0 : Int32).toNatClampNeg)).toNatClampNeg x1) v_storey v_pair v_wind) := hD
        refine lv_aload_n hx hb dX5_lift_51 rfl (lv_at hl 0 rfl) ?_
        refine gf_X5_32 hB hP 0 rfl rfl dX5_lift_52 ?_
        refine lv_iconst hx hb dX5_lift_55 kc_i_0 ?_
        refine lv_dup2_11 hx hb dX5_lift_56 rfl rfl ?_
        obtain ⟨h_in, hf⟩ := hf
        refine va_iald hx hb hB.K hP 1 0 rfl rfl h_in dX5_lift_57 ?_
        refine lv_iconst hx hb dX5_lift_58 kc_i_1 ?_
        refine lv_iadd hx hb dX5_lift_59 ?_
        refine lv_topi (fun z3 ez3 => ?_)
        have hf := hf z3 ez3
        obtain ⟨h_in, hf⟩ := hf
        refine va_iast hx hb hB.K hP hD hS 1 0 rfl rfl h_in dX5_lift_60 (fun H locs hP hD hS => ?_)
        have hP : va_P E.1 vwCl (w_X5_lift E a_t a_storey a_wind a_pair a_text a_read a_now a_image a_isKept a_row a_sight a_ways a_ends a_tried v_storeys v_jacks v_soft v_pairs v_bytes v_position v_tokenAt v_token v_digits v_number v_faultAt v_readMany v_readStoreys v_readPairs v_rows v_sights (upd (upd v_now (2 + (v_now (0 : Int32).toNatClampNeg)).toNatClampNeg x1) (0 : Int32).toNatClampNeg z3) v_storey v_pair v_wind) H := hP
        have hD : va_D A (w_X5_lift E a_t a_storey a_wind a_pair a_text a_read a_now a_image a_isKept a_row a_sight a_ways a_ends a_tried v_storeys v_jacks v_soft v_pairs v_bytes v_position v_tokenAt v_token v_digits v_number v_faultAt v_readMany v_readStoreys v_readPairs v_rows v_sights (upd (upd v_now (2 + (v_now (0 : Int32).toNatClampNeg)).toNatClampNeg x1) (0 : Int32).toNatClampNeg z3) v_storey v_pair v_wind) := hD
        refine lv_aload_n hx hb dX5_lift_61 rfl (lv_at hl 0 rfl) ?_
        refine gf_X5_32 hB hP 0 rfl rfl dX5_lift_62 ?_
        refine lv_iconst hx hb dX5_lift_65 kc_i_1 ?_
        refine lv_dup2_11 hx hb dX5_lift_66 rfl rfl ?_
        obtain ⟨h_in, hf⟩ := hf
        refine va_iald hx hb hB.K hP 1 0 rfl rfl h_in dX5_lift_67 ?_
        refine lv_iconst hx hb dX5_lift_68 kc_i_1 ?_
        refine lv_iadd hx hb dX5_lift_69 ?_
        refine lv_topi (fun z4 ez4 => ?_)
        have hf := hf z4 ez4
        obtain ⟨h_in, hf⟩ := hf
        refine va_iast hx hb hB.K hP hD hS 1 0 rfl rfl h_in dX5_lift_70 (fun H locs hP hD hS => ?_)
        have hP : va_P E.1 vwCl (w_X5_lift E a_t a_storey a_wind a_pair a_text a_read a_now a_image a_isKept a_row a_sight a_ways a_ends a_tried v_storeys v_jacks v_soft v_pairs v_bytes v_position v_tokenAt v_token v_digits v_number v_faultAt v_readMany v_readStoreys v_readPairs v_rows v_sights (upd (upd (upd v_now (2 + (v_now (0 : Int32).toNatClampNeg)).toNatClampNeg x1) (0 : Int32).toNatClampNeg z3) (1 : Int32).toNatClampNeg z4) v_storey v_pair v_wind) H := hP
        have hD : va_D A (w_X5_lift E a_t a_storey a_wind a_pair a_text a_read a_now a_image a_isKept a_row a_sight a_ways a_ends a_tried v_storeys v_jacks v_soft v_pairs v_bytes v_position v_tokenAt v_token v_digits v_number v_faultAt v_readMany v_readStoreys v_readPairs v_rows v_sights (upd (upd (upd v_now (2 + (v_now (0 : Int32).toNatClampNeg)).toNatClampNeg x1) (0 : Int32).toNatClampNeg z3) (1 : Int32).toNatClampNeg z4) v_storey v_pair v_wind) := hD
        refine lv_aload_n hx hb dX5_lift_71 rfl (lv_at hl 0 rfl) ?_
        refine gf_X5_32 hB hP 0 rfl rfl dX5_lift_72 ?_
        refine lv_iconst hx hb dX5_lift_75 kc_i_0 ?_
        obtain ⟨h_in, hf⟩ := hf
        refine va_iald hx hb hB.K hP 1 0 rfl rfl h_in dX5_lift_76 ?_
        exact hRet ((upd (upd (upd v_now (2 + (v_now (0 : Int32).toNatClampNeg)).toNatClampNeg x1) (0 : Int32).toNatClampNeg z3) (1 : Int32).toNatClampNeg z4) (0 : Int32).toNatClampNeg) (upd (upd (upd v_now (2 + (v_now (0 : Int32).toNatClampNeg)).toNatClampNeg x1) (0 : Int32).toNatClampNeg z3) (1 : Int32).toNatClampNeg z4) 77 ls H locs dX5_lift_77 hf hP hS
      · have hf := hf.2 c31
        refine lv_bipush hx hb dX5_lift_34 kc_b_m5 ?_
        exact hRet (-5) v_now 36 ls H locs dX5_lift_36 hf hP hS
    · have hf := hf.2 c16
      refine lv_bipush hx hb dX5_lift_19 kc_b_m4 ?_
      exact hRet (-4) v_now 21 ls H locs dX5_lift_21 hf hP hS
  · have hf := hf.2 c5
    refine lv_bipush hx hb dX5_lift_8 kc_b_m2 ?_
    exact hRet (-2) v_now 10 ls H locs dX5_lift_10 hf hP hS
theorem c_X5_lift (l : Launch) (E : mx_E) (a_t : Nat) (a_storey : Nat) (a_wind : Nat) (a_pair : Nat) (a_text : Nat) (a_read : Nat) (a_now : Nat) (a_image : Nat) (a_isKept : Nat) (a_row : Nat) (a_sight : Nat) (a_ways : Nat) (a_ends : Nat) (a_tried : Nat) (v_storeys : Int32) (v_jacks : Int32) (v_soft : Int32) (v_pairs : Int32) (v_bytes : Int32) (v_position : Int32) (v_tokenAt : Int32) (v_token : Int64) (v_digits : Int32) (v_number : Int32) (v_faultAt : Int32) (v_readMany : Int32) (v_readStoreys : Int32) (v_readPairs : Int32) (v_rows : Int32) (v_sights : Int32) (v_now : (Nat → Int32)) (v_storey : (Nat → Int32)) (v_pair : (Nat → Int32)) (v_wind : (Nat → Int32)) (sz : Nat) (x1 : Int32) (post : Int32 → (Nat → Int32) → Prop) (hf : f_X5_lift v_storeys v_jacks v_storey v_pairs v_pair v_wind v_now x1 post) : Met l yX5_lift (Cond.code yX5_lift cX5_lift 2 (some .int) :: mx_WS) rm_X5_lift (va_Pc [.ref a_t, .int x1] (mx_Pw E (w_X5_lift E a_t a_storey a_wind a_pair a_text a_read a_now a_image a_isKept a_row a_sight a_ways a_ends a_tried v_storeys v_jacks v_soft v_pairs v_bytes v_position v_tokenAt v_token v_digits v_number v_faultAt v_readMany v_readStoreys v_readPairs v_rows v_sights v_now v_storey v_pair v_wind) sz)) (va_Qi (fun (v : Int32) (u : (Nat → Int32)) => post v u) (fun u t => va_P E.1 vwCl (w_X5_lift E a_t a_storey a_wind a_pair a_text a_read a_now a_image a_isKept a_row a_sight a_ways a_ends a_tried v_storeys v_jacks v_soft v_pairs v_bytes v_position v_tokenAt v_token v_digits v_number v_faultAt v_readMany v_readStoreys v_readPairs v_rows v_sights u v_storey v_pair v_wind) t.heap) (va_A (w_X5_lift E a_t a_storey a_wind a_pair a_text a_read a_now a_image a_isKept a_row a_sight a_ways a_ends a_tried v_storeys v_jacks v_soft v_pairs v_bytes v_position v_tokenAt v_token v_digits v_number v_faultAt v_readMany v_readStoreys v_readPairs v_rows v_sights v_now v_storey v_pair v_wind) sz)) 0 0 (va_A (w_X5_lift E a_t a_storey a_wind a_pair a_text a_read a_now a_image a_isKept a_row a_sight a_ways a_ends a_tried v_storeys v_jacks v_soft v_pairs v_bytes v_position v_tokenAt v_token v_digits v_number v_faultAt v_readMany v_readStoreys v_readPairs v_rows v_sights v_now v_storey v_pair v_wind) sz) :=
  mx_metWi (by decide) rfl rfl (fun hB hP hD hA hRet ls hl => b_X5_lift E a_t a_storey a_wind a_pair a_text a_read a_now a_image a_isKept a_row a_sight a_ways a_ends a_tried v_storeys v_jacks v_soft v_pairs v_bytes v_position v_tokenAt v_token v_digits v_number v_faultAt v_readMany v_readStoreys v_readPairs v_rows v_sights v_now v_storey v_pair v_wind x1 post hB hP hD hA hRet hf ls hl)
def rm_X5_rest : Room := { frames := 1, cells := 0, slots := 0, locals := 22 }
set_option maxHeartbeats 4000000 in
set_option maxRecDepth 100000 in
theorem b_X5_rest {p : Program} {l : Launch} {e : Env} {s : State} {m : MethodId} {args : Array Value} {below : List Frame} {meth : Method} {c : Code} {Q : State → Prop} {A : Nat → Prop} (E : mx_E) (a_t : Nat) (a_storey : Nat) (a_wind : Nat) (a_pair : Nat) (a_text : Nat) (a_read : Nat) (a_now : Nat) (a_image : Nat) (a_isKept : Nat) (a_row : Nat) (a_sight : Nat) (a_ways : Nat) (a_ends : Nat) (a_tried : Nat) (v_storeys : Int32) (v_jacks : Int32) (v_soft : Int32) (v_pairs : Int32) (v_bytes : Int32) (v_position : Int32) (v_tokenAt : Int32) (v_token : Int64) (v_digits : Int32) (v_number : Int32) (v_faultAt : Int32) (v_readMany : Int32) (v_readStoreys : Int32) (v_readPairs : Int32) (v_rows : Int32) (v_sights : Int32) (v_now : (Nat → Int32)) (x1 : Int32) (post : Int32 → (Nat → Int32) → Prop) (hB : mx_B p m c cX5_rest 2 s args RX5 E) (hP : va_P E.1 vwCl (w_X5_rest E a_t a_storey a_wind a_pair a_text a_read a_now a_image a_isKept a_row a_sight a_ways a_ends a_tried v_storeys v_jacks v_soft v_pairs v_bytes v_position v_tokenAt v_token v_digits v_number v_faultAt v_readMany v_readStoreys v_readPairs v_rows v_sights v_now) s.heap) (hD : va_D A (w_X5_rest E a_t a_storey a_wind a_pair a_text a_read a_now a_image a_isKept a_row a_sight a_ways a_ends a_tried v_storeys v_jacks v_soft v_pairs v_bytes v_position v_tokenAt v_token v_digits v_number v_faultAt v_readMany v_readStoreys v_readPairs v_rows v_sights v_now)) (hA : ∀ q : Nat, s.heap.size ≤ q → A q) (hRet : ∀ (v : Int32) (u : (Nat → Int32)) (pc : Nat) (ls : Array Slot) (H : Heap) (locs : List Loc), decode cX5_rest pc = .ok (.ireturn, 1) → post v u → va_P E.1 vwCl (w_X5_rest E a_t a_storey a_wind a_pair a_text a_read a_now a_image a_isKept a_row a_sight a_ways a_ends a_tried v_storeys v_jacks v_soft v_pairs v_bytes v_position v_tokenAt v_token v_digits v_number v_faultAt v_readMany v_readStoreys v_readPairs v_rows v_sights u) H → va_S A s.heap H locs → W p l e rm_X5_rest s m args below meth c H locs 0 0 Q (F0 m pc ls [.int v])) (hf : f_X5_rest v_now x1 post) (ls : Array Slot) (hl : lv_has ls 2 [(0, .ref a_t), (1, .int x1)]) : W p l e rm_X5_rest s m args below meth c s.heap [] 0 0 Q (F0 m 0 ls []) := by
  have hx := hB.x
  have hb := hB.b
  have hS : va_S A s.heap s.heap [] := va_S.rf
  obtain ⟨H, locs, eH, eL⟩ : ∃ (H : Heap) (locs : List Loc), H = s.heap ∧ locs = [] := ⟨_, _, rfl, rfl⟩
  rw [← eH] at hP
  have hS : va_S A s.heap H locs := by rw [eH, eL]; exact hS
  show W p l e rm_X5_rest s m args below meth c s.heap [] 0 0 Q (F0 m 0 ls [])
  rw [← eH, ← eL]
  refine lv_iload_n hx hb dX5_rest_0 rfl (lv_at hl 1 rfl) ?_
  refine lv_iconst hx hb dX5_rest_1 kc_i_1 ?_
  refine lv_bipush hx hb dX5_rest_2 kc_b_99 ?_
  refine mx_gi (mx_runS (As := [.int x1, .int 1, .int 99]) (rest := []) hB (c_X5_in1 l E x1 1 99 _ hf) sB_X5_in1 wst_X5_in1 wml_X5_60 rfl (mx_pp hB hP [] rfl) hl.1 rfl (Nat.le_of_ble_eq_true rfl) dX5_rest_4 ⟨Nat.zero_le _, Nat.zero_le _⟩) (fun r1 hf => ?_)
  refine lv_if_ne (tgt := 13) hx hb dX5_rest_7 (by decide) (fun c7 => ?_) (fun c7 => ?_)
  · have hf := hf.1 c7
    refine lv_aload_n hx hb dX5_rest_13 rfl (lv_at hl 0 rfl) ?_
    refine gf_X5_32 hB hP 0 rfl rfl dX5_rest_14 ?_
    refine lv_iconst hx hb dX5_rest_17 kc_i_1 ?_
    obtain ⟨h_in, hf⟩ := hf
    refine va_iald hx hb hB.K hP 1 0 rfl rfl h_in dX5_rest_18 ?_
    refine lv_iload_n hx hb dX5_rest_19 rfl (lv_at hl 1 rfl) ?_
    refine lv_iadd hx hb dX5_rest_20 ?_
    refine lv_sipush hx hb dX5_rest_21 kc_s_9999 ?_
    refine lv_icmp_le (tgt := 30) hx hb dX5_rest_24 (by decide) (fun c24 => ?_) (fun c24 => ?_)
    · have hf := hf.1 c24
      refine lv_aload_n hx hb dX5_rest_30 rfl (lv_at hl 0 rfl) ?_
      refine gf_X5_32 hB hP 0 rfl rfl dX5_rest_31 ?_
      refine lv_iconst hx hb dX5_rest_34 kc_i_1 ?_
      refine lv_dup2_11 hx hb dX5_rest_35 rfl rfl ?_
      obtain ⟨h_in, hf⟩ := hf
      refine va_iald hx hb hB.K hP 1 0 rfl rfl h_in dX5_rest_36 ?_
      refine lv_iload_n hx hb dX5_rest_37 rfl (lv_at hl 1 rfl) ?_
      refine lv_iadd hx hb dX5_rest_38 ?_
      obtain ⟨h_in, hf⟩ := hf
      refine va_iast hx hb hB.K hP hD hS 1 0 rfl rfl h_in dX5_rest_39 (fun H locs hP hD hS => ?_)
      have hP : va_P E.1 vwCl (w_X5_rest E a_t a_storey a_wind a_pair a_text a_read a_now a_image a_isKept a_row a_sight a_ways a_ends a_tried v_storeys v_jacks v_soft v_pairs v_bytes v_position v_tokenAt v_token v_digits v_number v_faultAt v_readMany v_readStoreys v_readPairs v_rows v_sights (upd v_now (1 : Int32).toNatClampNeg ((v_now (1 : Int32).toNatClampNeg) + x1))) H := hP
      have hD : va_D A (w_X5_rest E a_t a_storey a_wind a_pair a_text a_read a_now a_image a_isKept a_row a_sight a_ways a_ends a_tried v_storeys v_jacks v_soft v_pairs v_bytes v_position v_tokenAt v_token v_digits v_number v_faultAt v_readMany v_readStoreys v_readPairs v_rows v_sights (upd v_now (1 : Int32).toNatClampNeg ((v_now (1 : Int32).toNatClampNeg) + x1))) := hD
      refine lv_aload_n hx hb dX5_rest_40 rfl (lv_at hl 0 rfl) ?_
      refine gf_X5_32 hB hP 0 rfl rfl dX5_rest_41 ?_
      refine lv_iconst hx hb dX5_rest_44 kc_i_1 ?_
      obtain ⟨h_in, hf⟩ := hf
      refine va_iald hx hb hB.K hP 1 0 rfl rfl h_in dX5_rest_45 ?_
      exact hRet ((upd v_now (1 : Int32).toNatClampNeg ((v_now (1 : Int32).toNatClampNeg) + x1)) (1 : Int32).toNatClampNeg) (upd v_now (1 : Int32).toNatClampNeg ((v_now (1 : Int32).toNatClampNeg) + x1)) 46 ls H locs dX5_rest_46 hf hP hS
    · have hf := hf.2 c24
      refine lv_bipush hx hb dX5_rest_27 kc_b_m5 ?_
      exact hRet (-5) v_now 29 ls H locs dX5_rest_29 hf hP hS
  · have hf := hf.2 c7
    refine lv_bipush hx hb dX5_rest_10 kc_b_m3 ?_
    exact hRet (-3) v_now 12 ls H locs dX5_rest_12 hf hP hS
theorem c_X5_rest (l : Launch) (E : mx_E) (a_t : Nat) (a_storey : Nat) (a_wind : Nat) (a_pair : Nat) (a_text : Nat) (a_read : Nat) (a_now : Nat) (a_image : Nat) (a_isKept : Nat) (a_row : Nat) (a_sight : Nat) (a_ways : Nat) (a_ends : Nat) (a_tried : Nat) (v_storeys : Int32) (v_jacks : Int32) (v_soft : Int32) (v_pairs : Int32) (v_bytes : Int32) (v_position : Int32) (v_tokenAt : Int32) (v_token : Int64) (v_digits : Int32) (v_number : Int32) (v_faultAt : Int32) (v_readMany : Int32) (v_readStoreys : Int32) (v_readPairs : Int32) (v_rows : Int32) (v_sights : Int32) (v_now : (Nat → Int32)) (sz : Nat) (x1 : Int32) (post : Int32 → (Nat → Int32) → Prop) (hf : f_X5_rest v_now x1 post) : Met l yX5_rest (Cond.code yX5_rest cX5_rest 2 (some .int) :: mx_WS) rm_X5_rest (va_Pc [.ref a_t, .int x1] (mx_Pw E (w_X5_rest E a_t a_storey a_wind a_pair a_text a_read a_now a_image a_isKept a_row a_sight a_ways a_ends a_tried v_storeys v_jacks v_soft v_pairs v_bytes v_position v_tokenAt v_token v_digits v_number v_faultAt v_readMany v_readStoreys v_readPairs v_rows v_sights v_now) sz)) (va_Qi (fun (v : Int32) (u : (Nat → Int32)) => post v u) (fun u t => va_P E.1 vwCl (w_X5_rest E a_t a_storey a_wind a_pair a_text a_read a_now a_image a_isKept a_row a_sight a_ways a_ends a_tried v_storeys v_jacks v_soft v_pairs v_bytes v_position v_tokenAt v_token v_digits v_number v_faultAt v_readMany v_readStoreys v_readPairs v_rows v_sights u) t.heap) (va_A (w_X5_rest E a_t a_storey a_wind a_pair a_text a_read a_now a_image a_isKept a_row a_sight a_ways a_ends a_tried v_storeys v_jacks v_soft v_pairs v_bytes v_position v_tokenAt v_token v_digits v_number v_faultAt v_readMany v_readStoreys v_readPairs v_rows v_sights v_now) sz)) 0 0 (va_A (w_X5_rest E a_t a_storey a_wind a_pair a_text a_read a_now a_image a_isKept a_row a_sight a_ways a_ends a_tried v_storeys v_jacks v_soft v_pairs v_bytes v_position v_tokenAt v_token v_digits v_number v_faultAt v_readMany v_readStoreys v_readPairs v_rows v_sights v_now) sz) :=
  mx_metWi (by decide) rfl rfl (fun hB hP hD hA hRet ls hl => b_X5_rest E a_t a_storey a_wind a_pair a_text a_read a_now a_image a_isKept a_row a_sight a_ways a_ends a_tried v_storeys v_jacks v_soft v_pairs v_bytes v_position v_tokenAt v_token v_digits v_number v_faultAt v_readMany v_readStoreys v_readPairs v_rows v_sights v_now x1 post hB hP hD hA hRet hf ls hl)
def rm_X5_up : Room := { frames := 0, cells := 0, slots := 0, locals := 0 }
set_option maxHeartbeats 4000000 in
set_option maxRecDepth 100000 in
theorem b_X5_up {p : Program} {l : Launch} {e : Env} {s : State} {m : MethodId} {args : Array Value} {below : List Frame} {meth : Method} {c : Code} {Q : State → Prop} (E : mx_E) (a_t : Nat) (a_storey : Nat) (a_wind : Nat) (a_pair : Nat) (a_text : Nat) (a_read : Nat) (a_now : Nat) (a_image : Nat) (a_isKept : Nat) (a_row : Nat) (a_sight : Nat) (a_ways : Nat) (a_ends : Nat) (a_tried : Nat) (v_storeys : Int32) (v_jacks : Int32) (v_soft : Int32) (v_pairs : Int32) (v_bytes : Int32) (v_position : Int32) (v_tokenAt : Int32) (v_token : Int64) (v_digits : Int32) (v_number : Int32) (v_faultAt : Int32) (v_readMany : Int32) (v_readStoreys : Int32) (v_readPairs : Int32) (v_rows : Int32) (v_sights : Int32) (v_now : (Nat → Int32)) (x1 : Int32) (post : Int32 → Prop) (hB : mx_B p m c cX5_up 2 s args RX5 E) (hP : va_P E.1 vwCl (w_X5_up E a_t a_storey a_wind a_pair a_text a_read a_now a_image a_isKept a_row a_sight a_ways a_ends a_tried v_storeys v_jacks v_soft v_pairs v_bytes v_position v_tokenAt v_token v_digits v_number v_faultAt v_readMany v_readStoreys v_readPairs v_rows v_sights v_now) s.heap) (hRet : ∀ (v : Int32) (pc : Nat) (ls : Array Slot), decode cX5_up pc = .ok (.ireturn, 1) → post v → W p l e rm_X5_up s m args below meth c s.heap [] 0 0 Q (F0 m pc ls [.int v])) (hf : f_X5_up v_now x1 post) (ls : Array Slot) (hl : lv_has ls 2 [(0, .ref a_t), (1, .int x1)]) : W p l e rm_X5_up s m args below meth c s.heap [] 0 0 Q (F0 m 0 ls []) := by
  have hx := hB.x
  have hb := hB.b
  refine lv_iload_n hx hb dX5_up_0 rfl (lv_at hl 1 rfl) ?_
  refine lv_if_ge (tgt := 7) hx hb dX5_up_1 (by decide) (fun c1 => ?_) (fun c1 => ?_)
  · have hf := hf.1 c1
    refine lv_iload_n hx hb dX5_up_7 rfl (lv_at hl 1 rfl) ?_
    refine lv_aload_n hx hb dX5_up_8 rfl (lv_at hl 0 rfl) ?_
    refine gf_X5_32 hB hP 0 rfl rfl dX5_up_9 ?_
    refine lv_iconst hx hb dX5_up_12 kc_i_0 ?_
    obtain ⟨h_in, hf⟩ := hf
    refine va_iald hx hb hB.K hP 1 0 rfl rfl h_in dX5_up_13 ?_
    refine lv_icmp_ge (tgt := 28) hx hb dX5_up_14 (by decide) (fun c14 => ?_) (fun c14 => ?_)
    · have hf := hf.1 c14
      refine lv_iconst hx hb dX5_up_28 kc_i_m1 ?_
      exact hRet (-1) 29 ls dX5_up_29 hf
    · have hf := hf.2 c14
      refine lv_aload_n hx hb dX5_up_17 rfl (lv_at hl 0 rfl) ?_
      refine gf_X5_32 hB hP 0 rfl rfl dX5_up_18 ?_
      refine lv_iconst hx hb dX5_up_21 kc_i_2 ?_
      refine lv_iload_n hx hb dX5_up_22 rfl (lv_at hl 1 rfl) ?_
      refine lv_iadd hx hb dX5_up_23 ?_
      obtain ⟨h_in, hf⟩ := hf
      refine va_iald hx hb hB.K hP 1 0 rfl rfl h_in dX5_up_24 ?_
      refine lv_goto (tgt := 29) hx hb dX5_up_25 (by decide) ?_
      exact hRet (v_now (2 + x1).toNatClampNeg) 29 ls dX5_up_29 hf
  · have hf := hf.2 c1
    refine lv_bipush hx hb dX5_up_4 kc_b_m3 ?_
    exact hRet (-3) 6 ls dX5_up_6 hf
theorem c_X5_up (l : Launch) (E : mx_E) (a_t : Nat) (a_storey : Nat) (a_wind : Nat) (a_pair : Nat) (a_text : Nat) (a_read : Nat) (a_now : Nat) (a_image : Nat) (a_isKept : Nat) (a_row : Nat) (a_sight : Nat) (a_ways : Nat) (a_ends : Nat) (a_tried : Nat) (v_storeys : Int32) (v_jacks : Int32) (v_soft : Int32) (v_pairs : Int32) (v_bytes : Int32) (v_position : Int32) (v_tokenAt : Int32) (v_token : Int64) (v_digits : Int32) (v_number : Int32) (v_faultAt : Int32) (v_readMany : Int32) (v_readStoreys : Int32) (v_readPairs : Int32) (v_rows : Int32) (v_sights : Int32) (v_now : (Nat → Int32)) (x1 : Int32) (post : Int32 → Prop) (hf : f_X5_up v_now x1 post) : Met l yX5_up (Cond.code yX5_up cX5_up 2 (some .int) :: mx_WS) rm_X5_up (va_Pc [.ref a_t, .int x1] (mx_Pp E (w_X5_up E a_t a_storey a_wind a_pair a_text a_read a_now a_image a_isKept a_row a_sight a_ways a_ends a_tried v_storeys v_jacks v_soft v_pairs v_bytes v_position v_tokenAt v_token v_digits v_number v_faultAt v_readMany v_readStoreys v_readPairs v_rows v_sights v_now))) (vp_Si post) 0 0 (fun _ => False) :=
  mx_metPi (by decide) rfl rfl (fun hB hP hRet ls hl => b_X5_up E a_t a_storey a_wind a_pair a_text a_read a_now a_image a_isKept a_row a_sight a_ways a_ends a_tried v_storeys v_jacks v_soft v_pairs v_bytes v_position v_tokenAt v_token v_digits v_number v_faultAt v_readMany v_readStoreys v_readPairs v_rows v_sights v_now x1 post hB hP hRet hf ls hl)
def rm_X5_floor : Room := { frames := 2, cells := 0, slots := 0, locals := 43 }
set_option maxHeartbeats 4000000 in
set_option maxRecDepth 100000 in
theorem b_X5_floor {p : Program} {l : Launch} {e : Env} {s : State} {m : MethodId} {args : Array Value} {below : List Frame} {meth : Method} {c : Code} {Q : State → Prop} (E : mx_E) (a_t : Nat) (a_storey : Nat) (a_wind : Nat) (a_pair : Nat) (a_text : Nat) (a_read : Nat) (a_now : Nat) (a_image : Nat) (a_isKept : Nat) (a_row : Nat) (a_sight : Nat) (a_ways : Nat) (a_ends : Nat) (a_tried : Nat) (v_storeys : Int32) (v_jacks : Int32) (v_soft : Int32) (v_pairs : Int32) (v_bytes : Int32) (v_position : Int32) (v_tokenAt : Int32) (v_token : Int64) (v_digits : Int32) (v_number : Int32) (v_faultAt : Int32) (v_readMany : Int32) (v_readStoreys : Int32) (v_readPairs : Int32) (v_rows : Int32) (v_sights : Int32) (v_now : (Nat → Int32)) (v_storey : (Nat → Int32)) (x1 : Int32) (post : Int32 → Prop) (hB : mx_B p m c cX5_floor 4 s args RX5 E) (hP : va_P E.1 vwCl (w_X5_floor E a_t a_storey a_wind a_pair a_text a_read a_now a_image a_isKept a_row a_sight a_ways a_ends a_tried v_storeys v_jacks v_soft v_pairs v_bytes v_position v_tokenAt v_token v_digits v_number v_faultAt v_readMany v_readStoreys v_readPairs v_rows v_sights v_now v_storey) s.heap) (hRet : ∀ (v : Int32) (pc : Nat) (ls : Array Slot), decode cX5_floor pc = .ok (.ireturn, 1) → post v → W p l e rm_X5_floor s m args below meth c s.heap [] 0 0 Q (F0 m pc ls [.int v])) (hf : f_X5_floor v_storeys v_now v_storey x1 post) (ls : Array Slot) (hl : lv_has ls 4 [(0, .ref a_t), (1, .int x1)]) : W p l e rm_X5_floor s m args below meth c s.heap [] 0 0 Q (F0 m 0 ls []) := by
  have hx := hB.x
  have hb := hB.b
  have L_22 : ∀ (g22_x1 : Int32) (n : Nat) (j22_x2 : Int32) (j22_x3 : Int32) (ls : Array Slot), mx_l2 (f_X5_floor_22 v_storeys v_now v_storey post g22_x1) n j22_x2 j22_x3 → lv_has ls 4 [(0, .ref a_t), (1, .int g22_x1), (2, .int j22_x2), (3, .int j22_x3)] → W p l e rm_X5_floor s m args below meth c s.heap [] 0 0 Q (F0 m 22 ls []) := by
    intro g22_x1 n_22
    induction n_22 with
    | zero =>
      intro j22_x2 j22_x3 ls hf hl
      exact False.elim hf
    | succ n_22 ih_22 =>
      intro j22_x2 j22_x3 ls hf hl
      replace hf : f_X5_floor_22 v_storeys v_now v_storey post g22_x1 (mx_l2 (f_X5_floor_22 v_storeys v_now v_storey post g22_x1) n_22) j22_x2 j22_x3 := hf
      refine lv_iload_n hx hb dX5_floor_22 rfl (lv_at hl 3 rfl) ?_
      refine lv_if_lt (tgt := 66) hx hb dX5_floor_23 (by decide) (fun c23 => ?_) (fun c23 => ?_)
      · have hf := hf.1 c23
        refine lv_iconst hx hb dX5_floor_66 kc_i_m1 ?_
        exact hRet (-1) 67 ls dX5_floor_67 hf
      · have hf := hf.2 c23
        refine lv_aload_n hx hb dX5_floor_26 rfl (lv_at hl 0 rfl) ?_
        refine gf_X5_32 hB hP 0 rfl rfl dX5_floor_27 ?_
        refine lv_iconst hx hb dX5_floor_30 kc_i_2 ?_
        refine lv_iload_n hx hb dX5_floor_31 rfl (lv_at hl 3 rfl) ?_
        refine lv_iadd hx hb dX5_floor_32 ?_
        obtain ⟨h_in, hf⟩ := hf
        refine va_iald hx hb hB.K hP 1 0 rfl rfl h_in dX5_floor_33 ?_
        refine lv_iload_n hx hb dX5_floor_34 rfl (lv_at hl 1 rfl) ?_
        refine lv_icmp_ne (tgt := 40) hx hb dX5_floor_35 (by decide) (fun c35 => ?_) (fun c35 => ?_)
        · have hf := hf.1 c35
          refine lv_iload_n hx hb dX5_floor_40 rfl (lv_at hl 2 rfl) ?_
          refine lv_aload_n hx hb dX5_floor_41 rfl (lv_at hl 0 rfl) ?_
          refine gf_X5_7 hB hP 0 rfl rfl dX5_floor_42 ?_
          refine lv_iconst hx hb dX5_floor_45 kc_i_5 ?_
          refine lv_aload_n hx hb dX5_floor_46 rfl (lv_at hl 0 rfl) ?_
          refine gf_X5_32 hB hP 0 rfl rfl dX5_floor_47 ?_
          refine lv_iconst hx hb dX5_floor_50 kc_i_2 ?_
          refine lv_iload_n hx hb dX5_floor_51 rfl (lv_at hl 3 rfl) ?_
          refine lv_iadd hx hb dX5_floor_52 ?_
          obtain ⟨h_in, hf⟩ := hf
          refine va_iald hx hb hB.K hP 1 0 rfl rfl h_in dX5_floor_53 ?_
          refine lv_imul hx hb dX5_floor_54 ?_
          refine lv_iconst hx hb dX5_floor_55 kc_i_3 ?_
          refine lv_iadd hx hb dX5_floor_56 ?_
          obtain ⟨h_in, hf⟩ := hf
          refine va_iald hx hb hB.K hP 2 0 rfl rfl h_in dX5_floor_57 ?_
          refine lv_iadd hx hb dX5_floor_58 ?_
          refine lv_istore_n (lv' := [(2, .int (j22_x2 + (v_storey ((5 * (v_now (2 + j22_x3).toNatClampNeg)) + 3).toNatClampNeg))), (0, .ref a_t), (1, .int g22_x1), (3, .int j22_x3)]) hx hb dX5_floor_59 rfl hl (by decide) rfl (fun ls hl => ?_)
          refine lv_iinc (v := j22_x3 + (-1)) (lv' := [(3, .int (j22_x3 + (-1))), (2, .int (j22_x2 + (v_storey ((5 * (v_now (2 + j22_x3).toNatClampNeg)) + 3).toNatClampNeg))), (0, .ref a_t), (1, .int g22_x1)]) hx hb dX5_floor_60 hl (k := 3) rfl (by rw [kc_i_m1]) (by decide) rfl (fun ls hl => ?_)
          refine lv_goto (tgt := 22) hx hb dX5_floor_63 (by decide) ?_
          exact ih_22 (j22_x2 + (v_storey ((5 * (v_now (2 + j22_x3).toNatClampNeg)) + 3).toNatClampNeg)) (j22_x3 + (-1)) ls hf (lv_sub hl [2, 3, 1, 0] rfl)
        · have hf := hf.2 c35
          refine lv_iload_n hx hb dX5_floor_38 rfl (lv_at hl 2 rfl) ?_
          exact hRet j22_x2 39 ls dX5_floor_39 hf
  refine lv_aload_n hx hb dX5_floor_0 rfl (lv_at hl 0 rfl) ?_
  refine lv_iload_n hx hb dX5_floor_1 rfl (lv_at hl 1 rfl) ?_
  refine mx_gi (mx_runV (As := [.int x1]) (rest := []) hB (c_X5_isStorey l E a_t a_storey a_wind a_pair a_text a_read a_now a_image a_isKept a_row a_sight a_ways a_ends a_tried v_storeys v_jacks v_soft v_pairs v_bytes v_position v_tokenAt v_token v_digits v_number v_faultAt v_readMany v_readStoreys v_readPairs v_rows v_sights x1 _ hf) sB_X5_isStorey sV_X5_isStorey wml_X5_172 rfl (mx_ppV hB hP [0] rfl 5 rfl rfl rfl) hl.1 rfl (Nat.le_of_ble_eq_true rfl) dX5_floor_2 ⟨Nat.zero_le _, Nat.zero_le _⟩) (fun r1 hf => ?_)
  refine lv_if_ne (tgt := 11) hx hb dX5_floor_5 (by decide) (fun c5 => ?_) (fun c5 => ?_)
  · have hf := hf.1 c5
    refine lv_iconst hx hb dX5_floor_11 kc_i_0 ?_
    refine lv_istore_n (lv' := [(2, .int 0), (0, .ref a_t), (1, .int x1)]) hx hb dX5_floor_12 rfl hl (by decide) rfl (fun ls hl => ?_)
    refine lv_aload_n hx hb dX5_floor_13 rfl (lv_at hl 1 rfl) ?_
    refine gf_X5_32 hB hP 0 rfl rfl dX5_floor_14 ?_
    refine lv_iconst hx hb dX5_floor_17 kc_i_0 ?_
    obtain ⟨h_in, hf⟩ := hf
    refine va_iald hx hb hB.K hP 1 0 rfl rfl h_in dX5_floor_18 ?_
    refine lv_iconst hx hb dX5_floor_19 kc_i_1 ?_
    refine lv_isub hx hb dX5_floor_20 ?_
    refine lv_istore_n (lv' := [(3, .int ((v_now (0 : Int32).toNatClampNeg) - 1)), (2, .int 0), (0, .ref a_t), (1, .int x1)]) hx hb dX5_floor_21 rfl hl (by decide) rfl (fun ls hl => ?_)
    obtain ⟨n9, hf⟩ := hf
    exact L_22 x1 n9 0 ((v_now (0 : Int32).toNatClampNeg) - 1) ls hf (lv_sub hl [2, 3, 1, 0] rfl)
  · have hf := hf.2 c5
    refine lv_bipush hx hb dX5_floor_8 kc_b_m2 ?_
    exact hRet (-2) 10 ls dX5_floor_10 hf
theorem c_X5_floor (l : Launch) (E : mx_E) (a_t : Nat) (a_storey : Nat) (a_wind : Nat) (a_pair : Nat) (a_text : Nat) (a_read : Nat) (a_now : Nat) (a_image : Nat) (a_isKept : Nat) (a_row : Nat) (a_sight : Nat) (a_ways : Nat) (a_ends : Nat) (a_tried : Nat) (v_storeys : Int32) (v_jacks : Int32) (v_soft : Int32) (v_pairs : Int32) (v_bytes : Int32) (v_position : Int32) (v_tokenAt : Int32) (v_token : Int64) (v_digits : Int32) (v_number : Int32) (v_faultAt : Int32) (v_readMany : Int32) (v_readStoreys : Int32) (v_readPairs : Int32) (v_rows : Int32) (v_sights : Int32) (v_now : (Nat → Int32)) (v_storey : (Nat → Int32)) (x1 : Int32) (post : Int32 → Prop) (hf : f_X5_floor v_storeys v_now v_storey x1 post) : Met l yX5_floor (Cond.code yX5_floor cX5_floor 4 (some .int) :: mx_WS) rm_X5_floor (va_Pc [.ref a_t, .int x1] (mx_Pp E (w_X5_floor E a_t a_storey a_wind a_pair a_text a_read a_now a_image a_isKept a_row a_sight a_ways a_ends a_tried v_storeys v_jacks v_soft v_pairs v_bytes v_position v_tokenAt v_token v_digits v_number v_faultAt v_readMany v_readStoreys v_readPairs v_rows v_sights v_now v_storey))) (vp_Si post) 0 0 (fun _ => False) :=
  mx_metPi (by decide) rfl rfl (fun hB hP hRet ls hl => b_X5_floor E a_t a_storey a_wind a_pair a_text a_read a_now a_image a_isKept a_row a_sight a_ways a_ends a_tried v_storeys v_jacks v_soft v_pairs v_bytes v_position v_tokenAt v_token v_digits v_number v_faultAt v_readMany v_readStoreys v_readPairs v_rows v_sights v_now v_storey x1 post hB hP hRet hf ls hl)
